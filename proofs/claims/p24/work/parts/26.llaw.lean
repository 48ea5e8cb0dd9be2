set_option maxHeartbeats 4000000 in
set_option maxRecDepth 100000 in
theorem cj_L_law_883 (l : Launch) (D : va_G) (kI kC kB : ClassId) (a : AdT) (h_ : Nat → AdT) (x : XS) (v2 : Int32) (v3 : Int32) {p : Program} {e : Env} {s : State} {m : MethodId} {below : List Frame} {meth : Method} {c : Code} {b L : Nat} {xs : Nat → Int32} {A : Nat → Prop} (hA : ∀ q : Nat, s.heap.size ≤ q → A q) (C : CtxT p s m #[Value.ref b] meth c code 28 ret "QuireSignsLaw" D kI kC kB) (hAf : ∀ q : Nat, A q → s.heap.size ≤ q) (hX : va_X b L xs s s.heap) (hbl : b < s.heap.size) (hL : L ≤ 260) (K71 : XS → Int32 → Int32 → Prop) (hK71 : ∀ (h_ : Nat → AdT) (x : XS) (v2 : Int32) (v3 : Int32), K71 x v2 v3 → ∀ (H : Heap) (locs : List Loc), va_P D vwCl (bfl [cwX kI kB a h_ x]) H → va_D A (bfl [cwX kI kB a h_ x]) → va_S A s.heap H locs → ∀ (ls : Array Slot), lv_has ls 28 [(0, .ref b), (1, .ref (a 0)), (2, .int v2), (3, .int v3)] → W p l e room_1 s m #[Value.ref b] below meth c H locs 78 1376 (lw_Z below #[Value.ref b] s) (F0 m 71 ls [])) : wj_L_law_883 x v2 v3 K71 → ∀ (H : Heap) (locs : List Loc), va_P D vwCl (bfl [cwX kI kB a h_ x]) H → va_D A (bfl [cwX kI kB a h_ x]) → va_S A s.heap H locs → ∀ (ls : Array Slot), lv_has ls 28 [(0, .ref b), (1, .ref (a 0)), (2, .int v2), (3, .int v3)] → W p l e room_1 s m #[Value.ref b] below meth c H locs 78 1376 (lw_Z below #[Value.ref b] s) (F0 m 883 ls []) := by
  obtain ⟨hx, hb, hr, hml, hown, hts, hlocks, hK⟩ := id C
  have hbA : ¬ A b := fun q => Nat.not_le.mpr hbl (hAf b q)
  intro hw H locs hP hD hS ls hl
  unfold wj_L_law_883 at hw
  refine lv_iload_n hx hb dL_law_883 rfl (lv_at hl 2 rfl) ?_
  refine lv_if_eq (tgt := 898) hx hb dL_law_884 (by decide) (fun hc => ?_) (fun hc => ?_)
  · replace hw := hw.1 hc
    refine lv_iconst (v := (nI 0)) hx hb dL_law_898 (by decide) ?_
    refine lv_istore_n (lv' := [(2, .int (nI 0)), (0, .ref b), (1, .ref (a 0)), (3, .int v3)]) hx hb dL_law_899 rfl hl (by decide) rfl (fun ls hl => ?_)
    refine lv_iinc (v := (v3 + nI 1)) (lv' := [(3, .int (v3 + nI 1)), (2, .int (nI 0)), (0, .ref b), (1, .ref (a 0))]) hx hb dL_law_900 hl (k := 3) rfl rfl (by decide) rfl (fun ls hl => ?_)
    refine lv_goto (tgt := 71) hx hb dL_law_903 (by decide) ?_
    exact hK71 h_ x (nI 0) (v3 + nI 1) hw H locs hP hD hS ls (lv_sub hl [2, 3, 1, 0] rfl)
  · replace hw := hw.2 hc
    refine lv_aload_n hx hb dL_law_887 rfl (lv_at hl 1 rfl) ?_
    refine kMBgS (As := [.ref (a 0)]) (rest := []) (ws' := fun u : (Nat → AdT) × XS => (bfl [cwX kI kB a u.1 u.2])) C (c_L_hangs l D kI kC kB a h_ x H.size  _ hw) ⟨rfl, rfl⟩ ce_L_hangs cv_L_hangs tw_617 ⟨(Nat.le_of_ble_eq_true rfl), (Nat.le_of_ble_eq_true rfl)⟩ hP hD hS hA (bfl_p1 [_] 0 rfl) (fun u => (bfl_p1 [_] 0 rfl))  hl.1 rfl (Nat.le_of_ble_eq_true rfl) ⟨(Nat.le_of_ble_eq_true rfl), (Nat.le_of_ble_eq_true rfl)⟩ dL_law_888 (fun r1 u H locs hw hP hD hS => ?_)
    obtain ⟨h2, x3⟩ := u
    try dsimp only at hw
    replace hP : va_P D vwCl (bfl [cwX kI kB a h2 x3]) H := hP
    replace hD : va_D A (bfl [cwX kI kB a h2 x3]) := hD
    refine lv_if_eq (tgt := 898) hx hb dL_law_891 (by decide) (fun hc => ?_) (fun hc => ?_)
    · replace hw := hw.1 hc
      refine lv_iconst (v := (nI 0)) hx hb dL_law_898 (by decide) ?_
      refine lv_istore_n (lv' := [(2, .int (nI 0)), (0, .ref b), (1, .ref (a 0)), (3, .int v3)]) hx hb dL_law_899 rfl hl (by decide) rfl (fun ls hl => ?_)
      refine lv_iinc (v := (v3 + nI 1)) (lv' := [(3, .int (v3 + nI 1)), (2, .int (nI 0)), (0, .ref b), (1, .ref (a 0))]) hx hb dL_law_900 hl (k := 3) rfl rfl (by decide) rfl (fun ls hl => ?_)
      refine lv_goto (tgt := 71) hx hb dL_law_903 (by decide) ?_
      exact hK71 h2 x3 (nI 0) (v3 + nI 1) hw H locs hP hD hS ls (lv_sub hl [2, 3, 1, 0] rfl)
    · replace hw := hw.2 hc
      refine lv_iconst (v := (nI 1)) hx hb dL_law_894 (by decide) ?_
      refine lv_goto (tgt := 899) hx hb dL_law_895 (by decide) ?_
      refine lv_istore_n (lv' := [(2, .int (nI 1)), (0, .ref b), (1, .ref (a 0)), (3, .int v3)]) hx hb dL_law_899 rfl hl (by decide) rfl (fun ls hl => ?_)
      refine lv_iinc (v := (v3 + nI 1)) (lv' := [(3, .int (v3 + nI 1)), (2, .int (nI 1)), (0, .ref b), (1, .ref (a 0))]) hx hb dL_law_900 hl (k := 3) rfl rfl (by decide) rfl (fun ls hl => ?_)
      refine lv_goto (tgt := 71) hx hb dL_law_903 (by decide) ?_
      exact hK71 h2 x3 (nI 1) (v3 + nI 1) hw H locs hP hD hS ls (lv_sub hl [2, 3, 1, 0] rfl)
set_option maxHeartbeats 4000000 in
set_option maxRecDepth 100000 in
theorem cj_L_law_261 (l : Launch) (D : va_G) (kI kC kB : ClassId) (a : AdT) (h_ : Nat → AdT) (x : XS) (v3 : Int32) {p : Program} {e : Env} {s : State} {m : MethodId} {below : List Frame} {meth : Method} {c : Code} {b L : Nat} {xs : Nat → Int32} {A : Nat → Prop} (hA : ∀ q : Nat, s.heap.size ≤ q → A q) (C : CtxT p s m #[Value.ref b] meth c code 28 ret "QuireSignsLaw" D kI kC kB) (hAf : ∀ q : Nat, A q → s.heap.size ≤ q) (hX : va_X b L xs s s.heap) (hbl : b < s.heap.size) (hL : L ≤ 260) (K71 : XS → Int32 → Int32 → Prop) (hK71 : ∀ (h_ : Nat → AdT) (x : XS) (v2 : Int32) (v3 : Int32), K71 x v2 v3 → ∀ (H : Heap) (locs : List Loc), va_P D vwCl (bfl [cwX kI kB a h_ x]) H → va_D A (bfl [cwX kI kB a h_ x]) → va_S A s.heap H locs → ∀ (ls : Array Slot), lv_has ls 28 [(0, .ref b), (1, .ref (a 0)), (2, .int v2), (3, .int v3)] → W p l e room_1 s m #[Value.ref b] below meth c H locs 78 1376 (lw_Z below #[Value.ref b] s) (F0 m 71 ls [])) : ∀ (t0 : Int32), wj_L_law_261 x v3 t0 K71 → ∀ (H : Heap) (locs : List Loc), va_P D vwCl (bfl [cwX kI kB a h_ x]) H → va_D A (bfl [cwX kI kB a h_ x]) → va_S A s.heap H locs → ∀ (ls : Array Slot), lv_has ls 28 [(0, .ref b), (1, .ref (a 0)), (3, .int v3)] → W p l e room_1 s m #[Value.ref b] below meth c H locs 78 1376 (lw_Z below #[Value.ref b] s) (F0 m 261 ls [.int t0]) := by
  obtain ⟨hx, hb, hr, hml, hown, hts, hlocks, hK⟩ := id C
  have hbA : ¬ A b := fun q => Nat.not_le.mpr hbl (hAf b q)
  intro t0 hw H locs hP hD hS ls hl
  unfold wj_L_law_261 at hw
  refine lv_istore_n (lv' := [(2, .int t0), (0, .ref b), (1, .ref (a 0)), (3, .int v3)]) hx hb dL_law_261 rfl hl (by decide) rfl (fun ls hl => ?_)
  refine lv_goto (tgt := 883) hx hb dL_law_262 (by decide) ?_
  exact cj_L_law_883 l D kI kC kB a h_ x t0 v3 hA C hAf hX hbl hL _ hK71 hw H locs hP hD hS ls (lv_sub hl [1, 2, 0, 3] rfl)
set_option maxHeartbeats 4000000 in
set_option maxRecDepth 100000 in
theorem cj_L_law_256 (l : Launch) (D : va_G) (kI kC kB : ClassId) (a : AdT) (h_ : Nat → AdT) (x : XS) (v3 : Int32) {p : Program} {e : Env} {s : State} {m : MethodId} {below : List Frame} {meth : Method} {c : Code} {b L : Nat} {xs : Nat → Int32} {A : Nat → Prop} (hA : ∀ q : Nat, s.heap.size ≤ q → A q) (C : CtxT p s m #[Value.ref b] meth c code 28 ret "QuireSignsLaw" D kI kC kB) (hAf : ∀ q : Nat, A q → s.heap.size ≤ q) (hX : va_X b L xs s s.heap) (hbl : b < s.heap.size) (hL : L ≤ 260) (K71 : XS → Int32 → Int32 → Prop) (hK71 : ∀ (h_ : Nat → AdT) (x : XS) (v2 : Int32) (v3 : Int32), K71 x v2 v3 → ∀ (H : Heap) (locs : List Loc), va_P D vwCl (bfl [cwX kI kB a h_ x]) H → va_D A (bfl [cwX kI kB a h_ x]) → va_S A s.heap H locs → ∀ (ls : Array Slot), lv_has ls 28 [(0, .ref b), (1, .ref (a 0)), (2, .int v2), (3, .int v3)] → W p l e room_1 s m #[Value.ref b] below meth c H locs 78 1376 (lw_Z below #[Value.ref b] s) (F0 m 71 ls [])) : wj_L_law_256 x v3 K71 → ∀ (H : Heap) (locs : List Loc), va_P D vwCl (bfl [cwX kI kB a h_ x]) H → va_D A (bfl [cwX kI kB a h_ x]) → va_S A s.heap H locs → ∀ (ls : Array Slot), lv_has ls 28 [(0, .ref b), (1, .ref (a 0)), (3, .int v3)] → W p l e room_1 s m #[Value.ref b] below meth c H locs 78 1376 (lw_Z below #[Value.ref b] s) (F0 m 256 ls []) := by
  obtain ⟨hx, hb, hr, hml, hown, hts, hlocks, hK⟩ := id C
  have hbA : ¬ A b := fun q => Nat.not_le.mpr hbl (hAf b q)
  intro hw H locs hP hD hS ls hl
  unfold wj_L_law_256 at hw
  refine lv_iconst (v := (nI 1)) hx hb dL_law_256 (by decide) ?_
  refine lv_goto (tgt := 261) hx hb dL_law_257 (by decide) ?_
  exact cj_L_law_261 l D kI kC kB a h_ x v3 hA C hAf hX hbl hL _ hK71 (nI 1) hw H locs hP hD hS ls (lv_sub hl [0, 1, 2] rfl)
set_option maxHeartbeats 4000000 in
set_option maxRecDepth 100000 in
theorem cj_L_law_249 (l : Launch) (D : va_G) (kI kC kB : ClassId) (a : AdT) (h_ : Nat → AdT) (x : XS) (v3 : Int32) (v9 : Int32) {p : Program} {e : Env} {s : State} {m : MethodId} {below : List Frame} {meth : Method} {c : Code} {b L : Nat} {xs : Nat → Int32} {A : Nat → Prop} (hA : ∀ q : Nat, s.heap.size ≤ q → A q) (C : CtxT p s m #[Value.ref b] meth c code 28 ret "QuireSignsLaw" D kI kC kB) (hAf : ∀ q : Nat, A q → s.heap.size ≤ q) (hX : va_X b L xs s s.heap) (hbl : b < s.heap.size) (hL : L ≤ 260) (K71 : XS → Int32 → Int32 → Prop) (hK71 : ∀ (h_ : Nat → AdT) (x : XS) (v2 : Int32) (v3 : Int32), K71 x v2 v3 → ∀ (H : Heap) (locs : List Loc), va_P D vwCl (bfl [cwX kI kB a h_ x]) H → va_D A (bfl [cwX kI kB a h_ x]) → va_S A s.heap H locs → ∀ (ls : Array Slot), lv_has ls 28 [(0, .ref b), (1, .ref (a 0)), (2, .int v2), (3, .int v3)] → W p l e room_1 s m #[Value.ref b] below meth c H locs 78 1376 (lw_Z below #[Value.ref b] s) (F0 m 71 ls [])) : wj_L_law_249 x v3 v9 K71 → ∀ (H : Heap) (locs : List Loc), va_P D vwCl (bfl [cwX kI kB a h_ x]) H → va_D A (bfl [cwX kI kB a h_ x]) → va_S A s.heap H locs → ∀ (ls : Array Slot), lv_has ls 28 [(0, .ref b), (1, .ref (a 0)), (3, .int v3), (9, .int v9)] → W p l e room_1 s m #[Value.ref b] below meth c H locs 78 1376 (lw_Z below #[Value.ref b] s) (F0 m 249 ls []) := by
  obtain ⟨hx, hb, hr, hml, hown, hts, hlocks, hK⟩ := id C
  have hbA : ¬ A b := fun q => Nat.not_le.mpr hbl (hAf b q)
  intro hw H locs hP hD hS ls hl
  unfold wj_L_law_249 at hw
  refine lv_iload hx hb dL_law_249 (lv_at hl 3 rfl) ?_
  refine lv_bipush (v := (-4)) hx hb dL_law_251 (by decide) ?_
  refine lv_icmp_ne (tgt := 260) hx hb dL_law_253 (by decide) (fun hc => ?_) (fun hc => ?_)
  · replace hw := hw.2 hc
    refine lv_iconst (v := (nI 0)) hx hb dL_law_260 (by decide) ?_
    exact cj_L_law_261 l D kI kC kB a h_ x v3 hA C hAf hX hbl hL _ hK71 (nI 0) hw H locs hP hD hS ls (lv_sub hl [0, 1, 2] rfl)
  · replace hw := hw.1 hc
    exact cj_L_law_256 l D kI kC kB a h_ x v3 hA C hAf hX hbl hL _ hK71 hw H locs hP hD hS ls (lv_sub hl [0, 1, 2] rfl)
set_option maxHeartbeats 4000000 in
set_option maxRecDepth 100000 in
theorem cj_L_law_216 (l : Launch) (D : va_G) (kI kC kB : ClassId) (a : AdT) (h_ : Nat → AdT) (x : XS) (v3 : Int32) (v7 : Int32) (v8 : Int32) (v9 : Int32) {p : Program} {e : Env} {s : State} {m : MethodId} {below : List Frame} {meth : Method} {c : Code} {b L : Nat} {xs : Nat → Int32} {A : Nat → Prop} (hA : ∀ q : Nat, s.heap.size ≤ q → A q) (C : CtxT p s m #[Value.ref b] meth c code 28 ret "QuireSignsLaw" D kI kC kB) (hAf : ∀ q : Nat, A q → s.heap.size ≤ q) (hX : va_X b L xs s s.heap) (hbl : b < s.heap.size) (hL : L ≤ 260) (K71 : XS → Int32 → Int32 → Prop) (hK71 : ∀ (h_ : Nat → AdT) (x : XS) (v2 : Int32) (v3 : Int32), K71 x v2 v3 → ∀ (H : Heap) (locs : List Loc), va_P D vwCl (bfl [cwX kI kB a h_ x]) H → va_D A (bfl [cwX kI kB a h_ x]) → va_S A s.heap H locs → ∀ (ls : Array Slot), lv_has ls 28 [(0, .ref b), (1, .ref (a 0)), (2, .int v2), (3, .int v3)] → W p l e room_1 s m #[Value.ref b] below meth c H locs 78 1376 (lw_Z below #[Value.ref b] s) (F0 m 71 ls [])) : ∀ (t0 : Int32) (t1 : Int32), wj_L_law_216 x v3 v7 v8 v9 t0 t1 K71 → ∀ (H : Heap) (locs : List Loc), va_P D vwCl (bfl [cwX kI kB a h_ x]) H → va_D A (bfl [cwX kI kB a h_ x]) → va_S A s.heap H locs → ∀ (ls : Array Slot), lv_has ls 28 [(0, .ref b), (1, .ref (a 0)), (3, .int v3), (7, .int v7), (8, .int v8), (9, .int v9)] → W p l e room_1 s m #[Value.ref b] below meth c H locs 78 1376 (lw_Z below #[Value.ref b] s) (F0 m 216 ls [.int t1, .int t0]) := by
  obtain ⟨hx, hb, hr, hml, hown, hts, hlocks, hK⟩ := id C
  have hbA : ¬ A b := fun q => Nat.not_le.mpr hbl (hAf b q)
  intro t0 t1 hw H locs hP hD hS ls hl
  unfold wj_L_law_216 at hw
  refine lv_icmp_ne (tgt := 249) hx hb dL_law_216 (by decide) (fun hc => ?_) (fun hc => ?_)
  · replace hw := hw.2 hc
    exact cj_L_law_249 l D kI kC kB a h_ x v3 v9 hA C hAf hX hbl hL _ hK71 hw H locs hP hD hS ls (lv_sub hl [0, 1, 2, 5] rfl)
  · replace hw := hw.1 hc
    refine lv_iload hx hb dL_law_219 (lv_at hl 5 rfl) ?_
    refine lv_if_lt (tgt := 256) hx hb dL_law_221 (by decide) (fun hc => ?_) (fun hc => ?_)
    · replace hw := hw.1 hc
      exact cj_L_law_256 l D kI kC kB a h_ x v3 hA C hAf hX hbl hL _ hK71 hw H locs hP hD hS ls (lv_sub hl [0, 1, 2] rfl)
    · replace hw := hw.2 hc
      refine lv_aload_n hx hb dL_law_224 rfl (lv_at hl 1 rfl) ?_
      refine lv_iload hx hb dL_law_225 (lv_at hl 5 rfl) ?_
      refine lv_iconst (v := (nI 2)) hx hb dL_law_227 (by decide) ?_
      refine kRB (As := [.int v9, .int (nI 2)]) (rest := []) (q0 := 0) C (c_X8_quire l D kI kC kB a h_ x.1 x.2.1 x.2.2.1 x.2.2.2.1 x.2.2.2.2.1 x.2.2.2.2.2.1 x.2.2.2.2.2.2.1 x.2.2.2.2.2.2.2.1 x.2.2.2.2.2.2.2.2.1 x.2.2.2.2.2.2.2.2.2.1 x.2.2.2.2.2.2.2.2.2.2.1 x.2.2.2.2.2.2.2.2.2.2.2.1 x.2.2.2.2.2.2.2.2.2.2.2.2.1 x.2.2.2.2.2.2.2.2.2.2.2.2.2.1 x.2.2.2.2.2.2.2.2.2.2.2.2.2.2.1 x.2.2.2.2.2.2.2.2.2.2.2.2.2.2.2.1 x.2.2.2.2.2.2.2.2.2.2.2.2.2.2.2.2.1 x.2.2.2.2.2.2.2.2.2.2.2.2.2.2.2.2.2.1 x.2.2.2.2.2.2.2.2.2.2.2.2.2.2.2.2.2.2.1 x.2.2.2.2.2.2.2.2.2.2.2.2.2.2.2.2.2.2.2.1 x.2.2.2.2.2.2.2.2.2.2.2.2.2.2.2.2.2.2.2.2.1 x.2.2.2.2.2.2.2.2.2.2.2.2.2.2.2.2.2.2.2.2.2.1 x.2.2.2.2.2.2.2.2.2.2.2.2.2.2.2.2.2.2.2.2.2.2 v9 (nI 2) _ hw) ⟨rfl, rfl⟩ ce_X8_quire cv_X8_quire tw_488 ⟨(Nat.le_of_ble_eq_true rfl), (Nat.le_of_ble_eq_true rfl)⟩ hP (bfl_p1 [_] 0 rfl) rfl rfl rfl hl.1 rfl (Nat.le_of_ble_eq_true rfl) ⟨(Nat.le_of_ble_eq_true rfl), (Nat.le_of_ble_eq_true rfl)⟩ dL_law_228 (fun r4 hw => ?_)
      refine lv_iload hx hb dL_law_231 (lv_at hl 4 rfl) ?_
      refine lv_icmp_ne (tgt := 249) hx hb dL_law_233 (by decide) (fun hc => ?_) (fun hc => ?_)
      · replace hw := hw.2 hc
        exact cj_L_law_249 l D kI kC kB a h_ x v3 v9 hA C hAf hX hbl hL _ hK71 hw H locs hP hD hS ls (lv_sub hl [0, 1, 2, 5] rfl)
      · replace hw := hw.1 hc
        refine lv_aload_n hx hb dL_law_236 rfl (lv_at hl 1 rfl) ?_
        refine lv_iconst (v := (nI 1)) hx hb dL_law_237 (by decide) ?_
        refine kMBi (As := [.int (nI 1)]) (rest := []) (q0 := 0) (ws' := fun u : (Nat → AdT) × XS => (bfl [cwX kI kB a u.1 u.2])) C (cx_count l D kI kC kB a h_ x H.size (nI 1) _ hw) ⟨rfl, rfl⟩ ce_X8_count cv_X8_count tw_597 ⟨(Nat.le_of_ble_eq_true rfl), (Nat.le_of_ble_eq_true rfl)⟩ hP hD hS hA (bfl_p1 [_] 0 rfl) (fun u => (bfl_p1 [_] 0 rfl)) rfl rfl rfl hl.1 rfl (Nat.le_of_ble_eq_true rfl) ⟨(Nat.le_of_ble_eq_true rfl), (Nat.le_of_ble_eq_true rfl)⟩ dL_law_238 (fun r5 u H locs hw hP hD hS => ?_)
        obtain ⟨h6, x7⟩ := u
        try dsimp only at hw
        replace hP : va_P D vwCl (bfl [cwX kI kB a h6 x7]) H := hP
        replace hD : va_D A (bfl [cwX kI kB a h6 x7]) := hD
        refine lv_iload hx hb dL_law_241 (lv_at hl 3 rfl) ?_
        refine lv_iload hx hb dL_law_243 (lv_at hl 4 rfl) ?_
        refine lv_iadd hx hb dL_law_245 ?_
        refine lv_icmp_eq (tgt := 256) hx hb dL_law_246 (by decide) (fun hc => ?_) (fun hc => ?_)
        · replace hw := hw.1 hc
          exact cj_L_law_256 l D kI kC kB a h6 x7 v3 hA C hAf hX hbl hL _ hK71 hw H locs hP hD hS ls (lv_sub hl [0, 1, 2] rfl)
        · replace hw := hw.2 hc
          exact cj_L_law_249 l D kI kC kB a h6 x7 v3 v9 hA C hAf hX hbl hL _ hK71 hw H locs hP hD hS ls (lv_sub hl [0, 1, 2, 5] rfl)
set_option maxHeartbeats 4000000 in
set_option maxRecDepth 100000 in
theorem cj_L_law_192 (l : Launch) (D : va_G) (kI kC kB : ClassId) (a : AdT) (h_ : Nat → AdT) (x : XS) (v3 : Int32) (v6 : Int32) (v7 : Int32) (v8 : Int32) {p : Program} {e : Env} {s : State} {m : MethodId} {below : List Frame} {meth : Method} {c : Code} {b L : Nat} {xs : Nat → Int32} {A : Nat → Prop} (hA : ∀ q : Nat, s.heap.size ≤ q → A q) (C : CtxT p s m #[Value.ref b] meth c code 28 ret "QuireSignsLaw" D kI kC kB) (hAf : ∀ q : Nat, A q → s.heap.size ≤ q) (hX : va_X b L xs s s.heap) (hbl : b < s.heap.size) (hL : L ≤ 260) (K71 : XS → Int32 → Int32 → Prop) (hK71 : ∀ (h_ : Nat → AdT) (x : XS) (v2 : Int32) (v3 : Int32), K71 x v2 v3 → ∀ (H : Heap) (locs : List Loc), va_P D vwCl (bfl [cwX kI kB a h_ x]) H → va_D A (bfl [cwX kI kB a h_ x]) → va_S A s.heap H locs → ∀ (ls : Array Slot), lv_has ls 28 [(0, .ref b), (1, .ref (a 0)), (2, .int v2), (3, .int v3)] → W p l e room_1 s m #[Value.ref b] below meth c H locs 78 1376 (lw_Z below #[Value.ref b] s) (F0 m 71 ls [])) : wj_L_law_192 x v3 v6 v7 v8 K71 → ∀ (H : Heap) (locs : List Loc), va_P D vwCl (bfl [cwX kI kB a h_ x]) H → va_D A (bfl [cwX kI kB a h_ x]) → va_S A s.heap H locs → ∀ (ls : Array Slot), lv_has ls 28 [(0, .ref b), (1, .ref (a 0)), (3, .int v3), (6, .int v6), (7, .int v7), (8, .int v8)] → W p l e room_1 s m #[Value.ref b] below meth c H locs 78 1376 (lw_Z below #[Value.ref b] s) (F0 m 192 ls []) := by
  obtain ⟨hx, hb, hr, hml, hown, hts, hlocks, hK⟩ := id C
  have hbA : ¬ A b := fun q => Nat.not_le.mpr hbl (hAf b q)
  intro hw H locs hP hD hS ls hl
  unfold wj_L_law_192 at hw
  refine lv_aload_n hx hb dL_law_192 rfl (lv_at hl 1 rfl) ?_
  refine lv_iload hx hb dL_law_193 (lv_at hl 5 rfl) ?_
  refine kMBi (As := [.int v8]) (rest := []) (q0 := 0) (ws' := fun u : (Nat → AdT) × XS => (bfl [cwX kI kB a u.1 u.2])) C (cx_signNext l D kI kC kB a h_ x H.size v8 _ hw) ⟨rfl, rfl⟩ ce_X8_signNext cv_X8_signNext tw_370 ⟨(Nat.le_of_ble_eq_true rfl), (Nat.le_of_ble_eq_true rfl)⟩ hP hD hS hA (bfl_p1 [_] 0 rfl) (fun u => (bfl_p1 [_] 0 rfl)) rfl rfl rfl hl.1 rfl (Nat.le_of_ble_eq_true rfl) ⟨(Nat.le_of_ble_eq_true rfl), (Nat.le_of_ble_eq_true rfl)⟩ dL_law_195 (fun r8 u H locs hw hP hD hS => ?_)
  obtain ⟨h9, x10⟩ := u
  try dsimp only at hw
  replace hP : va_P D vwCl (bfl [cwX kI kB a h9 x10]) H := hP
  replace hD : va_D A (bfl [cwX kI kB a h9 x10]) := hD
  refine lv_istore (lv' := [(9, .int r8), (0, .ref b), (1, .ref (a 0)), (3, .int v3), (6, .int v6), (7, .int v7), (8, .int v8)]) hx hb dL_law_198 hl (by decide) rfl (fun ls hl => ?_)
  refine lv_iload hx hb dL_law_200 (lv_at hl 0 rfl) ?_
  refine lv_iload hx hb dL_law_202 (lv_at hl 4 rfl) ?_
  refine lv_bipush (v := (nI 40)) hx hb dL_law_204 (by decide) ?_
  refine lv_icmp_ne (tgt := 214) hx hb dL_law_206 (by decide) (fun hc => ?_) (fun hc => ?_)
  · replace hw := hw.2 hc
    refine lv_iload hx hb dL_law_214 (lv_at hl 4 rfl) ?_
    exact cj_L_law_216 l D kI kC kB a h9 x10 v3 v7 v8 r8 hA C hAf hX hbl hL _ hK71 r8 v6 hw H locs hP hD hS ls (lv_sub hl [1, 2, 3, 5, 6, 0] rfl)
  · replace hw := hw.1 hc
    refine lv_bipush (v := (-3)) hx hb dL_law_209 (by decide) ?_
    refine lv_goto (tgt := 216) hx hb dL_law_211 (by decide) ?_
    exact cj_L_law_216 l D kI kC kB a h9 x10 v3 v7 v8 r8 hA C hAf hX hbl hL _ hK71 r8 (-3) hw H locs hP hD hS ls (lv_sub hl [1, 2, 3, 5, 6, 0] rfl)
set_option maxHeartbeats 4000000 in
set_option maxRecDepth 100000 in
theorem cj_L_law_352 (l : Launch) (D : va_G) (kI kC kB : ClassId) (a : AdT) (h_ : Nat → AdT) (x : XS) (v3 : Int32) {p : Program} {e : Env} {s : State} {m : MethodId} {below : List Frame} {meth : Method} {c : Code} {b L : Nat} {xs : Nat → Int32} {A : Nat → Prop} (hA : ∀ q : Nat, s.heap.size ≤ q → A q) (C : CtxT p s m #[Value.ref b] meth c code 28 ret "QuireSignsLaw" D kI kC kB) (hAf : ∀ q : Nat, A q → s.heap.size ≤ q) (hX : va_X b L xs s s.heap) (hbl : b < s.heap.size) (hL : L ≤ 260) (K71 : XS → Int32 → Int32 → Prop) (hK71 : ∀ (h_ : Nat → AdT) (x : XS) (v2 : Int32) (v3 : Int32), K71 x v2 v3 → ∀ (H : Heap) (locs : List Loc), va_P D vwCl (bfl [cwX kI kB a h_ x]) H → va_D A (bfl [cwX kI kB a h_ x]) → va_S A s.heap H locs → ∀ (ls : Array Slot), lv_has ls 28 [(0, .ref b), (1, .ref (a 0)), (2, .int v2), (3, .int v3)] → W p l e room_1 s m #[Value.ref b] below meth c H locs 78 1376 (lw_Z below #[Value.ref b] s) (F0 m 71 ls [])) : ∀ (t0 : Int32), wj_L_law_352 x v3 t0 K71 → ∀ (H : Heap) (locs : List Loc), va_P D vwCl (bfl [cwX kI kB a h_ x]) H → va_D A (bfl [cwX kI kB a h_ x]) → va_S A s.heap H locs → ∀ (ls : Array Slot), lv_has ls 28 [(0, .ref b), (1, .ref (a 0)), (3, .int v3)] → W p l e room_1 s m #[Value.ref b] below meth c H locs 78 1376 (lw_Z below #[Value.ref b] s) (F0 m 352 ls [.int t0]) := by
  obtain ⟨hx, hb, hr, hml, hown, hts, hlocks, hK⟩ := id C
  have hbA : ¬ A b := fun q => Nat.not_le.mpr hbl (hAf b q)
  intro t0 hw H locs hP hD hS ls hl
  unfold wj_L_law_352 at hw
  refine lv_istore_n (lv' := [(2, .int t0), (0, .ref b), (1, .ref (a 0)), (3, .int v3)]) hx hb dL_law_352 rfl hl (by decide) rfl (fun ls hl => ?_)
  refine lv_goto (tgt := 883) hx hb dL_law_353 (by decide) ?_
  exact cj_L_law_883 l D kI kC kB a h_ x t0 v3 hA C hAf hX hbl hL _ hK71 hw H locs hP hD hS ls (lv_sub hl [1, 2, 0, 3] rfl)
set_option maxHeartbeats 4000000 in
set_option maxRecDepth 100000 in
theorem cj_L_law_347 (l : Launch) (D : va_G) (kI kC kB : ClassId) (a : AdT) (h_ : Nat → AdT) (x : XS) (v3 : Int32) {p : Program} {e : Env} {s : State} {m : MethodId} {below : List Frame} {meth : Method} {c : Code} {b L : Nat} {xs : Nat → Int32} {A : Nat → Prop} (hA : ∀ q : Nat, s.heap.size ≤ q → A q) (C : CtxT p s m #[Value.ref b] meth c code 28 ret "QuireSignsLaw" D kI kC kB) (hAf : ∀ q : Nat, A q → s.heap.size ≤ q) (hX : va_X b L xs s s.heap) (hbl : b < s.heap.size) (hL : L ≤ 260) (K71 : XS → Int32 → Int32 → Prop) (hK71 : ∀ (h_ : Nat → AdT) (x : XS) (v2 : Int32) (v3 : Int32), K71 x v2 v3 → ∀ (H : Heap) (locs : List Loc), va_P D vwCl (bfl [cwX kI kB a h_ x]) H → va_D A (bfl [cwX kI kB a h_ x]) → va_S A s.heap H locs → ∀ (ls : Array Slot), lv_has ls 28 [(0, .ref b), (1, .ref (a 0)), (2, .int v2), (3, .int v3)] → W p l e room_1 s m #[Value.ref b] below meth c H locs 78 1376 (lw_Z below #[Value.ref b] s) (F0 m 71 ls [])) : wj_L_law_347 x v3 K71 → ∀ (H : Heap) (locs : List Loc), va_P D vwCl (bfl [cwX kI kB a h_ x]) H → va_D A (bfl [cwX kI kB a h_ x]) → va_S A s.heap H locs → ∀ (ls : Array Slot), lv_has ls 28 [(0, .ref b), (1, .ref (a 0)), (3, .int v3)] → W p l e room_1 s m #[Value.ref b] below meth c H locs 78 1376 (lw_Z below #[Value.ref b] s) (F0 m 347 ls []) := by
  obtain ⟨hx, hb, hr, hml, hown, hts, hlocks, hK⟩ := id C
  have hbA : ¬ A b := fun q => Nat.not_le.mpr hbl (hAf b q)
  intro hw H locs hP hD hS ls hl
  unfold wj_L_law_347 at hw
  refine lv_iconst (v := (nI 1)) hx hb dL_law_347 (by decide) ?_
  refine lv_goto (tgt := 352) hx hb dL_law_348 (by decide) ?_
  exact cj_L_law_352 l D kI kC kB a h_ x v3 hA C hAf hX hbl hL _ hK71 (nI 1) hw H locs hP hD hS ls (lv_sub hl [0, 1, 2] rfl)
set_option maxHeartbeats 4000000 in
set_option maxRecDepth 100000 in
theorem cj_L_law_351 (l : Launch) (D : va_G) (kI kC kB : ClassId) (a : AdT) (h_ : Nat → AdT) (x : XS) (v3 : Int32) {p : Program} {e : Env} {s : State} {m : MethodId} {below : List Frame} {meth : Method} {c : Code} {b L : Nat} {xs : Nat → Int32} {A : Nat → Prop} (hA : ∀ q : Nat, s.heap.size ≤ q → A q) (C : CtxT p s m #[Value.ref b] meth c code 28 ret "QuireSignsLaw" D kI kC kB) (hAf : ∀ q : Nat, A q → s.heap.size ≤ q) (hX : va_X b L xs s s.heap) (hbl : b < s.heap.size) (hL : L ≤ 260) (K71 : XS → Int32 → Int32 → Prop) (hK71 : ∀ (h_ : Nat → AdT) (x : XS) (v2 : Int32) (v3 : Int32), K71 x v2 v3 → ∀ (H : Heap) (locs : List Loc), va_P D vwCl (bfl [cwX kI kB a h_ x]) H → va_D A (bfl [cwX kI kB a h_ x]) → va_S A s.heap H locs → ∀ (ls : Array Slot), lv_has ls 28 [(0, .ref b), (1, .ref (a 0)), (2, .int v2), (3, .int v3)] → W p l e room_1 s m #[Value.ref b] below meth c H locs 78 1376 (lw_Z below #[Value.ref b] s) (F0 m 71 ls [])) : wj_L_law_351 x v3 K71 → ∀ (H : Heap) (locs : List Loc), va_P D vwCl (bfl [cwX kI kB a h_ x]) H → va_D A (bfl [cwX kI kB a h_ x]) → va_S A s.heap H locs → ∀ (ls : Array Slot), lv_has ls 28 [(0, .ref b), (1, .ref (a 0)), (3, .int v3)] → W p l e room_1 s m #[Value.ref b] below meth c H locs 78 1376 (lw_Z below #[Value.ref b] s) (F0 m 351 ls []) := by
  obtain ⟨hx, hb, hr, hml, hown, hts, hlocks, hK⟩ := id C
  have hbA : ¬ A b := fun q => Nat.not_le.mpr hbl (hAf b q)
  intro hw H locs hP hD hS ls hl
  unfold wj_L_law_351 at hw
  refine lv_iconst (v := (nI 0)) hx hb dL_law_351 (by decide) ?_
  exact cj_L_law_352 l D kI kC kB a h_ x v3 hA C hAf hX hbl hL _ hK71 (nI 0) hw H locs hP hD hS ls (lv_sub hl [0, 1, 2] rfl)
set_option maxHeartbeats 4000000 in
set_option maxRecDepth 100000 in
theorem cj_L_law_309 (l : Launch) (D : va_G) (kI kC kB : ClassId) (a : AdT) (h_ : Nat → AdT) (x : XS) (v3 : Int32) (v5 : Int32) (v6 : Int32) (v10 : Int32) {p : Program} {e : Env} {s : State} {m : MethodId} {below : List Frame} {meth : Method} {c : Code} {b L : Nat} {xs : Nat → Int32} {A : Nat → Prop} (hA : ∀ q : Nat, s.heap.size ≤ q → A q) (C : CtxT p s m #[Value.ref b] meth c code 28 ret "QuireSignsLaw" D kI kC kB) (hAf : ∀ q : Nat, A q → s.heap.size ≤ q) (hX : va_X b L xs s s.heap) (hbl : b < s.heap.size) (hL : L ≤ 260) (K71 : XS → Int32 → Int32 → Prop) (hK71 : ∀ (h_ : Nat → AdT) (x : XS) (v2 : Int32) (v3 : Int32), K71 x v2 v3 → ∀ (H : Heap) (locs : List Loc), va_P D vwCl (bfl [cwX kI kB a h_ x]) H → va_D A (bfl [cwX kI kB a h_ x]) → va_S A s.heap H locs → ∀ (ls : Array Slot), lv_has ls 28 [(0, .ref b), (1, .ref (a 0)), (2, .int v2), (3, .int v3)] → W p l e room_1 s m #[Value.ref b] below meth c H locs 78 1376 (lw_Z below #[Value.ref b] s) (F0 m 71 ls [])) : ∀ (t0 : Int32) (t1 : Int32), wj_L_law_309 x v3 v5 v6 v10 t0 t1 K71 → ∀ (H : Heap) (locs : List Loc), va_P D vwCl (bfl [cwX kI kB a h_ x]) H → va_D A (bfl [cwX kI kB a h_ x]) → va_S A s.heap H locs → ∀ (ls : Array Slot), lv_has ls 28 [(0, .ref b), (1, .ref (a 0)), (3, .int v3), (5, .int v5), (6, .int v6), (10, .int v10)] → W p l e room_1 s m #[Value.ref b] below meth c H locs 78 1376 (lw_Z below #[Value.ref b] s) (F0 m 309 ls [.int t1, .int t0]) := by
  obtain ⟨hx, hb, hr, hml, hown, hts, hlocks, hK⟩ := id C
  have hbA : ¬ A b := fun q => Nat.not_le.mpr hbl (hAf b q)
  intro t0 t1 hw H locs hP hD hS ls hl
  unfold wj_L_law_309 at hw
  refine lv_icmp_ne (tgt := 351) hx hb dL_law_309 (by decide) (fun hc => ?_) (fun hc => ?_)
  · replace hw := hw.2 hc
    exact cj_L_law_351 l D kI kC kB a h_ x v3 hA C hAf hX hbl hL _ hK71 hw H locs hP hD hS ls (lv_sub hl [0, 1, 2] rfl)
  · replace hw := hw.1 hc
    refine lv_iload hx hb dL_law_312 (lv_at hl 4 rfl) ?_
    refine lv_bipush (v := (nI 40)) hx hb dL_law_314 (by decide) ?_
    refine lv_icmp_eq (tgt := 347) hx hb dL_law_316 (by decide) (fun hc => ?_) (fun hc => ?_)
    · replace hw := hw.1 hc
      exact cj_L_law_347 l D kI kC kB a h_ x v3 hA C hAf hX hbl hL _ hK71 hw H locs hP hD hS ls (lv_sub hl [0, 1, 2] rfl)
    · replace hw := hw.2 hc
      refine lv_aload_n hx hb dL_law_319 rfl (lv_at hl 1 rfl) ?_
      refine lv_iload hx hb dL_law_320 (lv_at hl 5 rfl) ?_
      refine lv_iconst (v := (nI 1)) hx hb dL_law_322 (by decide) ?_
      refine kRB (As := [.int v10, .int (nI 1)]) (rest := []) (q0 := 0) C (c_X8_quire l D kI kC kB a h_ x.1 x.2.1 x.2.2.1 x.2.2.2.1 x.2.2.2.2.1 x.2.2.2.2.2.1 x.2.2.2.2.2.2.1 x.2.2.2.2.2.2.2.1 x.2.2.2.2.2.2.2.2.1 x.2.2.2.2.2.2.2.2.2.1 x.2.2.2.2.2.2.2.2.2.2.1 x.2.2.2.2.2.2.2.2.2.2.2.1 x.2.2.2.2.2.2.2.2.2.2.2.2.1 x.2.2.2.2.2.2.2.2.2.2.2.2.2.1 x.2.2.2.2.2.2.2.2.2.2.2.2.2.2.1 x.2.2.2.2.2.2.2.2.2.2.2.2.2.2.2.1 x.2.2.2.2.2.2.2.2.2.2.2.2.2.2.2.2.1 x.2.2.2.2.2.2.2.2.2.2.2.2.2.2.2.2.2.1 x.2.2.2.2.2.2.2.2.2.2.2.2.2.2.2.2.2.2.1 x.2.2.2.2.2.2.2.2.2.2.2.2.2.2.2.2.2.2.2.1 x.2.2.2.2.2.2.2.2.2.2.2.2.2.2.2.2.2.2.2.2.1 x.2.2.2.2.2.2.2.2.2.2.2.2.2.2.2.2.2.2.2.2.2.1 x.2.2.2.2.2.2.2.2.2.2.2.2.2.2.2.2.2.2.2.2.2.2 v10 (nI 1) _ hw) ⟨rfl, rfl⟩ ce_X8_quire cv_X8_quire tw_488 ⟨(Nat.le_of_ble_eq_true rfl), (Nat.le_of_ble_eq_true rfl)⟩ hP (bfl_p1 [_] 0 rfl) rfl rfl rfl hl.1 rfl (Nat.le_of_ble_eq_true rfl) ⟨(Nat.le_of_ble_eq_true rfl), (Nat.le_of_ble_eq_true rfl)⟩ dL_law_323 (fun r11 hw => ?_)
      refine lv_bipush (v := (-5)) hx hb dL_law_326 (by decide) ?_
      refine lv_icmp_ne (tgt := 351) hx hb dL_law_328 (by decide) (fun hc => ?_) (fun hc => ?_)
      · replace hw := hw.2 hc
        exact cj_L_law_351 l D kI kC kB a h_ x v3 hA C hAf hX hbl hL _ hK71 hw H locs hP hD hS ls (lv_sub hl [0, 1, 2] rfl)
      · replace hw := hw.1 hc
        refine lv_aload_n hx hb dL_law_331 rfl (lv_at hl 1 rfl) ?_
        refine lv_iload hx hb dL_law_332 (lv_at hl 5 rfl) ?_
        refine lv_iconst (v := (nI 0)) hx hb dL_law_334 (by decide) ?_
        refine kRB (As := [.int v10, .int (nI 0)]) (rest := []) (q0 := 0) C (c_X8_quire l D kI kC kB a h_ x.1 x.2.1 x.2.2.1 x.2.2.2.1 x.2.2.2.2.1 x.2.2.2.2.2.1 x.2.2.2.2.2.2.1 x.2.2.2.2.2.2.2.1 x.2.2.2.2.2.2.2.2.1 x.2.2.2.2.2.2.2.2.2.1 x.2.2.2.2.2.2.2.2.2.2.1 x.2.2.2.2.2.2.2.2.2.2.2.1 x.2.2.2.2.2.2.2.2.2.2.2.2.1 x.2.2.2.2.2.2.2.2.2.2.2.2.2.1 x.2.2.2.2.2.2.2.2.2.2.2.2.2.2.1 x.2.2.2.2.2.2.2.2.2.2.2.2.2.2.2.1 x.2.2.2.2.2.2.2.2.2.2.2.2.2.2.2.2.1 x.2.2.2.2.2.2.2.2.2.2.2.2.2.2.2.2.2.1 x.2.2.2.2.2.2.2.2.2.2.2.2.2.2.2.2.2.2.1 x.2.2.2.2.2.2.2.2.2.2.2.2.2.2.2.2.2.2.2.1 x.2.2.2.2.2.2.2.2.2.2.2.2.2.2.2.2.2.2.2.2.1 x.2.2.2.2.2.2.2.2.2.2.2.2.2.2.2.2.2.2.2.2.2.1 x.2.2.2.2.2.2.2.2.2.2.2.2.2.2.2.2.2.2.2.2.2.2 v10 (nI 0) _ hw) ⟨rfl, rfl⟩ ce_X8_quire cv_X8_quire tw_488 ⟨(Nat.le_of_ble_eq_true rfl), (Nat.le_of_ble_eq_true rfl)⟩ hP (bfl_p1 [_] 0 rfl) rfl rfl rfl hl.1 rfl (Nat.le_of_ble_eq_true rfl) ⟨(Nat.le_of_ble_eq_true rfl), (Nat.le_of_ble_eq_true rfl)⟩ dL_law_335 (fun r12 hw => ?_)
        refine lv_iconst (v := (nI 1)) hx hb dL_law_338 (by decide) ?_
        refine lv_iload hx hb dL_law_339 (lv_at hl 3 rfl) ?_
        refine lv_iconst (v := (nI 5)) hx hb dL_law_341 (by decide) ?_
        refine lv_irem hx hb dL_law_342 (by decide) ?_
        refine lv_iadd hx hb dL_law_343 ?_
        refine lv_icmp_ne (tgt := 351) hx hb dL_law_344 (by decide) (fun hc => ?_) (fun hc => ?_)
        · replace hw := hw.2 hc
          exact cj_L_law_351 l D kI kC kB a h_ x v3 hA C hAf hX hbl hL _ hK71 hw H locs hP hD hS ls (lv_sub hl [0, 1, 2] rfl)
        · replace hw := hw.1 hc
          exact cj_L_law_347 l D kI kC kB a h_ x v3 hA C hAf hX hbl hL _ hK71 hw H locs hP hD hS ls (lv_sub hl [0, 1, 2] rfl)
set_option maxHeartbeats 4000000 in
set_option maxRecDepth 100000 in
theorem cj_L_law_265 (l : Launch) (D : va_G) (kI kC kB : ClassId) (a : AdT) (h_ : Nat → AdT) (x : XS) (v3 : Int32) (v5 : Int32) (v6 : Int32) (v7 : Int32) (v8 : Int32) {p : Program} {e : Env} {s : State} {m : MethodId} {below : List Frame} {meth : Method} {c : Code} {b L : Nat} {xs : Nat → Int32} {A : Nat → Prop} (hA : ∀ q : Nat, s.heap.size ≤ q → A q) (C : CtxT p s m #[Value.ref b] meth c code 28 ret "QuireSignsLaw" D kI kC kB) (hAf : ∀ q : Nat, A q → s.heap.size ≤ q) (hX : va_X b L xs s s.heap) (hbl : b < s.heap.size) (hL : L ≤ 260) (K71 : XS → Int32 → Int32 → Prop) (hK71 : ∀ (h_ : Nat → AdT) (x : XS) (v2 : Int32) (v3 : Int32), K71 x v2 v3 → ∀ (H : Heap) (locs : List Loc), va_P D vwCl (bfl [cwX kI kB a h_ x]) H → va_D A (bfl [cwX kI kB a h_ x]) → va_S A s.heap H locs → ∀ (ls : Array Slot), lv_has ls 28 [(0, .ref b), (1, .ref (a 0)), (2, .int v2), (3, .int v3)] → W p l e room_1 s m #[Value.ref b] below meth c H locs 78 1376 (lw_Z below #[Value.ref b] s) (F0 m 71 ls [])) : wj_L_law_265 x v3 v5 v6 v7 v8 K71 → ∀ (H : Heap) (locs : List Loc), va_P D vwCl (bfl [cwX kI kB a h_ x]) H → va_D A (bfl [cwX kI kB a h_ x]) → va_S A s.heap H locs → ∀ (ls : Array Slot), lv_has ls 28 [(0, .ref b), (1, .ref (a 0)), (3, .int v3), (5, .int v5), (6, .int v6), (7, .int v7), (8, .int v8)] → W p l e room_1 s m #[Value.ref b] below meth c H locs 78 1376 (lw_Z below #[Value.ref b] s) (F0 m 265 ls []) := by
  obtain ⟨hx, hb, hr, hml, hown, hts, hlocks, hK⟩ := id C
  have hbA : ¬ A b := fun q => Nat.not_le.mpr hbl (hAf b q)
  intro hw H locs hP hD hS ls hl
  unfold wj_L_law_265 at hw
  refine lv_iload hx hb dL_law_265 (lv_at hl 3 rfl) ?_
  refine lv_sipush (v := (nI 128)) hx hb dL_law_267 (by decide) ?_
  refine lv_idiv hx hb dL_law_270 (by decide) ?_
  refine lv_iload hx hb dL_law_271 (lv_at hl 4 rfl) ?_
  refine lv_iconst (v := (nI 1)) hx hb dL_law_273 (by decide) ?_
  refine lv_iadd hx hb dL_law_274 ?_
  have hne := hw.1
  replace hw := hw.2
  refine lv_irem hx hb dL_law_275 hne ?_
  refine lv_topi (fun y13 ey13 => ?_)
  replace hw := hw y13 ey13
  refine lv_istore (lv' := [(10, .int y13), (0, .ref b), (1, .ref (a 0)), (3, .int v3), (5, .int v5), (6, .int v6), (7, .int v7), (8, .int v8)]) hx hb dL_law_276 hl (by decide) rfl (fun ls hl => ?_)
  refine lv_aload_n hx hb dL_law_278 rfl (lv_at hl 2 rfl) ?_
  refine lv_iload hx hb dL_law_279 (lv_at hl 0 rfl) ?_
  refine lv_iconst (v := (nI 1)) hx hb dL_law_281 (by decide) ?_
  refine lv_iload hx hb dL_law_282 (lv_at hl 4 rfl) ?_
  refine lv_iconst (v := (nI 5)) hx hb dL_law_284 (by decide) ?_
  refine lv_irem hx hb dL_law_285 (by decide) ?_
  refine lv_iadd hx hb dL_law_286 ?_
  refine lv_iload hx hb dL_law_287 (lv_at hl 7 rfl) ?_
  refine kMBi (As := [.int y13, .int ((nI 1) + (v5 - v5 / (nI 5) * (nI 5))), .int v8]) (rest := []) (q0 := 0) (ws' := fun u : (Nat → AdT) × XS => (bfl [cwX kI kB a u.1 u.2])) C (cx_insert l D kI kC kB a h_ x H.size y13 ((nI 1) + (v5 - v5 / (nI 5) * (nI 5))) v8 _ hw) ⟨rfl, rfl⟩ ce_X8_insert cv_X8_insert tw_386 ⟨(Nat.le_of_ble_eq_true rfl), (Nat.le_of_ble_eq_true rfl)⟩ hP hD hS hA (bfl_p1 [_] 0 rfl) (fun u => (bfl_p1 [_] 0 rfl)) rfl rfl rfl hl.1 rfl (Nat.le_of_ble_eq_true rfl) ⟨(Nat.le_of_ble_eq_true rfl), (Nat.le_of_ble_eq_true rfl)⟩ dL_law_289 (fun r14 u H locs hw hP hD hS => ?_)
  obtain ⟨h15, x16⟩ := u
  try dsimp only at hw
  replace hP : va_P D vwCl (bfl [cwX kI kB a h15 x16]) H := hP
  replace hD : va_D A (bfl [cwX kI kB a h15 x16]) := hD
  refine lv_iload hx hb dL_law_292 (lv_at hl 5 rfl) ?_
  refine lv_bipush (v := (nI 40)) hx hb dL_law_294 (by decide) ?_
  refine lv_icmp_ne (tgt := 304) hx hb dL_law_296 (by decide) (fun hc => ?_) (fun hc => ?_)
  · replace hw := hw.2 hc
    refine lv_iload hx hb dL_law_304 (lv_at hl 6 rfl) ?_
    refine lv_iload hx hb dL_law_306 (lv_at hl 7 rfl) ?_
    refine lv_iadd hx hb dL_law_308 ?_
    exact cj_L_law_309 l D kI kC kB a h15 x16 v3 v5 v6 y13 hA C hAf hX hbl hL _ hK71 r14 (v7 + v8) hw H locs hP hD hS ls (lv_sub hl [1, 2, 3, 4, 5, 0] rfl)
  · replace hw := hw.1 hc
    refine lv_bipush (v := (-3)) hx hb dL_law_299 (by decide) ?_
    refine lv_goto (tgt := 309) hx hb dL_law_301 (by decide) ?_
    exact cj_L_law_309 l D kI kC kB a h15 x16 v3 v5 v6 y13 hA C hAf hX hbl hL _ hK71 r14 (-3) hw H locs hP hD hS ls (lv_sub hl [1, 2, 3, 4, 5, 0] rfl)
set_option maxHeartbeats 4000000 in
set_option maxRecDepth 100000 in
theorem cj_L_law_402 (l : Launch) (D : va_G) (kI kC kB : ClassId) (a : AdT) (h_ : Nat → AdT) (x : XS) (v3 : Int32) {p : Program} {e : Env} {s : State} {m : MethodId} {below : List Frame} {meth : Method} {c : Code} {b L : Nat} {xs : Nat → Int32} {A : Nat → Prop} (hA : ∀ q : Nat, s.heap.size ≤ q → A q) (C : CtxT p s m #[Value.ref b] meth c code 28 ret "QuireSignsLaw" D kI kC kB) (hAf : ∀ q : Nat, A q → s.heap.size ≤ q) (hX : va_X b L xs s s.heap) (hbl : b < s.heap.size) (hL : L ≤ 260) (K71 : XS → Int32 → Int32 → Prop) (hK71 : ∀ (h_ : Nat → AdT) (x : XS) (v2 : Int32) (v3 : Int32), K71 x v2 v3 → ∀ (H : Heap) (locs : List Loc), va_P D vwCl (bfl [cwX kI kB a h_ x]) H → va_D A (bfl [cwX kI kB a h_ x]) → va_S A s.heap H locs → ∀ (ls : Array Slot), lv_has ls 28 [(0, .ref b), (1, .ref (a 0)), (2, .int v2), (3, .int v3)] → W p l e room_1 s m #[Value.ref b] below meth c H locs 78 1376 (lw_Z below #[Value.ref b] s) (F0 m 71 ls [])) : ∀ (t0 : Int32), wj_L_law_402 x v3 t0 K71 → ∀ (H : Heap) (locs : List Loc), va_P D vwCl (bfl [cwX kI kB a h_ x]) H → va_D A (bfl [cwX kI kB a h_ x]) → va_S A s.heap H locs → ∀ (ls : Array Slot), lv_has ls 28 [(0, .ref b), (1, .ref (a 0)), (3, .int v3)] → W p l e room_1 s m #[Value.ref b] below meth c H locs 78 1376 (lw_Z below #[Value.ref b] s) (F0 m 402 ls [.int t0]) := by
  obtain ⟨hx, hb, hr, hml, hown, hts, hlocks, hK⟩ := id C
  have hbA : ¬ A b := fun q => Nat.not_le.mpr hbl (hAf b q)
  intro t0 hw H locs hP hD hS ls hl
  unfold wj_L_law_402 at hw
  refine lv_istore_n (lv' := [(2, .int t0), (0, .ref b), (1, .ref (a 0)), (3, .int v3)]) hx hb dL_law_402 rfl hl (by decide) rfl (fun ls hl => ?_)
  refine lv_goto (tgt := 883) hx hb dL_law_403 (by decide) ?_
  exact cj_L_law_883 l D kI kC kB a h_ x t0 v3 hA C hAf hX hbl hL _ hK71 hw H locs hP hD hS ls (lv_sub hl [1, 2, 0, 3] rfl)
set_option maxHeartbeats 4000000 in
set_option maxRecDepth 100000 in
theorem cj_L_law_394 (l : Launch) (D : va_G) (kI kC kB : ClassId) (a : AdT) (h_ : Nat → AdT) (x : XS) (v3 : Int32) {p : Program} {e : Env} {s : State} {m : MethodId} {below : List Frame} {meth : Method} {c : Code} {b L : Nat} {xs : Nat → Int32} {A : Nat → Prop} (hA : ∀ q : Nat, s.heap.size ≤ q → A q) (C : CtxT p s m #[Value.ref b] meth c code 28 ret "QuireSignsLaw" D kI kC kB) (hAf : ∀ q : Nat, A q → s.heap.size ≤ q) (hX : va_X b L xs s s.heap) (hbl : b < s.heap.size) (hL : L ≤ 260) (K71 : XS → Int32 → Int32 → Prop) (hK71 : ∀ (h_ : Nat → AdT) (x : XS) (v2 : Int32) (v3 : Int32), K71 x v2 v3 → ∀ (H : Heap) (locs : List Loc), va_P D vwCl (bfl [cwX kI kB a h_ x]) H → va_D A (bfl [cwX kI kB a h_ x]) → va_S A s.heap H locs → ∀ (ls : Array Slot), lv_has ls 28 [(0, .ref b), (1, .ref (a 0)), (2, .int v2), (3, .int v3)] → W p l e room_1 s m #[Value.ref b] below meth c H locs 78 1376 (lw_Z below #[Value.ref b] s) (F0 m 71 ls [])) : ∀ (t0 : Int32) (t1 : Int32), wj_L_law_394 x v3 t0 t1 K71 → ∀ (H : Heap) (locs : List Loc), va_P D vwCl (bfl [cwX kI kB a h_ x]) H → va_D A (bfl [cwX kI kB a h_ x]) → va_S A s.heap H locs → ∀ (ls : Array Slot), lv_has ls 28 [(0, .ref b), (1, .ref (a 0)), (3, .int v3)] → W p l e room_1 s m #[Value.ref b] below meth c H locs 78 1376 (lw_Z below #[Value.ref b] s) (F0 m 394 ls [.int t1, .int t0]) := by
  obtain ⟨hx, hb, hr, hml, hown, hts, hlocks, hK⟩ := id C
  have hbA : ¬ A b := fun q => Nat.not_le.mpr hbl (hAf b q)
  intro t0 t1 hw H locs hP hD hS ls hl
  unfold wj_L_law_394 at hw
  refine lv_icmp_ne (tgt := 401) hx hb dL_law_394 (by decide) (fun hc => ?_) (fun hc => ?_)
  · replace hw := hw.2 hc
    refine lv_iconst (v := (nI 0)) hx hb dL_law_401 (by decide) ?_
    exact cj_L_law_402 l D kI kC kB a h_ x v3 hA C hAf hX hbl hL _ hK71 (nI 0) hw H locs hP hD hS ls (lv_sub hl [0, 1, 2] rfl)
  · replace hw := hw.1 hc
    refine lv_iconst (v := (nI 1)) hx hb dL_law_397 (by decide) ?_
    refine lv_goto (tgt := 402) hx hb dL_law_398 (by decide) ?_
    exact cj_L_law_402 l D kI kC kB a h_ x v3 hA C hAf hX hbl hL _ hK71 (nI 1) hw H locs hP hD hS ls (lv_sub hl [0, 1, 2] rfl)
set_option maxHeartbeats 4000000 in
set_option maxRecDepth 100000 in
theorem cj_L_law_536 (l : Launch) (D : va_G) (kI kC kB : ClassId) (a : AdT) (h_ : Nat → AdT) (x : XS) (v3 : Int32) {p : Program} {e : Env} {s : State} {m : MethodId} {below : List Frame} {meth : Method} {c : Code} {b L : Nat} {xs : Nat → Int32} {A : Nat → Prop} (hA : ∀ q : Nat, s.heap.size ≤ q → A q) (C : CtxT p s m #[Value.ref b] meth c code 28 ret "QuireSignsLaw" D kI kC kB) (hAf : ∀ q : Nat, A q → s.heap.size ≤ q) (hX : va_X b L xs s s.heap) (hbl : b < s.heap.size) (hL : L ≤ 260) (K71 : XS → Int32 → Int32 → Prop) (hK71 : ∀ (h_ : Nat → AdT) (x : XS) (v2 : Int32) (v3 : Int32), K71 x v2 v3 → ∀ (H : Heap) (locs : List Loc), va_P D vwCl (bfl [cwX kI kB a h_ x]) H → va_D A (bfl [cwX kI kB a h_ x]) → va_S A s.heap H locs → ∀ (ls : Array Slot), lv_has ls 28 [(0, .ref b), (1, .ref (a 0)), (2, .int v2), (3, .int v3)] → W p l e room_1 s m #[Value.ref b] below meth c H locs 78 1376 (lw_Z below #[Value.ref b] s) (F0 m 71 ls [])) : ∀ (t0 : Int32), wj_L_law_536 x v3 t0 K71 → ∀ (H : Heap) (locs : List Loc), va_P D vwCl (bfl [cwX kI kB a h_ x]) H → va_D A (bfl [cwX kI kB a h_ x]) → va_S A s.heap H locs → ∀ (ls : Array Slot), lv_has ls 28 [(0, .ref b), (1, .ref (a 0)), (3, .int v3)] → W p l e room_1 s m #[Value.ref b] below meth c H locs 78 1376 (lw_Z below #[Value.ref b] s) (F0 m 536 ls [.int t0]) := by
  obtain ⟨hx, hb, hr, hml, hown, hts, hlocks, hK⟩ := id C
  have hbA : ¬ A b := fun q => Nat.not_le.mpr hbl (hAf b q)
  intro t0 hw H locs hP hD hS ls hl
  unfold wj_L_law_536 at hw
  refine lv_istore_n (lv' := [(2, .int t0), (0, .ref b), (1, .ref (a 0)), (3, .int v3)]) hx hb dL_law_536 rfl hl (by decide) rfl (fun ls hl => ?_)
  refine lv_goto (tgt := 883) hx hb dL_law_537 (by decide) ?_
  exact cj_L_law_883 l D kI kC kB a h_ x t0 v3 hA C hAf hX hbl hL _ hK71 hw H locs hP hD hS ls (lv_sub hl [1, 2, 0, 3] rfl)
set_option maxHeartbeats 4000000 in
set_option maxRecDepth 100000 in
theorem cj_L_law_531 (l : Launch) (D : va_G) (kI kC kB : ClassId) (a : AdT) (h_ : Nat → AdT) (x : XS) (v3 : Int32) {p : Program} {e : Env} {s : State} {m : MethodId} {below : List Frame} {meth : Method} {c : Code} {b L : Nat} {xs : Nat → Int32} {A : Nat → Prop} (hA : ∀ q : Nat, s.heap.size ≤ q → A q) (C : CtxT p s m #[Value.ref b] meth c code 28 ret "QuireSignsLaw" D kI kC kB) (hAf : ∀ q : Nat, A q → s.heap.size ≤ q) (hX : va_X b L xs s s.heap) (hbl : b < s.heap.size) (hL : L ≤ 260) (K71 : XS → Int32 → Int32 → Prop) (hK71 : ∀ (h_ : Nat → AdT) (x : XS) (v2 : Int32) (v3 : Int32), K71 x v2 v3 → ∀ (H : Heap) (locs : List Loc), va_P D vwCl (bfl [cwX kI kB a h_ x]) H → va_D A (bfl [cwX kI kB a h_ x]) → va_S A s.heap H locs → ∀ (ls : Array Slot), lv_has ls 28 [(0, .ref b), (1, .ref (a 0)), (2, .int v2), (3, .int v3)] → W p l e room_1 s m #[Value.ref b] below meth c H locs 78 1376 (lw_Z below #[Value.ref b] s) (F0 m 71 ls [])) : wj_L_law_531 x v3 K71 → ∀ (H : Heap) (locs : List Loc), va_P D vwCl (bfl [cwX kI kB a h_ x]) H → va_D A (bfl [cwX kI kB a h_ x]) → va_S A s.heap H locs → ∀ (ls : Array Slot), lv_has ls 28 [(0, .ref b), (1, .ref (a 0)), (3, .int v3)] → W p l e room_1 s m #[Value.ref b] below meth c H locs 78 1376 (lw_Z below #[Value.ref b] s) (F0 m 531 ls []) := by
  obtain ⟨hx, hb, hr, hml, hown, hts, hlocks, hK⟩ := id C
  have hbA : ¬ A b := fun q => Nat.not_le.mpr hbl (hAf b q)
  intro hw H locs hP hD hS ls hl
  unfold wj_L_law_531 at hw
  refine lv_iconst (v := (nI 1)) hx hb dL_law_531 (by decide) ?_
  refine lv_goto (tgt := 536) hx hb dL_law_532 (by decide) ?_
  exact cj_L_law_536 l D kI kC kB a h_ x v3 hA C hAf hX hbl hL _ hK71 (nI 1) hw H locs hP hD hS ls (lv_sub hl [0, 1, 2] rfl)
set_option maxHeartbeats 4000000 in
set_option maxRecDepth 100000 in
theorem cj_L_law_535 (l : Launch) (D : va_G) (kI kC kB : ClassId) (a : AdT) (h_ : Nat → AdT) (x : XS) (v3 : Int32) {p : Program} {e : Env} {s : State} {m : MethodId} {below : List Frame} {meth : Method} {c : Code} {b L : Nat} {xs : Nat → Int32} {A : Nat → Prop} (hA : ∀ q : Nat, s.heap.size ≤ q → A q) (C : CtxT p s m #[Value.ref b] meth c code 28 ret "QuireSignsLaw" D kI kC kB) (hAf : ∀ q : Nat, A q → s.heap.size ≤ q) (hX : va_X b L xs s s.heap) (hbl : b < s.heap.size) (hL : L ≤ 260) (K71 : XS → Int32 → Int32 → Prop) (hK71 : ∀ (h_ : Nat → AdT) (x : XS) (v2 : Int32) (v3 : Int32), K71 x v2 v3 → ∀ (H : Heap) (locs : List Loc), va_P D vwCl (bfl [cwX kI kB a h_ x]) H → va_D A (bfl [cwX kI kB a h_ x]) → va_S A s.heap H locs → ∀ (ls : Array Slot), lv_has ls 28 [(0, .ref b), (1, .ref (a 0)), (2, .int v2), (3, .int v3)] → W p l e room_1 s m #[Value.ref b] below meth c H locs 78 1376 (lw_Z below #[Value.ref b] s) (F0 m 71 ls [])) : wj_L_law_535 x v3 K71 → ∀ (H : Heap) (locs : List Loc), va_P D vwCl (bfl [cwX kI kB a h_ x]) H → va_D A (bfl [cwX kI kB a h_ x]) → va_S A s.heap H locs → ∀ (ls : Array Slot), lv_has ls 28 [(0, .ref b), (1, .ref (a 0)), (3, .int v3)] → W p l e room_1 s m #[Value.ref b] below meth c H locs 78 1376 (lw_Z below #[Value.ref b] s) (F0 m 535 ls []) := by
  obtain ⟨hx, hb, hr, hml, hown, hts, hlocks, hK⟩ := id C
  have hbA : ¬ A b := fun q => Nat.not_le.mpr hbl (hAf b q)
  intro hw H locs hP hD hS ls hl
  unfold wj_L_law_535 at hw
  refine lv_iconst (v := (nI 0)) hx hb dL_law_535 (by decide) ?_
  exact cj_L_law_536 l D kI kC kB a h_ x v3 hA C hAf hX hbl hL _ hK71 (nI 0) hw H locs hP hD hS ls (lv_sub hl [0, 1, 2] rfl)
set_option maxHeartbeats 4000000 in
set_option maxRecDepth 100000 in
theorem cj_L_law_528 (l : Launch) (D : va_G) (kI kC kB : ClassId) (a : AdT) (h_ : Nat → AdT) (x : XS) (v3 : Int32) {p : Program} {e : Env} {s : State} {m : MethodId} {below : List Frame} {meth : Method} {c : Code} {b L : Nat} {xs : Nat → Int32} {A : Nat → Prop} (hA : ∀ q : Nat, s.heap.size ≤ q → A q) (C : CtxT p s m #[Value.ref b] meth c code 28 ret "QuireSignsLaw" D kI kC kB) (hAf : ∀ q : Nat, A q → s.heap.size ≤ q) (hX : va_X b L xs s s.heap) (hbl : b < s.heap.size) (hL : L ≤ 260) (K71 : XS → Int32 → Int32 → Prop) (hK71 : ∀ (h_ : Nat → AdT) (x : XS) (v2 : Int32) (v3 : Int32), K71 x v2 v3 → ∀ (H : Heap) (locs : List Loc), va_P D vwCl (bfl [cwX kI kB a h_ x]) H → va_D A (bfl [cwX kI kB a h_ x]) → va_S A s.heap H locs → ∀ (ls : Array Slot), lv_has ls 28 [(0, .ref b), (1, .ref (a 0)), (2, .int v2), (3, .int v3)] → W p l e room_1 s m #[Value.ref b] below meth c H locs 78 1376 (lw_Z below #[Value.ref b] s) (F0 m 71 ls [])) : ∀ (t0 : Int32) (t1 : Int32), wj_L_law_528 x v3 t0 t1 K71 → ∀ (H : Heap) (locs : List Loc), va_P D vwCl (bfl [cwX kI kB a h_ x]) H → va_D A (bfl [cwX kI kB a h_ x]) → va_S A s.heap H locs → ∀ (ls : Array Slot), lv_has ls 28 [(0, .ref b), (1, .ref (a 0)), (3, .int v3)] → W p l e room_1 s m #[Value.ref b] below meth c H locs 78 1376 (lw_Z below #[Value.ref b] s) (F0 m 528 ls [.int t1, .int t0]) := by
  obtain ⟨hx, hb, hr, hml, hown, hts, hlocks, hK⟩ := id C
  have hbA : ¬ A b := fun q => Nat.not_le.mpr hbl (hAf b q)
  intro t0 t1 hw H locs hP hD hS ls hl
  unfold wj_L_law_528 at hw
  refine lv_icmp_ne (tgt := 535) hx hb dL_law_528 (by decide) (fun hc => ?_) (fun hc => ?_)
  · replace hw := hw.2 hc
    exact cj_L_law_535 l D kI kC kB a h_ x v3 hA C hAf hX hbl hL _ hK71 hw H locs hP hD hS ls (lv_sub hl [0, 1, 2] rfl)
  · replace hw := hw.1 hc
    exact cj_L_law_531 l D kI kC kB a h_ x v3 hA C hAf hX hbl hL _ hK71 hw H locs hP hD hS ls (lv_sub hl [0, 1, 2] rfl)
set_option maxHeartbeats 4000000 in
set_option maxRecDepth 100000 in
theorem cj_L_law_501 (l : Launch) (D : va_G) (kI kC kB : ClassId) (a : AdT) (h_ : Nat → AdT) (x : XS) (v3 : Int32) (v7 : Int32) (v13 : Int32) (v14 : Int32) {p : Program} {e : Env} {s : State} {m : MethodId} {below : List Frame} {meth : Method} {c : Code} {b L : Nat} {xs : Nat → Int32} {A : Nat → Prop} (hA : ∀ q : Nat, s.heap.size ≤ q → A q) (C : CtxT p s m #[Value.ref b] meth c code 28 ret "QuireSignsLaw" D kI kC kB) (hAf : ∀ q : Nat, A q → s.heap.size ≤ q) (hX : va_X b L xs s s.heap) (hbl : b < s.heap.size) (hL : L ≤ 260) (K71 : XS → Int32 → Int32 → Prop) (hK71 : ∀ (h_ : Nat → AdT) (x : XS) (v2 : Int32) (v3 : Int32), K71 x v2 v3 → ∀ (H : Heap) (locs : List Loc), va_P D vwCl (bfl [cwX kI kB a h_ x]) H → va_D A (bfl [cwX kI kB a h_ x]) → va_S A s.heap H locs → ∀ (ls : Array Slot), lv_has ls 28 [(0, .ref b), (1, .ref (a 0)), (2, .int v2), (3, .int v3)] → W p l e room_1 s m #[Value.ref b] below meth c H locs 78 1376 (lw_Z below #[Value.ref b] s) (F0 m 71 ls [])) : ∀ (t0 : Int32) (t1 : Int32), wj_L_law_501 x v3 v7 v13 v14 t0 t1 K71 → ∀ (H : Heap) (locs : List Loc), va_P D vwCl (bfl [cwX kI kB a h_ x]) H → va_D A (bfl [cwX kI kB a h_ x]) → va_S A s.heap H locs → ∀ (ls : Array Slot), lv_has ls 28 [(0, .ref b), (1, .ref (a 0)), (3, .int v3), (7, .int v7), (13, .int v13), (14, .int v14)] → W p l e room_1 s m #[Value.ref b] below meth c H locs 78 1376 (lw_Z below #[Value.ref b] s) (F0 m 501 ls [.int t1, .int t0]) := by
  obtain ⟨hx, hb, hr, hml, hown, hts, hlocks, hK⟩ := id C
  have hbA : ¬ A b := fun q => Nat.not_le.mpr hbl (hAf b q)
  intro t0 t1 hw H locs hP hD hS ls hl
  unfold wj_L_law_501 at hw
  refine lv_icmp_ne (tgt := 535) hx hb dL_law_501 (by decide) (fun hc => ?_) (fun hc => ?_)
  · replace hw := hw.2 hc
    exact cj_L_law_535 l D kI kC kB a h_ x v3 hA C hAf hX hbl hL _ hK71 hw H locs hP hD hS ls (lv_sub hl [0, 1, 2] rfl)
  · replace hw := hw.1 hc
    refine lv_iload hx hb dL_law_504 (lv_at hl 4 rfl) ?_
    refine lv_iload hx hb dL_law_506 (lv_at hl 3 rfl) ?_
    refine lv_icmp_ge (tgt := 531) hx hb dL_law_508 (by decide) (fun hc => ?_) (fun hc => ?_)
    · replace hw := hw.1 hc
      exact cj_L_law_531 l D kI kC kB a h_ x v3 hA C hAf hX hbl hL _ hK71 hw H locs hP hD hS ls (lv_sub hl [0, 1, 2] rfl)
    · replace hw := hw.2 hc
      refine lv_aload_n hx hb dL_law_511 rfl (lv_at hl 1 rfl) ?_
      refine lv_iload hx hb dL_law_512 (lv_at hl 4 rfl) ?_
      refine lv_iconst (v := (nI 4)) hx hb dL_law_514 (by decide) ?_
      refine kRB (As := [.int v13, .int (nI 4)]) (rest := []) (q0 := 0) C (c_X8_leaf l D kI kC kB a h_ x.1 x.2.1 x.2.2.1 x.2.2.2.1 x.2.2.2.2.1 x.2.2.2.2.2.1 x.2.2.2.2.2.2.1 x.2.2.2.2.2.2.2.1 x.2.2.2.2.2.2.2.2.1 x.2.2.2.2.2.2.2.2.2.1 x.2.2.2.2.2.2.2.2.2.2.1 x.2.2.2.2.2.2.2.2.2.2.2.1 x.2.2.2.2.2.2.2.2.2.2.2.2.1 x.2.2.2.2.2.2.2.2.2.2.2.2.2.1 x.2.2.2.2.2.2.2.2.2.2.2.2.2.2.1 x.2.2.2.2.2.2.2.2.2.2.2.2.2.2.2.1 x.2.2.2.2.2.2.2.2.2.2.2.2.2.2.2.2.1 x.2.2.2.2.2.2.2.2.2.2.2.2.2.2.2.2.2.1 x.2.2.2.2.2.2.2.2.2.2.2.2.2.2.2.2.2.2.1 x.2.2.2.2.2.2.2.2.2.2.2.2.2.2.2.2.2.2.2.1 x.2.2.2.2.2.2.2.2.2.2.2.2.2.2.2.2.2.2.2.2.1 x.2.2.2.2.2.2.2.2.2.2.2.2.2.2.2.2.2.2.2.2.2.1 x.2.2.2.2.2.2.2.2.2.2.2.2.2.2.2.2.2.2.2.2.2.2 v13 (nI 4) _ hw) ⟨rfl, rfl⟩ ce_X8_leaf cv_X8_leaf tw_505 ⟨(Nat.le_of_ble_eq_true rfl), (Nat.le_of_ble_eq_true rfl)⟩ hP (bfl_p1 [_] 0 rfl) rfl rfl rfl hl.1 rfl (Nat.le_of_ble_eq_true rfl) ⟨(Nat.le_of_ble_eq_true rfl), (Nat.le_of_ble_eq_true rfl)⟩ dL_law_515 (fun r17 hw => ?_)
      refine lv_iload hx hb dL_law_518 (lv_at hl 5 rfl) ?_
      refine lv_if_eq (tgt := 527) hx hb dL_law_520 (by decide) (fun hc => ?_) (fun hc => ?_)
      · replace hw := hw.1 hc
        refine lv_iconst (v := (nI 0)) hx hb dL_law_527 (by decide) ?_
        exact cj_L_law_528 l D kI kC kB a h_ x v3 hA C hAf hX hbl hL _ hK71 r17 (nI 0) hw H locs hP hD hS ls (lv_sub hl [0, 1, 2] rfl)
      · replace hw := hw.2 hc
        refine lv_iconst (v := (nI 1)) hx hb dL_law_523 (by decide) ?_
        refine lv_goto (tgt := 528) hx hb dL_law_524 (by decide) ?_
        exact cj_L_law_528 l D kI kC kB a h_ x v3 hA C hAf hX hbl hL _ hK71 r17 (nI 1) hw H locs hP hD hS ls (lv_sub hl [0, 1, 2] rfl)
set_option maxHeartbeats 4000000 in
set_option maxRecDepth 100000 in
theorem cj_L_law_500 (l : Launch) (D : va_G) (kI kC kB : ClassId) (a : AdT) (h_ : Nat → AdT) (x : XS) (v3 : Int32) (v7 : Int32) (v13 : Int32) (v14 : Int32) {p : Program} {e : Env} {s : State} {m : MethodId} {below : List Frame} {meth : Method} {c : Code} {b L : Nat} {xs : Nat → Int32} {A : Nat → Prop} (hA : ∀ q : Nat, s.heap.size ≤ q → A q) (C : CtxT p s m #[Value.ref b] meth c code 28 ret "QuireSignsLaw" D kI kC kB) (hAf : ∀ q : Nat, A q → s.heap.size ≤ q) (hX : va_X b L xs s s.heap) (hbl : b < s.heap.size) (hL : L ≤ 260) (K71 : XS → Int32 → Int32 → Prop) (hK71 : ∀ (h_ : Nat → AdT) (x : XS) (v2 : Int32) (v3 : Int32), K71 x v2 v3 → ∀ (H : Heap) (locs : List Loc), va_P D vwCl (bfl [cwX kI kB a h_ x]) H → va_D A (bfl [cwX kI kB a h_ x]) → va_S A s.heap H locs → ∀ (ls : Array Slot), lv_has ls 28 [(0, .ref b), (1, .ref (a 0)), (2, .int v2), (3, .int v3)] → W p l e room_1 s m #[Value.ref b] below meth c H locs 78 1376 (lw_Z below #[Value.ref b] s) (F0 m 71 ls [])) : ∀ (t0 : Int32) (t1 : Int32) (t2 : Int32), wj_L_law_500 x v3 v7 v13 v14 t0 t1 t2 K71 → ∀ (H : Heap) (locs : List Loc), va_P D vwCl (bfl [cwX kI kB a h_ x]) H → va_D A (bfl [cwX kI kB a h_ x]) → va_S A s.heap H locs → ∀ (ls : Array Slot), lv_has ls 28 [(0, .ref b), (1, .ref (a 0)), (3, .int v3), (7, .int v7), (13, .int v13), (14, .int v14)] → W p l e room_1 s m #[Value.ref b] below meth c H locs 78 1376 (lw_Z below #[Value.ref b] s) (F0 m 500 ls [.int t2, .int t1, .int t0]) := by
  obtain ⟨hx, hb, hr, hml, hown, hts, hlocks, hK⟩ := id C
  have hbA : ¬ A b := fun q => Nat.not_le.mpr hbl (hAf b q)
  intro t0 t1 t2 hw H locs hP hD hS ls hl
  unfold wj_L_law_500 at hw
  refine lv_iadd hx hb dL_law_500 ?_
  exact cj_L_law_501 l D kI kC kB a h_ x v3 v7 v13 v14 hA C hAf hX hbl hL _ hK71 t0 (t1 + t2) hw H locs hP hD hS ls (lv_sub hl [0, 1, 2, 3, 4, 5] rfl)
set_option maxHeartbeats 4000000 in
set_option maxRecDepth 100000 in
theorem cj_L_law_480 (l : Launch) (D : va_G) (kI kC kB : ClassId) (a : AdT) (h_ : Nat → AdT) (x : XS) (v3 : Int32) (v7 : Int32) (v13 : Int32) (v14 : Int32) (v16 : Int32) {p : Program} {e : Env} {s : State} {m : MethodId} {below : List Frame} {meth : Method} {c : Code} {b L : Nat} {xs : Nat → Int32} {A : Nat → Prop} (hA : ∀ q : Nat, s.heap.size ≤ q → A q) (C : CtxT p s m #[Value.ref b] meth c code 28 ret "QuireSignsLaw" D kI kC kB) (hAf : ∀ q : Nat, A q → s.heap.size ≤ q) (hX : va_X b L xs s s.heap) (hbl : b < s.heap.size) (hL : L ≤ 260) (K71 : XS → Int32 → Int32 → Prop) (hK71 : ∀ (h_ : Nat → AdT) (x : XS) (v2 : Int32) (v3 : Int32), K71 x v2 v3 → ∀ (H : Heap) (locs : List Loc), va_P D vwCl (bfl [cwX kI kB a h_ x]) H → va_D A (bfl [cwX kI kB a h_ x]) → va_S A s.heap H locs → ∀ (ls : Array Slot), lv_has ls 28 [(0, .ref b), (1, .ref (a 0)), (2, .int v2), (3, .int v3)] → W p l e room_1 s m #[Value.ref b] below meth c H locs 78 1376 (lw_Z below #[Value.ref b] s) (F0 m 71 ls [])) : ∀ (t0 : Int32) (t1 : Int32) (t2 : Int32), wj_L_law_480 x v3 v7 v13 v14 v16 t0 t1 t2 K71 → ∀ (H : Heap) (locs : List Loc), va_P D vwCl (bfl [cwX kI kB a h_ x]) H → va_D A (bfl [cwX kI kB a h_ x]) → va_S A s.heap H locs → ∀ (ls : Array Slot), lv_has ls 28 [(0, .ref b), (1, .ref (a 0)), (3, .int v3), (7, .int v7), (13, .int v13), (14, .int v14), (16, .int v16)] → W p l e room_1 s m #[Value.ref b] below meth c H locs 78 1376 (lw_Z below #[Value.ref b] s) (F0 m 480 ls [.int t2, .int t1, .int t0]) := by
  obtain ⟨hx, hb, hr, hml, hown, hts, hlocks, hK⟩ := id C
  have hbA : ¬ A b := fun q => Nat.not_le.mpr hbl (hAf b q)
  intro t0 t1 t2 hw H locs hP hD hS ls hl
  unfold wj_L_law_480 at hw
  refine lv_icmp_ne (tgt := 488) hx hb dL_law_480 (by decide) (fun hc => ?_) (fun hc => ?_)
  · replace hw := hw.2 hc
    refine lv_iload hx hb dL_law_488 (lv_at hl 6 rfl) ?_
    refine lv_iload hx hb dL_law_490 (lv_at hl 5 rfl) ?_
    refine lv_if_eq (tgt := 499) hx hb dL_law_492 (by decide) (fun hc => ?_) (fun hc => ?_)
    · replace hw := hw.1 hc
      refine lv_iconst (v := (nI 1)) hx hb dL_law_499 (by decide) ?_
      exact cj_L_law_500 l D kI kC kB a h_ x v3 v7 v13 v14 hA C hAf hX hbl hL _ hK71 t0 v16 (nI 1) hw H locs hP hD hS ls (lv_sub hl [0, 1, 2, 3, 4, 5] rfl)
    · replace hw := hw.2 hc
      refine lv_iconst (v := (-1)) hx hb dL_law_495 (by decide) ?_
      refine lv_goto (tgt := 500) hx hb dL_law_496 (by decide) ?_
      exact cj_L_law_500 l D kI kC kB a h_ x v3 v7 v13 v14 hA C hAf hX hbl hL _ hK71 t0 v16 (-1) hw H locs hP hD hS ls (lv_sub hl [0, 1, 2, 3, 4, 5] rfl)
  · replace hw := hw.1 hc
    refine lv_bipush (v := (-5)) hx hb dL_law_483 (by decide) ?_
    refine lv_goto (tgt := 501) hx hb dL_law_485 (by decide) ?_
    exact cj_L_law_501 l D kI kC kB a h_ x v3 v7 v13 v14 hA C hAf hX hbl hL _ hK71 t0 (-5) hw H locs hP hD hS ls (lv_sub hl [0, 1, 2, 3, 4, 5] rfl)
set_option maxHeartbeats 4000000 in
set_option maxRecDepth 100000 in
theorem cj_L_law_428 (l : Launch) (D : va_G) (kI kC kB : ClassId) (a : AdT) (h_ : Nat → AdT) (x : XS) (v3 : Int32) (v7 : Int32) (v13 : Int32) {p : Program} {e : Env} {s : State} {m : MethodId} {below : List Frame} {meth : Method} {c : Code} {b L : Nat} {xs : Nat → Int32} {A : Nat → Prop} (hA : ∀ q : Nat, s.heap.size ≤ q → A q) (C : CtxT p s m #[Value.ref b] meth c code 28 ret "QuireSignsLaw" D kI kC kB) (hAf : ∀ q : Nat, A q → s.heap.size ≤ q) (hX : va_X b L xs s s.heap) (hbl : b < s.heap.size) (hL : L ≤ 260) (K71 : XS → Int32 → Int32 → Prop) (hK71 : ∀ (h_ : Nat → AdT) (x : XS) (v2 : Int32) (v3 : Int32), K71 x v2 v3 → ∀ (H : Heap) (locs : List Loc), va_P D vwCl (bfl [cwX kI kB a h_ x]) H → va_D A (bfl [cwX kI kB a h_ x]) → va_S A s.heap H locs → ∀ (ls : Array Slot), lv_has ls 28 [(0, .ref b), (1, .ref (a 0)), (2, .int v2), (3, .int v3)] → W p l e room_1 s m #[Value.ref b] below meth c H locs 78 1376 (lw_Z below #[Value.ref b] s) (F0 m 71 ls [])) : ∀ (t0 : Int32), wj_L_law_428 x v3 v7 v13 t0 K71 → ∀ (H : Heap) (locs : List Loc), va_P D vwCl (bfl [cwX kI kB a h_ x]) H → va_D A (bfl [cwX kI kB a h_ x]) → va_S A s.heap H locs → ∀ (ls : Array Slot), lv_has ls 28 [(0, .ref b), (1, .ref (a 0)), (3, .int v3), (7, .int v7), (13, .int v13)] → W p l e room_1 s m #[Value.ref b] below meth c H locs 78 1376 (lw_Z below #[Value.ref b] s) (F0 m 428 ls [.int t0]) := by
  obtain ⟨hx, hb, hr, hml, hown, hts, hlocks, hK⟩ := id C
  have hbA : ¬ A b := fun q => Nat.not_le.mpr hbl (hAf b q)
  intro t0 hw H locs hP hD hS ls hl
  unfold wj_L_law_428 at hw
  refine lv_istore (lv' := [(14, .int t0), (0, .ref b), (1, .ref (a 0)), (3, .int v3), (7, .int v7), (13, .int v13)]) hx hb dL_law_428 hl (by decide) rfl (fun ls hl => ?_)
  refine lv_aload_n hx hb dL_law_430 rfl (lv_at hl 2 rfl) ?_
  refine lv_iload hx hb dL_law_431 (lv_at hl 5 rfl) ?_
  refine lv_iconst (v := (nI 4)) hx hb dL_law_433 (by decide) ?_
  refine kRB (As := [.int v13, .int (nI 4)]) (rest := []) (q0 := 0) C (c_X8_leaf l D kI kC kB a h_ x.1 x.2.1 x.2.2.1 x.2.2.2.1 x.2.2.2.2.1 x.2.2.2.2.2.1 x.2.2.2.2.2.2.1 x.2.2.2.2.2.2.2.1 x.2.2.2.2.2.2.2.2.1 x.2.2.2.2.2.2.2.2.2.1 x.2.2.2.2.2.2.2.2.2.2.1 x.2.2.2.2.2.2.2.2.2.2.2.1 x.2.2.2.2.2.2.2.2.2.2.2.2.1 x.2.2.2.2.2.2.2.2.2.2.2.2.2.1 x.2.2.2.2.2.2.2.2.2.2.2.2.2.2.1 x.2.2.2.2.2.2.2.2.2.2.2.2.2.2.2.1 x.2.2.2.2.2.2.2.2.2.2.2.2.2.2.2.2.1 x.2.2.2.2.2.2.2.2.2.2.2.2.2.2.2.2.2.1 x.2.2.2.2.2.2.2.2.2.2.2.2.2.2.2.2.2.2.1 x.2.2.2.2.2.2.2.2.2.2.2.2.2.2.2.2.2.2.2.1 x.2.2.2.2.2.2.2.2.2.2.2.2.2.2.2.2.2.2.2.2.1 x.2.2.2.2.2.2.2.2.2.2.2.2.2.2.2.2.2.2.2.2.2.1 x.2.2.2.2.2.2.2.2.2.2.2.2.2.2.2.2.2.2.2.2.2.2 v13 (nI 4) _ hw) ⟨rfl, rfl⟩ ce_X8_leaf cv_X8_leaf tw_505 ⟨(Nat.le_of_ble_eq_true rfl), (Nat.le_of_ble_eq_true rfl)⟩ hP (bfl_p1 [_] 0 rfl) rfl rfl rfl hl.1 rfl (Nat.le_of_ble_eq_true rfl) ⟨(Nat.le_of_ble_eq_true rfl), (Nat.le_of_ble_eq_true rfl)⟩ dL_law_434 (fun r18 hw => ?_)
  refine lv_istore (lv' := [(15, .int r18), (14, .int t0), (0, .ref b), (1, .ref (a 0)), (3, .int v3), (7, .int v7), (13, .int v13)]) hx hb dL_law_437 hl (by decide) rfl (fun ls hl => ?_)
  refine lv_iload hx hb dL_law_439 (lv_at hl 5 rfl) ?_
  refine lv_aload_n hx hb dL_law_441 rfl (lv_at hl 3 rfl) ?_
  refine lv_iconst (v := (nI 2)) hx hb dL_law_442 (by decide) ?_
  refine kMBi (As := [.int (nI 2)]) (rest := [.int v7]) (q0 := 0) (ws' := fun u : (Nat → AdT) × XS => (bfl [cwX kI kB a u.1 u.2])) C (cx_count l D kI kC kB a h_ x H.size (nI 2) _ hw) ⟨rfl, rfl⟩ ce_X8_count cv_X8_count tw_597 ⟨(Nat.le_of_ble_eq_true rfl), (Nat.le_of_ble_eq_true rfl)⟩ hP hD hS hA (bfl_p1 [_] 0 rfl) (fun u => (bfl_p1 [_] 0 rfl)) rfl rfl rfl hl.1 rfl (Nat.le_of_ble_eq_true rfl) ⟨(Nat.le_of_ble_eq_true rfl), (Nat.le_of_ble_eq_true rfl)⟩ dL_law_443 (fun r19 u H locs hw hP hD hS => ?_)
  obtain ⟨h20, x21⟩ := u
  try dsimp only at hw
  replace hP : va_P D vwCl (bfl [cwX kI kB a h20 x21]) H := hP
  replace hD : va_D A (bfl [cwX kI kB a h20 x21]) := hD
  refine lv_isub hx hb dL_law_446 ?_
  refine lv_topi (fun y22 ey22 => ?_)
  replace hw := hw y22 ey22
  refine lv_istore (lv' := [(16, .int y22), (15, .int r18), (14, .int t0), (0, .ref b), (1, .ref (a 0)), (3, .int v3), (7, .int v7), (13, .int v13)]) hx hb dL_law_447 hl (by decide) rfl (fun ls hl => ?_)
  refine lv_aload_n hx hb dL_law_449 rfl (lv_at hl 4 rfl) ?_
  refine lv_iload hx hb dL_law_450 (lv_at hl 7 rfl) ?_
  refine lv_iload hx hb dL_law_452 (lv_at hl 2 rfl) ?_
  refine kMBi (As := [.int v13, .int t0]) (rest := []) (q0 := 0) (ws' := fun u : (Nat → AdT) × XS => (bfl [cwX kI kB a u.1 u.2])) C (cx_lose l D kI kC kB a h20 x21 H.size v13 t0 _ hw) ⟨rfl, rfl⟩ ce_X8_lose cv_X8_lose tw_415 ⟨(Nat.le_of_ble_eq_true rfl), (Nat.le_of_ble_eq_true rfl)⟩ hP hD hS hA (bfl_p1 [_] 0 rfl) (fun u => (bfl_p1 [_] 0 rfl)) rfl rfl rfl hl.1 rfl (Nat.le_of_ble_eq_true rfl) ⟨(Nat.le_of_ble_eq_true rfl), (Nat.le_of_ble_eq_true rfl)⟩ dL_law_454 (fun r23 u H locs hw hP hD hS => ?_)
  obtain ⟨h24, x25⟩ := u
  try dsimp only at hw
  replace hP : va_P D vwCl (bfl [cwX kI kB a h24 x25]) H := hP
  replace hD : va_D A (bfl [cwX kI kB a h24 x25]) := hD
  refine lv_iload hx hb dL_law_457 (lv_at hl 7 rfl) ?_
  refine lv_iload hx hb dL_law_459 (lv_at hl 6 rfl) ?_
  refine lv_icmp_lt (tgt := 468) hx hb dL_law_461 (by decide) (fun hc => ?_) (fun hc => ?_)
  · replace hw := hw.1 hc
    refine lv_iload hx hb dL_law_468 (lv_at hl 1 rfl) ?_
    refine lv_iload hx hb dL_law_470 (lv_at hl 2 rfl) ?_
    refine lv_if_eq (tgt := 479) hx hb dL_law_472 (by decide) (fun hc => ?_) (fun hc => ?_)
    · replace hw := hw.1 hc
      refine lv_iconst (v := (nI 0)) hx hb dL_law_479 (by decide) ?_
      exact cj_L_law_480 l D kI kC kB a h24 x25 v3 v7 v13 t0 y22 hA C hAf hX hbl hL _ hK71 r23 r18 (nI 0) hw H locs hP hD hS ls (lv_sub hl [3, 4, 5, 6, 7, 2, 0] rfl)
    · replace hw := hw.2 hc
      refine lv_iconst (v := (nI 1)) hx hb dL_law_475 (by decide) ?_
      refine lv_goto (tgt := 480) hx hb dL_law_476 (by decide) ?_
      exact cj_L_law_480 l D kI kC kB a h24 x25 v3 v7 v13 t0 y22 hA C hAf hX hbl hL _ hK71 r23 r18 (nI 1) hw H locs hP hD hS ls (lv_sub hl [3, 4, 5, 6, 7, 2, 0] rfl)
  · replace hw := hw.2 hc
    refine lv_iconst (v := (-1)) hx hb dL_law_464 (by decide) ?_
    refine lv_goto (tgt := 501) hx hb dL_law_465 (by decide) ?_
    exact cj_L_law_501 l D kI kC kB a h24 x25 v3 v7 v13 t0 hA C hAf hX hbl hL _ hK71 r23 (-1) hw H locs hP hD hS ls (lv_sub hl [3, 4, 5, 6, 7, 2] rfl)
set_option maxHeartbeats 4000000 in
set_option maxRecDepth 100000 in
theorem cj_L_law_406 (l : Launch) (D : va_G) (kI kC kB : ClassId) (a : AdT) (h_ : Nat → AdT) (x : XS) (v3 : Int32) (v5 : Int32) (v7 : Int32) {p : Program} {e : Env} {s : State} {m : MethodId} {below : List Frame} {meth : Method} {c : Code} {b L : Nat} {xs : Nat → Int32} {A : Nat → Prop} (hA : ∀ q : Nat, s.heap.size ≤ q → A q) (C : CtxT p s m #[Value.ref b] meth c code 28 ret "QuireSignsLaw" D kI kC kB) (hAf : ∀ q : Nat, A q → s.heap.size ≤ q) (hX : va_X b L xs s s.heap) (hbl : b < s.heap.size) (hL : L ≤ 260) (K71 : XS → Int32 → Int32 → Prop) (hK71 : ∀ (h_ : Nat → AdT) (x : XS) (v2 : Int32) (v3 : Int32), K71 x v2 v3 → ∀ (H : Heap) (locs : List Loc), va_P D vwCl (bfl [cwX kI kB a h_ x]) H → va_D A (bfl [cwX kI kB a h_ x]) → va_S A s.heap H locs → ∀ (ls : Array Slot), lv_has ls 28 [(0, .ref b), (1, .ref (a 0)), (2, .int v2), (3, .int v3)] → W p l e room_1 s m #[Value.ref b] below meth c H locs 78 1376 (lw_Z below #[Value.ref b] s) (F0 m 71 ls [])) : wj_L_law_406 x v3 v5 v7 K71 → ∀ (H : Heap) (locs : List Loc), va_P D vwCl (bfl [cwX kI kB a h_ x]) H → va_D A (bfl [cwX kI kB a h_ x]) → va_S A s.heap H locs → ∀ (ls : Array Slot), lv_has ls 28 [(0, .ref b), (1, .ref (a 0)), (3, .int v3), (5, .int v5), (7, .int v7)] → W p l e room_1 s m #[Value.ref b] below meth c H locs 78 1376 (lw_Z below #[Value.ref b] s) (F0 m 406 ls []) := by
  obtain ⟨hx, hb, hr, hml, hown, hts, hlocks, hK⟩ := id C
  have hbA : ¬ A b := fun q => Nat.not_le.mpr hbl (hAf b q)
  intro hw H locs hP hD hS ls hl
  unfold wj_L_law_406 at hw
  refine lv_iload hx hb dL_law_406 (lv_at hl 3 rfl) ?_
  refine lv_bipush (v := (nI 60)) hx hb dL_law_408 (by decide) ?_
  refine lv_irem hx hb dL_law_410 (by decide) ?_
  refine lv_topi (fun y26 ey26 => ?_)
  replace hw := hw y26 ey26
  refine lv_istore (lv' := [(13, .int y26), (0, .ref b), (1, .ref (a 0)), (3, .int v3), (5, .int v5), (7, .int v7)]) hx hb dL_law_411 hl (by decide) rfl (fun ls hl => ?_)
  refine lv_iload hx hb dL_law_413 (lv_at hl 4 rfl) ?_
  refine lv_bipush (v := (nI 64)) hx hb dL_law_415 (by decide) ?_
  refine lv_idiv hx hb dL_law_417 (by decide) ?_
  refine lv_iconst (v := (nI 4)) hx hb dL_law_418 (by decide) ?_
  refine lv_irem hx hb dL_law_419 (by decide) ?_
  refine lv_if_eq (tgt := 427) hx hb dL_law_420 (by decide) (fun hc => ?_) (fun hc => ?_)
  · replace hw := hw.1 hc
    refine lv_iconst (v := (nI 0)) hx hb dL_law_427 (by decide) ?_
    exact cj_L_law_428 l D kI kC kB a h_ x v3 v7 y26 hA C hAf hX hbl hL _ hK71 (nI 0) hw H locs hP hD hS ls (lv_sub hl [1, 2, 3, 5, 0] rfl)
  · replace hw := hw.2 hc
    refine lv_iconst (v := (nI 1)) hx hb dL_law_423 (by decide) ?_
    refine lv_goto (tgt := 428) hx hb dL_law_424 (by decide) ?_
    exact cj_L_law_428 l D kI kC kB a h_ x v3 v7 y26 hA C hAf hX hbl hL _ hK71 (nI 1) hw H locs hP hD hS ls (lv_sub hl [1, 2, 3, 5, 0] rfl)
set_option maxHeartbeats 4000000 in
set_option maxRecDepth 100000 in
theorem cj_L_law_600 (l : Launch) (D : va_G) (kI kC kB : ClassId) (a : AdT) (h_ : Nat → AdT) (x : XS) (v3 : Int32) {p : Program} {e : Env} {s : State} {m : MethodId} {below : List Frame} {meth : Method} {c : Code} {b L : Nat} {xs : Nat → Int32} {A : Nat → Prop} (hA : ∀ q : Nat, s.heap.size ≤ q → A q) (C : CtxT p s m #[Value.ref b] meth c code 28 ret "QuireSignsLaw" D kI kC kB) (hAf : ∀ q : Nat, A q → s.heap.size ≤ q) (hX : va_X b L xs s s.heap) (hbl : b < s.heap.size) (hL : L ≤ 260) (K71 : XS → Int32 → Int32 → Prop) (hK71 : ∀ (h_ : Nat → AdT) (x : XS) (v2 : Int32) (v3 : Int32), K71 x v2 v3 → ∀ (H : Heap) (locs : List Loc), va_P D vwCl (bfl [cwX kI kB a h_ x]) H → va_D A (bfl [cwX kI kB a h_ x]) → va_S A s.heap H locs → ∀ (ls : Array Slot), lv_has ls 28 [(0, .ref b), (1, .ref (a 0)), (2, .int v2), (3, .int v3)] → W p l e room_1 s m #[Value.ref b] below meth c H locs 78 1376 (lw_Z below #[Value.ref b] s) (F0 m 71 ls [])) : ∀ (t0 : Int32), wj_L_law_600 x v3 t0 K71 → ∀ (H : Heap) (locs : List Loc), va_P D vwCl (bfl [cwX kI kB a h_ x]) H → va_D A (bfl [cwX kI kB a h_ x]) → va_S A s.heap H locs → ∀ (ls : Array Slot), lv_has ls 28 [(0, .ref b), (1, .ref (a 0)), (3, .int v3)] → W p l e room_1 s m #[Value.ref b] below meth c H locs 78 1376 (lw_Z below #[Value.ref b] s) (F0 m 600 ls [.int t0]) := by
  obtain ⟨hx, hb, hr, hml, hown, hts, hlocks, hK⟩ := id C
  have hbA : ¬ A b := fun q => Nat.not_le.mpr hbl (hAf b q)
  intro t0 hw H locs hP hD hS ls hl
  unfold wj_L_law_600 at hw
  refine lv_istore_n (lv' := [(2, .int t0), (0, .ref b), (1, .ref (a 0)), (3, .int v3)]) hx hb dL_law_600 rfl hl (by decide) rfl (fun ls hl => ?_)
  refine lv_goto (tgt := 883) hx hb dL_law_601 (by decide) ?_
  exact cj_L_law_883 l D kI kC kB a h_ x t0 v3 hA C hAf hX hbl hL _ hK71 hw H locs hP hD hS ls (lv_sub hl [1, 2, 0, 3] rfl)
set_option maxHeartbeats 4000000 in
set_option maxRecDepth 100000 in
theorem cj_L_law_599 (l : Launch) (D : va_G) (kI kC kB : ClassId) (a : AdT) (h_ : Nat → AdT) (x : XS) (v3 : Int32) {p : Program} {e : Env} {s : State} {m : MethodId} {below : List Frame} {meth : Method} {c : Code} {b L : Nat} {xs : Nat → Int32} {A : Nat → Prop} (hA : ∀ q : Nat, s.heap.size ≤ q → A q) (C : CtxT p s m #[Value.ref b] meth c code 28 ret "QuireSignsLaw" D kI kC kB) (hAf : ∀ q : Nat, A q → s.heap.size ≤ q) (hX : va_X b L xs s s.heap) (hbl : b < s.heap.size) (hL : L ≤ 260) (K71 : XS → Int32 → Int32 → Prop) (hK71 : ∀ (h_ : Nat → AdT) (x : XS) (v2 : Int32) (v3 : Int32), K71 x v2 v3 → ∀ (H : Heap) (locs : List Loc), va_P D vwCl (bfl [cwX kI kB a h_ x]) H → va_D A (bfl [cwX kI kB a h_ x]) → va_S A s.heap H locs → ∀ (ls : Array Slot), lv_has ls 28 [(0, .ref b), (1, .ref (a 0)), (2, .int v2), (3, .int v3)] → W p l e room_1 s m #[Value.ref b] below meth c H locs 78 1376 (lw_Z below #[Value.ref b] s) (F0 m 71 ls [])) : wj_L_law_599 x v3 K71 → ∀ (H : Heap) (locs : List Loc), va_P D vwCl (bfl [cwX kI kB a h_ x]) H → va_D A (bfl [cwX kI kB a h_ x]) → va_S A s.heap H locs → ∀ (ls : Array Slot), lv_has ls 28 [(0, .ref b), (1, .ref (a 0)), (3, .int v3)] → W p l e room_1 s m #[Value.ref b] below meth c H locs 78 1376 (lw_Z below #[Value.ref b] s) (F0 m 599 ls []) := by
  obtain ⟨hx, hb, hr, hml, hown, hts, hlocks, hK⟩ := id C
  have hbA : ¬ A b := fun q => Nat.not_le.mpr hbl (hAf b q)
  intro hw H locs hP hD hS ls hl
  unfold wj_L_law_599 at hw
  refine lv_iconst (v := (nI 0)) hx hb dL_law_599 (by decide) ?_
  exact cj_L_law_600 l D kI kC kB a h_ x v3 hA C hAf hX hbl hL _ hK71 (nI 0) hw H locs hP hD hS ls (lv_sub hl [0, 1, 2] rfl)
set_option maxHeartbeats 4000000 in
set_option maxRecDepth 100000 in
theorem cj_L_law_581 (l : Launch) (D : va_G) (kI kC kB : ClassId) (a : AdT) (h_ : Nat → AdT) (x : XS) (v3 : Int32) (v17 : Int32) {p : Program} {e : Env} {s : State} {m : MethodId} {below : List Frame} {meth : Method} {c : Code} {b L : Nat} {xs : Nat → Int32} {A : Nat → Prop} (hA : ∀ q : Nat, s.heap.size ≤ q → A q) (C : CtxT p s m #[Value.ref b] meth c code 28 ret "QuireSignsLaw" D kI kC kB) (hAf : ∀ q : Nat, A q → s.heap.size ≤ q) (hX : va_X b L xs s s.heap) (hbl : b < s.heap.size) (hL : L ≤ 260) (K71 : XS → Int32 → Int32 → Prop) (hK71 : ∀ (h_ : Nat → AdT) (x : XS) (v2 : Int32) (v3 : Int32), K71 x v2 v3 → ∀ (H : Heap) (locs : List Loc), va_P D vwCl (bfl [cwX kI kB a h_ x]) H → va_D A (bfl [cwX kI kB a h_ x]) → va_S A s.heap H locs → ∀ (ls : Array Slot), lv_has ls 28 [(0, .ref b), (1, .ref (a 0)), (2, .int v2), (3, .int v3)] → W p l e room_1 s m #[Value.ref b] below meth c H locs 78 1376 (lw_Z below #[Value.ref b] s) (F0 m 71 ls [])) : ∀ (t0 : Int32) (t1 : Int32), wj_L_law_581 x v3 v17 t0 t1 K71 → ∀ (H : Heap) (locs : List Loc), va_P D vwCl (bfl [cwX kI kB a h_ x]) H → va_D A (bfl [cwX kI kB a h_ x]) → va_S A s.heap H locs → ∀ (ls : Array Slot), lv_has ls 28 [(0, .ref b), (1, .ref (a 0)), (3, .int v3), (17, .int v17)] → W p l e room_1 s m #[Value.ref b] below meth c H locs 78 1376 (lw_Z below #[Value.ref b] s) (F0 m 581 ls [.int t1, .int t0]) := by
  obtain ⟨hx, hb, hr, hml, hown, hts, hlocks, hK⟩ := id C
  have hbA : ¬ A b := fun q => Nat.not_le.mpr hbl (hAf b q)
  intro t0 t1 hw H locs hP hD hS ls hl
  unfold wj_L_law_581 at hw
  refine lv_icmp_ne (tgt := 599) hx hb dL_law_581 (by decide) (fun hc => ?_) (fun hc => ?_)
  · replace hw := hw.2 hc
    exact cj_L_law_599 l D kI kC kB a h_ x v3 hA C hAf hX hbl hL _ hK71 hw H locs hP hD hS ls (lv_sub hl [0, 1, 2] rfl)
  · replace hw := hw.1 hc
    refine lv_aload_n hx hb dL_law_584 rfl (lv_at hl 1 rfl) ?_
    refine lv_bipush (v := (nI 10)) hx hb dL_law_585 (by decide) ?_
    refine kMBi (As := [.int (nI 10)]) (rest := []) (q0 := 0) (ws' := fun u : (Nat → AdT) × XS => (bfl [cwX kI kB a u.1 u.2])) C (cx_count l D kI kC kB a h_ x H.size (nI 10) _ hw) ⟨rfl, rfl⟩ ce_X8_count cv_X8_count tw_597 ⟨(Nat.le_of_ble_eq_true rfl), (Nat.le_of_ble_eq_true rfl)⟩ hP hD hS hA (bfl_p1 [_] 0 rfl) (fun u => (bfl_p1 [_] 0 rfl)) rfl rfl rfl hl.1 rfl (Nat.le_of_ble_eq_true rfl) ⟨(Nat.le_of_ble_eq_true rfl), (Nat.le_of_ble_eq_true rfl)⟩ dL_law_587 (fun r27 u H locs hw hP hD hS => ?_)
    obtain ⟨h28, x29⟩ := u
    try dsimp only at hw
    replace hP : va_P D vwCl (bfl [cwX kI kB a h28 x29]) H := hP
    replace hD : va_D A (bfl [cwX kI kB a h28 x29]) := hD
    refine lv_iload hx hb dL_law_590 (lv_at hl 3 rfl) ?_
    refine lv_icmp_ne (tgt := 599) hx hb dL_law_592 (by decide) (fun hc => ?_) (fun hc => ?_)
    · replace hw := hw.2 hc
      exact cj_L_law_599 l D kI kC kB a h28 x29 v3 hA C hAf hX hbl hL _ hK71 hw H locs hP hD hS ls (lv_sub hl [0, 1, 2] rfl)
    · replace hw := hw.1 hc
      refine lv_iconst (v := (nI 1)) hx hb dL_law_595 (by decide) ?_
      refine lv_goto (tgt := 600) hx hb dL_law_596 (by decide) ?_
      exact cj_L_law_600 l D kI kC kB a h28 x29 v3 hA C hAf hX hbl hL _ hK71 (nI 1) hw H locs hP hD hS ls (lv_sub hl [0, 1, 2] rfl)
set_option maxHeartbeats 4000000 in
set_option maxRecDepth 100000 in
theorem cj_L_law_692 (l : Launch) (D : va_G) (kI kC kB : ClassId) (a : AdT) (h_ : Nat → AdT) (x : XS) (v3 : Int32) {p : Program} {e : Env} {s : State} {m : MethodId} {below : List Frame} {meth : Method} {c : Code} {b L : Nat} {xs : Nat → Int32} {A : Nat → Prop} (hA : ∀ q : Nat, s.heap.size ≤ q → A q) (C : CtxT p s m #[Value.ref b] meth c code 28 ret "QuireSignsLaw" D kI kC kB) (hAf : ∀ q : Nat, A q → s.heap.size ≤ q) (hX : va_X b L xs s s.heap) (hbl : b < s.heap.size) (hL : L ≤ 260) (K71 : XS → Int32 → Int32 → Prop) (hK71 : ∀ (h_ : Nat → AdT) (x : XS) (v2 : Int32) (v3 : Int32), K71 x v2 v3 → ∀ (H : Heap) (locs : List Loc), va_P D vwCl (bfl [cwX kI kB a h_ x]) H → va_D A (bfl [cwX kI kB a h_ x]) → va_S A s.heap H locs → ∀ (ls : Array Slot), lv_has ls 28 [(0, .ref b), (1, .ref (a 0)), (2, .int v2), (3, .int v3)] → W p l e room_1 s m #[Value.ref b] below meth c H locs 78 1376 (lw_Z below #[Value.ref b] s) (F0 m 71 ls [])) : ∀ (t0 : Int32), wj_L_law_692 x v3 t0 K71 → ∀ (H : Heap) (locs : List Loc), va_P D vwCl (bfl [cwX kI kB a h_ x]) H → va_D A (bfl [cwX kI kB a h_ x]) → va_S A s.heap H locs → ∀ (ls : Array Slot), lv_has ls 28 [(0, .ref b), (1, .ref (a 0)), (3, .int v3)] → W p l e room_1 s m #[Value.ref b] below meth c H locs 78 1376 (lw_Z below #[Value.ref b] s) (F0 m 692 ls [.int t0]) := by
  obtain ⟨hx, hb, hr, hml, hown, hts, hlocks, hK⟩ := id C
  have hbA : ¬ A b := fun q => Nat.not_le.mpr hbl (hAf b q)
  intro t0 hw H locs hP hD hS ls hl
  unfold wj_L_law_692 at hw
  refine lv_istore_n (lv' := [(2, .int t0), (0, .ref b), (1, .ref (a 0)), (3, .int v3)]) hx hb dL_law_692 rfl hl (by decide) rfl (fun ls hl => ?_)
  refine lv_goto (tgt := 883) hx hb dL_law_693 (by decide) ?_
  exact cj_L_law_883 l D kI kC kB a h_ x t0 v3 hA C hAf hX hbl hL _ hK71 hw H locs hP hD hS ls (lv_sub hl [1, 2, 0, 3] rfl)
set_option maxHeartbeats 4000000 in
set_option maxRecDepth 100000 in
theorem cj_L_law_687 (l : Launch) (D : va_G) (kI kC kB : ClassId) (a : AdT) (h_ : Nat → AdT) (x : XS) (v3 : Int32) {p : Program} {e : Env} {s : State} {m : MethodId} {below : List Frame} {meth : Method} {c : Code} {b L : Nat} {xs : Nat → Int32} {A : Nat → Prop} (hA : ∀ q : Nat, s.heap.size ≤ q → A q) (C : CtxT p s m #[Value.ref b] meth c code 28 ret "QuireSignsLaw" D kI kC kB) (hAf : ∀ q : Nat, A q → s.heap.size ≤ q) (hX : va_X b L xs s s.heap) (hbl : b < s.heap.size) (hL : L ≤ 260) (K71 : XS → Int32 → Int32 → Prop) (hK71 : ∀ (h_ : Nat → AdT) (x : XS) (v2 : Int32) (v3 : Int32), K71 x v2 v3 → ∀ (H : Heap) (locs : List Loc), va_P D vwCl (bfl [cwX kI kB a h_ x]) H → va_D A (bfl [cwX kI kB a h_ x]) → va_S A s.heap H locs → ∀ (ls : Array Slot), lv_has ls 28 [(0, .ref b), (1, .ref (a 0)), (2, .int v2), (3, .int v3)] → W p l e room_1 s m #[Value.ref b] below meth c H locs 78 1376 (lw_Z below #[Value.ref b] s) (F0 m 71 ls [])) : wj_L_law_687 x v3 K71 → ∀ (H : Heap) (locs : List Loc), va_P D vwCl (bfl [cwX kI kB a h_ x]) H → va_D A (bfl [cwX kI kB a h_ x]) → va_S A s.heap H locs → ∀ (ls : Array Slot), lv_has ls 28 [(0, .ref b), (1, .ref (a 0)), (3, .int v3)] → W p l e room_1 s m #[Value.ref b] below meth c H locs 78 1376 (lw_Z below #[Value.ref b] s) (F0 m 687 ls []) := by
  obtain ⟨hx, hb, hr, hml, hown, hts, hlocks, hK⟩ := id C
  have hbA : ¬ A b := fun q => Nat.not_le.mpr hbl (hAf b q)
  intro hw H locs hP hD hS ls hl
  unfold wj_L_law_687 at hw
  refine lv_iconst (v := (nI 1)) hx hb dL_law_687 (by decide) ?_
  refine lv_goto (tgt := 692) hx hb dL_law_688 (by decide) ?_
  exact cj_L_law_692 l D kI kC kB a h_ x v3 hA C hAf hX hbl hL _ hK71 (nI 1) hw H locs hP hD hS ls (lv_sub hl [0, 1, 2] rfl)
set_option maxHeartbeats 4000000 in
set_option maxRecDepth 100000 in
theorem cj_L_law_683 (l : Launch) (D : va_G) (kI kC kB : ClassId) (a : AdT) (h_ : Nat → AdT) (x : XS) (v3 : Int32) {p : Program} {e : Env} {s : State} {m : MethodId} {below : List Frame} {meth : Method} {c : Code} {b L : Nat} {xs : Nat → Int32} {A : Nat → Prop} (hA : ∀ q : Nat, s.heap.size ≤ q → A q) (C : CtxT p s m #[Value.ref b] meth c code 28 ret "QuireSignsLaw" D kI kC kB) (hAf : ∀ q : Nat, A q → s.heap.size ≤ q) (hX : va_X b L xs s s.heap) (hbl : b < s.heap.size) (hL : L ≤ 260) (K71 : XS → Int32 → Int32 → Prop) (hK71 : ∀ (h_ : Nat → AdT) (x : XS) (v2 : Int32) (v3 : Int32), K71 x v2 v3 → ∀ (H : Heap) (locs : List Loc), va_P D vwCl (bfl [cwX kI kB a h_ x]) H → va_D A (bfl [cwX kI kB a h_ x]) → va_S A s.heap H locs → ∀ (ls : Array Slot), lv_has ls 28 [(0, .ref b), (1, .ref (a 0)), (2, .int v2), (3, .int v3)] → W p l e room_1 s m #[Value.ref b] below meth c H locs 78 1376 (lw_Z below #[Value.ref b] s) (F0 m 71 ls [])) : ∀ (t0 : Int32) (t1 : Int32) (t2 : Int32), wj_L_law_683 x v3 t0 t1 t2 K71 → ∀ (H : Heap) (locs : List Loc), va_P D vwCl (bfl [cwX kI kB a h_ x]) H → va_D A (bfl [cwX kI kB a h_ x]) → va_S A s.heap H locs → ∀ (ls : Array Slot), lv_has ls 28 [(0, .ref b), (1, .ref (a 0)), (3, .int v3)] → W p l e room_1 s m #[Value.ref b] below meth c H locs 78 1376 (lw_Z below #[Value.ref b] s) (F0 m 683 ls [.int t2, .int t1, .int t0]) := by
  obtain ⟨hx, hb, hr, hml, hown, hts, hlocks, hK⟩ := id C
  have hbA : ¬ A b := fun q => Nat.not_le.mpr hbl (hAf b q)
  intro t0 t1 t2 hw H locs hP hD hS ls hl
  unfold wj_L_law_683 at hw
  refine lv_iadd hx hb dL_law_683 ?_
  refine lv_icmp_ne (tgt := 691) hx hb dL_law_684 (by decide) (fun hc => ?_) (fun hc => ?_)
  · replace hw := hw.2 hc
    refine lv_iconst (v := (nI 0)) hx hb dL_law_691 (by decide) ?_
    exact cj_L_law_692 l D kI kC kB a h_ x v3 hA C hAf hX hbl hL _ hK71 (nI 0) hw H locs hP hD hS ls (lv_sub hl [0, 1, 2] rfl)
  · replace hw := hw.1 hc
    exact cj_L_law_687 l D kI kC kB a h_ x v3 hA C hAf hX hbl hL _ hK71 hw H locs hP hD hS ls (lv_sub hl [0, 1, 2] rfl)
set_option maxHeartbeats 4000000 in
set_option maxRecDepth 100000 in
theorem cj_L_law_669 (l : Launch) (D : va_G) (kI kC kB : ClassId) (a : AdT) (h_ : Nat → AdT) (x : XS) (v3 : Int32) (v21 : Int32) (v22 : Int32) (v23 : Int32) {p : Program} {e : Env} {s : State} {m : MethodId} {below : List Frame} {meth : Method} {c : Code} {b L : Nat} {xs : Nat → Int32} {A : Nat → Prop} (hA : ∀ q : Nat, s.heap.size ≤ q → A q) (C : CtxT p s m #[Value.ref b] meth c code 28 ret "QuireSignsLaw" D kI kC kB) (hAf : ∀ q : Nat, A q → s.heap.size ≤ q) (hX : va_X b L xs s s.heap) (hbl : b < s.heap.size) (hL : L ≤ 260) (K71 : XS → Int32 → Int32 → Prop) (hK71 : ∀ (h_ : Nat → AdT) (x : XS) (v2 : Int32) (v3 : Int32), K71 x v2 v3 → ∀ (H : Heap) (locs : List Loc), va_P D vwCl (bfl [cwX kI kB a h_ x]) H → va_D A (bfl [cwX kI kB a h_ x]) → va_S A s.heap H locs → ∀ (ls : Array Slot), lv_has ls 28 [(0, .ref b), (1, .ref (a 0)), (2, .int v2), (3, .int v3)] → W p l e room_1 s m #[Value.ref b] below meth c H locs 78 1376 (lw_Z below #[Value.ref b] s) (F0 m 71 ls [])) : wj_L_law_669 x v3 v21 v22 v23 K71 → ∀ (H : Heap) (locs : List Loc), va_P D vwCl (bfl [cwX kI kB a h_ x]) H → va_D A (bfl [cwX kI kB a h_ x]) → va_S A s.heap H locs → ∀ (ls : Array Slot), lv_has ls 28 [(0, .ref b), (1, .ref (a 0)), (3, .int v3), (21, .int v21), (22, .int v22), (23, .int v23)] → W p l e room_1 s m #[Value.ref b] below meth c H locs 78 1376 (lw_Z below #[Value.ref b] s) (F0 m 669 ls []) := by
  obtain ⟨hx, hb, hr, hml, hown, hts, hlocks, hK⟩ := id C
  have hbA : ¬ A b := fun q => Nat.not_le.mpr hbl (hAf b q)
  intro hw H locs hP hD hS ls hl
  unfold wj_L_law_669 at hw
  refine lv_iload hx hb dL_law_669 (lv_at hl 5 rfl) ?_
  refine lv_iload hx hb dL_law_671 (lv_at hl 3 rfl) ?_
  refine lv_iload hx hb dL_law_673 (lv_at hl 4 rfl) ?_
  refine lv_if_eq (tgt := 682) hx hb dL_law_675 (by decide) (fun hc => ?_) (fun hc => ?_)
  · replace hw := hw.1 hc
    refine lv_iconst (v := (nI 1)) hx hb dL_law_682 (by decide) ?_
    exact cj_L_law_683 l D kI kC kB a h_ x v3 hA C hAf hX hbl hL _ hK71 v23 v21 (nI 1) hw H locs hP hD hS ls (lv_sub hl [0, 1, 2] rfl)
  · replace hw := hw.2 hc
    refine lv_iconst (v := (-1)) hx hb dL_law_678 (by decide) ?_
    refine lv_goto (tgt := 683) hx hb dL_law_679 (by decide) ?_
    exact cj_L_law_683 l D kI kC kB a h_ x v3 hA C hAf hX hbl hL _ hK71 v23 v21 (-1) hw H locs hP hD hS ls (lv_sub hl [0, 1, 2] rfl)
set_option maxHeartbeats 4000000 in
set_option maxRecDepth 100000 in
theorem cj_L_law_637 (l : Launch) (D : va_G) (kI kC kB : ClassId) (a : AdT) (h_ : Nat → AdT) (x : XS) (v3 : Int32) (v20 : Int32) (v21 : Int32) {p : Program} {e : Env} {s : State} {m : MethodId} {below : List Frame} {meth : Method} {c : Code} {b L : Nat} {xs : Nat → Int32} {A : Nat → Prop} (hA : ∀ q : Nat, s.heap.size ≤ q → A q) (C : CtxT p s m #[Value.ref b] meth c code 28 ret "QuireSignsLaw" D kI kC kB) (hAf : ∀ q : Nat, A q → s.heap.size ≤ q) (hX : va_X b L xs s s.heap) (hbl : b < s.heap.size) (hL : L ≤ 260) (K71 : XS → Int32 → Int32 → Prop) (hK71 : ∀ (h_ : Nat → AdT) (x : XS) (v2 : Int32) (v3 : Int32), K71 x v2 v3 → ∀ (H : Heap) (locs : List Loc), va_P D vwCl (bfl [cwX kI kB a h_ x]) H → va_D A (bfl [cwX kI kB a h_ x]) → va_S A s.heap H locs → ∀ (ls : Array Slot), lv_has ls 28 [(0, .ref b), (1, .ref (a 0)), (2, .int v2), (3, .int v3)] → W p l e room_1 s m #[Value.ref b] below meth c H locs 78 1376 (lw_Z below #[Value.ref b] s) (F0 m 71 ls [])) : ∀ (t0 : Int32), wj_L_law_637 x v3 v20 v21 t0 K71 → ∀ (H : Heap) (locs : List Loc), va_P D vwCl (bfl [cwX kI kB a h_ x]) H → va_D A (bfl [cwX kI kB a h_ x]) → va_S A s.heap H locs → ∀ (ls : Array Slot), lv_has ls 28 [(0, .ref b), (1, .ref (a 0)), (3, .int v3), (20, .int v20), (21, .int v21)] → W p l e room_1 s m #[Value.ref b] below meth c H locs 78 1376 (lw_Z below #[Value.ref b] s) (F0 m 637 ls [.int t0]) := by
  obtain ⟨hx, hb, hr, hml, hown, hts, hlocks, hK⟩ := id C
  have hbA : ¬ A b := fun q => Nat.not_le.mpr hbl (hAf b q)
  intro t0 hw H locs hP hD hS ls hl
  unfold wj_L_law_637 at hw
  refine lv_istore (lv' := [(22, .int t0), (0, .ref b), (1, .ref (a 0)), (3, .int v3), (20, .int v20), (21, .int v21)]) hx hb dL_law_637 hl (by decide) rfl (fun ls hl => ?_)
  refine lv_aload_n hx hb dL_law_639 rfl (lv_at hl 2 rfl) ?_
  refine lv_iload hx hb dL_law_640 (lv_at hl 4 rfl) ?_
  refine lv_iload hx hb dL_law_642 (lv_at hl 0 rfl) ?_
  refine kMBi (As := [.int v20, .int t0]) (rest := []) (q0 := 0) (ws' := fun u : (Nat → AdT) × XS => (bfl [cwX kI kB a u.1 u.2])) C (cx_leaveOut l D kI kC kB a h_ x H.size v20 t0 _ hw) ⟨rfl, rfl⟩ ce_X8_leaveOut cv_X8_leaveOut tw_183 ⟨(Nat.le_of_ble_eq_true rfl), (Nat.le_of_ble_eq_true rfl)⟩ hP hD hS hA (bfl_p1 [_] 0 rfl) (fun u => (bfl_p1 [_] 0 rfl)) rfl rfl rfl hl.1 rfl (Nat.le_of_ble_eq_true rfl) ⟨(Nat.le_of_ble_eq_true rfl), (Nat.le_of_ble_eq_true rfl)⟩ dL_law_644 (fun r30 u H locs hw hP hD hS => ?_)
  obtain ⟨h31, x32⟩ := u
  try dsimp only at hw
  replace hP : va_P D vwCl (bfl [cwX kI kB a h31 x32]) H := hP
  replace hD : va_D A (bfl [cwX kI kB a h31 x32]) := hD
  refine lv_istore (lv' := [(23, .int r30), (22, .int t0), (0, .ref b), (1, .ref (a 0)), (3, .int v3), (20, .int v20), (21, .int v21)]) hx hb dL_law_647 hl (by decide) rfl (fun ls hl => ?_)
  refine lv_iload hx hb dL_law_649 (lv_at hl 0 rfl) ?_
  refine lv_bipush (v := (-5)) hx hb dL_law_651 (by decide) ?_
  refine lv_icmp_eq (tgt := 687) hx hb dL_law_653 (by decide) (fun hc => ?_) (fun hc => ?_)
  · replace hw := hw.1 hc
    exact cj_L_law_687 l D kI kC kB a h31 x32 v3 hA C hAf hX hbl hL _ hK71 hw H locs hP hD hS ls (lv_sub hl [2, 3, 4] rfl)
  · replace hw := hw.2 hc
    refine lv_iload hx hb dL_law_656 (lv_at hl 0 rfl) ?_
    refine lv_bipush (v := (-4)) hx hb dL_law_658 (by decide) ?_
    refine lv_icmp_ne (tgt := 669) hx hb dL_law_660 (by decide) (fun hc => ?_) (fun hc => ?_)
    · replace hw := hw.2 hc
      exact cj_L_law_669 l D kI kC kB a h31 x32 v3 v21 t0 r30 hA C hAf hX hbl hL _ hK71 hw H locs hP hD hS ls (lv_sub hl [2, 3, 4, 6, 1, 0] rfl)
    · replace hw := hw.1 hc
      refine lv_iload hx hb dL_law_663 (lv_at hl 6 rfl) ?_
      refine lv_iconst (v := (nI 1)) hx hb dL_law_665 (by decide) ?_
      refine lv_icmp_eq (tgt := 687) hx hb dL_law_666 (by decide) (fun hc => ?_) (fun hc => ?_)
      · replace hw := hw.1 hc
        exact cj_L_law_687 l D kI kC kB a h31 x32 v3 hA C hAf hX hbl hL _ hK71 hw H locs hP hD hS ls (lv_sub hl [2, 3, 4] rfl)
      · replace hw := hw.2 hc
        exact cj_L_law_669 l D kI kC kB a h31 x32 v3 v21 t0 r30 hA C hAf hX hbl hL _ hK71 hw H locs hP hD hS ls (lv_sub hl [2, 3, 4, 6, 1, 0] rfl)
set_option maxHeartbeats 4000000 in
set_option maxRecDepth 100000 in
theorem cj_L_law_806 (l : Launch) (D : va_G) (kI kC kB : ClassId) (a : AdT) (h_ : Nat → AdT) (x : XS) (v3 : Int32) (v6 : Int32) (v24 : Int32) (v25 : Int32) (v26 : Int32) {p : Program} {e : Env} {s : State} {m : MethodId} {below : List Frame} {meth : Method} {c : Code} {b L : Nat} {xs : Nat → Int32} {A : Nat → Prop} (hA : ∀ q : Nat, s.heap.size ≤ q → A q) (C : CtxT p s m #[Value.ref b] meth c code 28 ret "QuireSignsLaw" D kI kC kB) (hAf : ∀ q : Nat, A q → s.heap.size ≤ q) (hX : va_X b L xs s s.heap) (hbl : b < s.heap.size) (hL : L ≤ 260) (K71 : XS → Int32 → Int32 → Prop) (hK71 : ∀ (h_ : Nat → AdT) (x : XS) (v2 : Int32) (v3 : Int32), K71 x v2 v3 → ∀ (H : Heap) (locs : List Loc), va_P D vwCl (bfl [cwX kI kB a h_ x]) H → va_D A (bfl [cwX kI kB a h_ x]) → va_S A s.heap H locs → ∀ (ls : Array Slot), lv_has ls 28 [(0, .ref b), (1, .ref (a 0)), (2, .int v2), (3, .int v3)] → W p l e room_1 s m #[Value.ref b] below meth c H locs 78 1376 (lw_Z below #[Value.ref b] s) (F0 m 71 ls [])) (K720 : XS → Int32 → Int32 → Prop) (hK720 : ∀ (h_ : Nat → AdT) (x : XS) (v2 : Int32) (v25 : Int32), K720 x v2 v25 → ∀ (H : Heap) (locs : List Loc), va_P D vwCl (bfl [cwX kI kB a h_ x]) H → va_D A (bfl [cwX kI kB a h_ x]) → va_S A s.heap H locs → ∀ (ls : Array Slot), lv_has ls 28 [(0, .ref b), (1, .ref (a 0)), (2, .int v2), (3, .int v3), (6, .int v6), (24, .int v24), (25, .int v25)] → W p l e room_1 s m #[Value.ref b] below meth c H locs 78 1376 (lw_Z below #[Value.ref b] s) (F0 m 720 ls [])) : ∀ (t0 : Int32), wj_L_law_806 x v3 v6 v24 v25 v26 t0 K71 K720 → ∀ (H : Heap) (locs : List Loc), va_P D vwCl (bfl [cwX kI kB a h_ x]) H → va_D A (bfl [cwX kI kB a h_ x]) → va_S A s.heap H locs → ∀ (ls : Array Slot), lv_has ls 28 [(0, .ref b), (1, .ref (a 0)), (3, .int v3), (6, .int v6), (24, .int v24), (25, .int v25), (26, .int v26)] → W p l e room_1 s m #[Value.ref b] below meth c H locs 78 1376 (lw_Z below #[Value.ref b] s) (F0 m 806 ls [.int t0]) := by
  obtain ⟨hx, hb, hr, hml, hown, hts, hlocks, hK⟩ := id C
  have hbA : ¬ A b := fun q => Nat.not_le.mpr hbl (hAf b q)
  intro t0 hw H locs hP hD hS ls hl
  unfold wj_L_law_806 at hw
  refine lv_istore (lv' := [(27, .int t0), (0, .ref b), (1, .ref (a 0)), (3, .int v3), (6, .int v6), (24, .int v24), (25, .int v25), (26, .int v26)]) hx hb dL_law_806 hl (by decide) rfl (fun ls hl => ?_)
  refine lv_aload_n hx hb dL_law_808 rfl (lv_at hl 2 rfl) ?_
  refine lv_bipush (v := (nI 49)) hx hb dL_law_809 (by decide) ?_
  refine lv_iload hx hb dL_law_811 (lv_at hl 7 rfl) ?_
  refine lv_bipush (v := (nI 64)) hx hb dL_law_813 (by decide) ?_
  refine lv_idiv hx hb dL_law_815 (by decide) ?_
  refine lv_bipush (v := (nI 9)) hx hb dL_law_816 (by decide) ?_
  refine lv_irem hx hb dL_law_818 (by decide) ?_
  refine lv_iadd hx hb dL_law_819 ?_
  refine lv_i2c (v := cI ((nI 49) + ((v26 / (nI 64)) - (v26 / (nI 64)) / (nI 9) * (nI 9)))) hx hb dL_law_820 rfl ?_
  refine kMBi (As := [.int (cI ((nI 49) + ((v26 / (nI 64)) - (v26 / (nI 64)) / (nI 9) * (nI 9))))]) (rest := []) (q0 := 0) (ws' := fun u : (Nat → AdT) × XS => (bfl [cwX kI kB a u.1 u.2])) C (cx_type l D kI kC kB a h_ x H.size (cI ((nI 49) + ((v26 / (nI 64)) - (v26 / (nI 64)) / (nI 9) * (nI 9)))) _ hw) ⟨rfl, rfl⟩ ce_X8_type cv_X8_type tw_451 ⟨(Nat.le_of_ble_eq_true rfl), (Nat.le_of_ble_eq_true rfl)⟩ hP hD hS hA (bfl_p1 [_] 0 rfl) (fun u => (bfl_p1 [_] 0 rfl)) rfl rfl rfl hl.1 rfl (Nat.le_of_ble_eq_true rfl) ⟨(Nat.le_of_ble_eq_true rfl), (Nat.le_of_ble_eq_true rfl)⟩ dL_law_821 (fun r33 u H locs hw hP hD hS => ?_)
  obtain ⟨h34, x35⟩ := u
  try dsimp only at hw
  replace hP : va_P D vwCl (bfl [cwX kI kB a h34 x35]) H := hP
  replace hD : va_D A (bfl [cwX kI kB a h34 x35]) := hD
  refine lv_istore (lv' := [(27, .int r33), (0, .ref b), (1, .ref (a 0)), (3, .int v3), (6, .int v6), (24, .int v24), (25, .int v25), (26, .int v26)]) hx hb dL_law_824 hl (by decide) rfl (fun ls hl => ?_)
  refine lv_iload hx hb dL_law_826 (lv_at hl 0 rfl) ?_
  refine lv_if_le (tgt := 835) hx hb dL_law_828 (by decide) (fun hc => ?_) (fun hc => ?_)
  · replace hw := hw.1 hc
    refine lv_iconst (v := (nI 0)) hx hb dL_law_835 (by decide) ?_
    refine lv_istore_n (lv' := [(2, .int (nI 0)), (27, .int r33), (0, .ref b), (1, .ref (a 0)), (3, .int v3), (6, .int v6), (24, .int v24), (25, .int v25), (26, .int v26)]) hx hb dL_law_836 rfl hl (by decide) rfl (fun ls hl => ?_)
    refine lv_iinc (v := (v25 + nI 1)) (lv' := [(25, .int (v25 + nI 1)), (2, .int (nI 0)), (27, .int r33), (0, .ref b), (1, .ref (a 0)), (3, .int v3), (6, .int v6), (24, .int v24), (26, .int v26)]) hx hb dL_law_837 hl (k := 7) rfl rfl (by decide) rfl (fun ls hl => ?_)
    refine lv_goto (tgt := 720) hx hb dL_law_840 (by decide) ?_
    exact hK720 h34 x35 (nI 0) (v25 + nI 1) hw H locs hP hD hS ls (lv_sub hl [3, 4, 1, 5, 6, 7, 0] rfl)
  · replace hw := hw.2 hc
    refine lv_iconst (v := (nI 1)) hx hb dL_law_831 (by decide) ?_
    refine lv_goto (tgt := 836) hx hb dL_law_832 (by decide) ?_
    refine lv_istore_n (lv' := [(2, .int (nI 1)), (27, .int r33), (0, .ref b), (1, .ref (a 0)), (3, .int v3), (6, .int v6), (24, .int v24), (25, .int v25), (26, .int v26)]) hx hb dL_law_836 rfl hl (by decide) rfl (fun ls hl => ?_)
    refine lv_iinc (v := (v25 + nI 1)) (lv' := [(25, .int (v25 + nI 1)), (2, .int (nI 1)), (27, .int r33), (0, .ref b), (1, .ref (a 0)), (3, .int v3), (6, .int v6), (24, .int v24), (26, .int v26)]) hx hb dL_law_837 hl (k := 7) rfl rfl (by decide) rfl (fun ls hl => ?_)
    refine lv_goto (tgt := 720) hx hb dL_law_840 (by decide) ?_
    exact hK720 h34 x35 (nI 1) (v25 + nI 1) hw H locs hP hD hS ls (lv_sub hl [3, 4, 1, 5, 6, 7, 0] rfl)
set_option maxHeartbeats 4000000 in
set_option maxRecDepth 100000 in
theorem cj_L_law_761 (l : Launch) (D : va_G) (kI kC kB : ClassId) (a : AdT) (h_ : Nat → AdT) (x : XS) (v3 : Int32) (v6 : Int32) (v24 : Int32) (v25 : Int32) (v26 : Int32) {p : Program} {e : Env} {s : State} {m : MethodId} {below : List Frame} {meth : Method} {c : Code} {b L : Nat} {xs : Nat → Int32} {A : Nat → Prop} (hA : ∀ q : Nat, s.heap.size ≤ q → A q) (C : CtxT p s m #[Value.ref b] meth c code 28 ret "QuireSignsLaw" D kI kC kB) (hAf : ∀ q : Nat, A q → s.heap.size ≤ q) (hX : va_X b L xs s s.heap) (hbl : b < s.heap.size) (hL : L ≤ 260) (K71 : XS → Int32 → Int32 → Prop) (hK71 : ∀ (h_ : Nat → AdT) (x : XS) (v2 : Int32) (v3 : Int32), K71 x v2 v3 → ∀ (H : Heap) (locs : List Loc), va_P D vwCl (bfl [cwX kI kB a h_ x]) H → va_D A (bfl [cwX kI kB a h_ x]) → va_S A s.heap H locs → ∀ (ls : Array Slot), lv_has ls 28 [(0, .ref b), (1, .ref (a 0)), (2, .int v2), (3, .int v3)] → W p l e room_1 s m #[Value.ref b] below meth c H locs 78 1376 (lw_Z below #[Value.ref b] s) (F0 m 71 ls [])) (K720 : XS → Int32 → Int32 → Prop) (hK720 : ∀ (h_ : Nat → AdT) (x : XS) (v2 : Int32) (v25 : Int32), K720 x v2 v25 → ∀ (H : Heap) (locs : List Loc), va_P D vwCl (bfl [cwX kI kB a h_ x]) H → va_D A (bfl [cwX kI kB a h_ x]) → va_S A s.heap H locs → ∀ (ls : Array Slot), lv_has ls 28 [(0, .ref b), (1, .ref (a 0)), (2, .int v2), (3, .int v3), (6, .int v6), (24, .int v24), (25, .int v25)] → W p l e room_1 s m #[Value.ref b] below meth c H locs 78 1376 (lw_Z below #[Value.ref b] s) (F0 m 720 ls [])) : ∀ (t0 : Int32), wj_L_law_761 x v3 v6 v24 v25 v26 t0 K71 K720 → ∀ (H : Heap) (locs : List Loc), va_P D vwCl (bfl [cwX kI kB a h_ x]) H → va_D A (bfl [cwX kI kB a h_ x]) → va_S A s.heap H locs → ∀ (ls : Array Slot), lv_has ls 28 [(0, .ref b), (1, .ref (a 0)), (3, .int v3), (6, .int v6), (24, .int v24), (25, .int v25), (26, .int v26)] → W p l e room_1 s m #[Value.ref b] below meth c H locs 78 1376 (lw_Z below #[Value.ref b] s) (F0 m 761 ls [.int t0]) := by
  obtain ⟨hx, hb, hr, hml, hown, hts, hlocks, hK⟩ := id C
  have hbA : ¬ A b := fun q => Nat.not_le.mpr hbl (hAf b q)
  intro t0 hw H locs hP hD hS ls hl
  unfold wj_L_law_761 at hw
  refine lv_istore (lv' := [(27, .int t0), (0, .ref b), (1, .ref (a 0)), (3, .int v3), (6, .int v6), (24, .int v24), (25, .int v25), (26, .int v26)]) hx hb dL_law_761 hl (by decide) rfl (fun ls hl => ?_)
  refine lv_aload_n hx hb dL_law_763 rfl (lv_at hl 2 rfl) ?_
  refine lv_bipush (v := (nI 65)) hx hb dL_law_764 (by decide) ?_
  refine lv_iload hx hb dL_law_766 (lv_at hl 7 rfl) ?_
  refine lv_bipush (v := (nI 9)) hx hb dL_law_768 (by decide) ?_
  refine lv_irem hx hb dL_law_770 (by decide) ?_
  refine lv_iadd hx hb dL_law_771 ?_
  refine lv_i2c (v := cI ((nI 65) + (v26 - v26 / (nI 9) * (nI 9)))) hx hb dL_law_772 rfl ?_
  refine kMBi (As := [.int (cI ((nI 65) + (v26 - v26 / (nI 9) * (nI 9))))]) (rest := []) (q0 := 0) (ws' := fun u : (Nat → AdT) × XS => (bfl [cwX kI kB a u.1 u.2])) C (cx_type l D kI kC kB a h_ x H.size (cI ((nI 65) + (v26 - v26 / (nI 9) * (nI 9)))) _ hw) ⟨rfl, rfl⟩ ce_X8_type cv_X8_type tw_451 ⟨(Nat.le_of_ble_eq_true rfl), (Nat.le_of_ble_eq_true rfl)⟩ hP hD hS hA (bfl_p1 [_] 0 rfl) (fun u => (bfl_p1 [_] 0 rfl)) rfl rfl rfl hl.1 rfl (Nat.le_of_ble_eq_true rfl) ⟨(Nat.le_of_ble_eq_true rfl), (Nat.le_of_ble_eq_true rfl)⟩ dL_law_773 (fun r36 u H locs hw hP hD hS => ?_)
  obtain ⟨h37, x38⟩ := u
  try dsimp only at hw
  replace hP : va_P D vwCl (bfl [cwX kI kB a h37 x38]) H := hP
  replace hD : va_D A (bfl [cwX kI kB a h37 x38]) := hD
  refine lv_istore (lv' := [(27, .int r36), (0, .ref b), (1, .ref (a 0)), (3, .int v3), (6, .int v6), (24, .int v24), (25, .int v25), (26, .int v26)]) hx hb dL_law_776 hl (by decide) rfl (fun ls hl => ?_)
  refine lv_iload hx hb dL_law_778 (lv_at hl 7 rfl) ?_
  refine lv_bipush (v := (nI 16)) hx hb dL_law_780 (by decide) ?_
  refine lv_idiv hx hb dL_law_782 (by decide) ?_
  refine lv_iconst (v := (nI 3)) hx hb dL_law_783 (by decide) ?_
  refine lv_irem hx hb dL_law_784 (by decide) ?_
  refine lv_if_ne (tgt := 804) hx hb dL_law_785 (by decide) (fun hc => ?_) (fun hc => ?_)
  · replace hw := hw.2 hc
    refine lv_iload hx hb dL_law_804 (lv_at hl 0 rfl) ?_
    exact cj_L_law_806 l D kI kC kB a h37 x38 v3 v6 v24 v25 v26 hA C hAf hX hbl hL _ hK71 _ hK720 r36 hw H locs hP hD hS ls (lv_sub hl [1, 2, 3, 4, 5, 6, 7] rfl)
  · replace hw := hw.1 hc
    refine lv_aload_n hx hb dL_law_788 rfl (lv_at hl 2 rfl) ?_
    refine lv_bipush (v := (nI 97)) hx hb dL_law_789 (by decide) ?_
    refine lv_iload hx hb dL_law_791 (lv_at hl 7 rfl) ?_
    refine lv_bipush (v := (nI 9)) hx hb dL_law_793 (by decide) ?_
    refine lv_irem hx hb dL_law_795 (by decide) ?_
    refine lv_iadd hx hb dL_law_796 ?_
    refine lv_i2c (v := cI ((nI 97) + (v26 - v26 / (nI 9) * (nI 9)))) hx hb dL_law_797 rfl ?_
    refine kMBi (As := [.int (cI ((nI 97) + (v26 - v26 / (nI 9) * (nI 9))))]) (rest := []) (q0 := 0) (ws' := fun u : (Nat → AdT) × XS => (bfl [cwX kI kB a u.1 u.2])) C (cx_type l D kI kC kB a h37 x38 H.size (cI ((nI 97) + (v26 - v26 / (nI 9) * (nI 9)))) _ hw) ⟨rfl, rfl⟩ ce_X8_type cv_X8_type tw_451 ⟨(Nat.le_of_ble_eq_true rfl), (Nat.le_of_ble_eq_true rfl)⟩ hP hD hS hA (bfl_p1 [_] 0 rfl) (fun u => (bfl_p1 [_] 0 rfl)) rfl rfl rfl hl.1 rfl (Nat.le_of_ble_eq_true rfl) ⟨(Nat.le_of_ble_eq_true rfl), (Nat.le_of_ble_eq_true rfl)⟩ dL_law_798 (fun r39 u H locs hw hP hD hS => ?_)
    obtain ⟨h40, x41⟩ := u
    try dsimp only at hw
    replace hP : va_P D vwCl (bfl [cwX kI kB a h40 x41]) H := hP
    replace hD : va_D A (bfl [cwX kI kB a h40 x41]) := hD
    refine lv_goto (tgt := 806) hx hb dL_law_801 (by decide) ?_
    exact cj_L_law_806 l D kI kC kB a h40 x41 v3 v6 v24 v25 v26 hA C hAf hX hbl hL _ hK71 _ hK720 r39 hw H locs hP hD hS ls (lv_sub hl [1, 2, 3, 4, 5, 6, 7] rfl)
set_option maxHeartbeats 4000000 in
set_option maxRecDepth 100000 in
theorem cj_L_law_882 (l : Launch) (D : va_G) (kI kC kB : ClassId) (a : AdT) (h_ : Nat → AdT) (x : XS) (v3 : Int32) {p : Program} {e : Env} {s : State} {m : MethodId} {below : List Frame} {meth : Method} {c : Code} {b L : Nat} {xs : Nat → Int32} {A : Nat → Prop} (hA : ∀ q : Nat, s.heap.size ≤ q → A q) (C : CtxT p s m #[Value.ref b] meth c code 28 ret "QuireSignsLaw" D kI kC kB) (hAf : ∀ q : Nat, A q → s.heap.size ≤ q) (hX : va_X b L xs s s.heap) (hbl : b < s.heap.size) (hL : L ≤ 260) (K71 : XS → Int32 → Int32 → Prop) (hK71 : ∀ (h_ : Nat → AdT) (x : XS) (v2 : Int32) (v3 : Int32), K71 x v2 v3 → ∀ (H : Heap) (locs : List Loc), va_P D vwCl (bfl [cwX kI kB a h_ x]) H → va_D A (bfl [cwX kI kB a h_ x]) → va_S A s.heap H locs → ∀ (ls : Array Slot), lv_has ls 28 [(0, .ref b), (1, .ref (a 0)), (2, .int v2), (3, .int v3)] → W p l e room_1 s m #[Value.ref b] below meth c H locs 78 1376 (lw_Z below #[Value.ref b] s) (F0 m 71 ls [])) : ∀ (t0 : Int32), wj_L_law_882 x v3 t0 K71 → ∀ (H : Heap) (locs : List Loc), va_P D vwCl (bfl [cwX kI kB a h_ x]) H → va_D A (bfl [cwX kI kB a h_ x]) → va_S A s.heap H locs → ∀ (ls : Array Slot), lv_has ls 28 [(0, .ref b), (1, .ref (a 0)), (3, .int v3)] → W p l e room_1 s m #[Value.ref b] below meth c H locs 78 1376 (lw_Z below #[Value.ref b] s) (F0 m 882 ls [.int t0]) := by
  obtain ⟨hx, hb, hr, hml, hown, hts, hlocks, hK⟩ := id C
  have hbA : ¬ A b := fun q => Nat.not_le.mpr hbl (hAf b q)
  intro t0 hw H locs hP hD hS ls hl
  unfold wj_L_law_882 at hw
  refine lv_istore_n (lv' := [(2, .int t0), (0, .ref b), (1, .ref (a 0)), (3, .int v3)]) hx hb dL_law_882 rfl hl (by decide) rfl (fun ls hl => ?_)
  exact cj_L_law_883 l D kI kC kB a h_ x t0 v3 hA C hAf hX hbl hL _ hK71 hw H locs hP hD hS ls (lv_sub hl [1, 2, 0, 3] rfl)
set_option maxHeartbeats 4000000 in
set_option maxRecDepth 100000 in
theorem cj_L_law_877 (l : Launch) (D : va_G) (kI kC kB : ClassId) (a : AdT) (h_ : Nat → AdT) (x : XS) (v3 : Int32) {p : Program} {e : Env} {s : State} {m : MethodId} {below : List Frame} {meth : Method} {c : Code} {b L : Nat} {xs : Nat → Int32} {A : Nat → Prop} (hA : ∀ q : Nat, s.heap.size ≤ q → A q) (C : CtxT p s m #[Value.ref b] meth c code 28 ret "QuireSignsLaw" D kI kC kB) (hAf : ∀ q : Nat, A q → s.heap.size ≤ q) (hX : va_X b L xs s s.heap) (hbl : b < s.heap.size) (hL : L ≤ 260) (K71 : XS → Int32 → Int32 → Prop) (hK71 : ∀ (h_ : Nat → AdT) (x : XS) (v2 : Int32) (v3 : Int32), K71 x v2 v3 → ∀ (H : Heap) (locs : List Loc), va_P D vwCl (bfl [cwX kI kB a h_ x]) H → va_D A (bfl [cwX kI kB a h_ x]) → va_S A s.heap H locs → ∀ (ls : Array Slot), lv_has ls 28 [(0, .ref b), (1, .ref (a 0)), (2, .int v2), (3, .int v3)] → W p l e room_1 s m #[Value.ref b] below meth c H locs 78 1376 (lw_Z below #[Value.ref b] s) (F0 m 71 ls [])) : wj_L_law_877 x v3 K71 → ∀ (H : Heap) (locs : List Loc), va_P D vwCl (bfl [cwX kI kB a h_ x]) H → va_D A (bfl [cwX kI kB a h_ x]) → va_S A s.heap H locs → ∀ (ls : Array Slot), lv_has ls 28 [(0, .ref b), (1, .ref (a 0)), (3, .int v3)] → W p l e room_1 s m #[Value.ref b] below meth c H locs 78 1376 (lw_Z below #[Value.ref b] s) (F0 m 877 ls []) := by
  obtain ⟨hx, hb, hr, hml, hown, hts, hlocks, hK⟩ := id C
  have hbA : ¬ A b := fun q => Nat.not_le.mpr hbl (hAf b q)
  intro hw H locs hP hD hS ls hl
  unfold wj_L_law_877 at hw
  refine lv_iconst (v := (nI 1)) hx hb dL_law_877 (by decide) ?_
  refine lv_goto (tgt := 882) hx hb dL_law_878 (by decide) ?_
  exact cj_L_law_882 l D kI kC kB a h_ x v3 hA C hAf hX hbl hL _ hK71 (nI 1) hw H locs hP hD hS ls (lv_sub hl [0, 1, 2] rfl)
set_option maxHeartbeats 4000000 in
set_option maxRecDepth 100000 in
theorem cj_L_law_881 (l : Launch) (D : va_G) (kI kC kB : ClassId) (a : AdT) (h_ : Nat → AdT) (x : XS) (v3 : Int32) {p : Program} {e : Env} {s : State} {m : MethodId} {below : List Frame} {meth : Method} {c : Code} {b L : Nat} {xs : Nat → Int32} {A : Nat → Prop} (hA : ∀ q : Nat, s.heap.size ≤ q → A q) (C : CtxT p s m #[Value.ref b] meth c code 28 ret "QuireSignsLaw" D kI kC kB) (hAf : ∀ q : Nat, A q → s.heap.size ≤ q) (hX : va_X b L xs s s.heap) (hbl : b < s.heap.size) (hL : L ≤ 260) (K71 : XS → Int32 → Int32 → Prop) (hK71 : ∀ (h_ : Nat → AdT) (x : XS) (v2 : Int32) (v3 : Int32), K71 x v2 v3 → ∀ (H : Heap) (locs : List Loc), va_P D vwCl (bfl [cwX kI kB a h_ x]) H → va_D A (bfl [cwX kI kB a h_ x]) → va_S A s.heap H locs → ∀ (ls : Array Slot), lv_has ls 28 [(0, .ref b), (1, .ref (a 0)), (2, .int v2), (3, .int v3)] → W p l e room_1 s m #[Value.ref b] below meth c H locs 78 1376 (lw_Z below #[Value.ref b] s) (F0 m 71 ls [])) : wj_L_law_881 x v3 K71 → ∀ (H : Heap) (locs : List Loc), va_P D vwCl (bfl [cwX kI kB a h_ x]) H → va_D A (bfl [cwX kI kB a h_ x]) → va_S A s.heap H locs → ∀ (ls : Array Slot), lv_has ls 28 [(0, .ref b), (1, .ref (a 0)), (3, .int v3)] → W p l e room_1 s m #[Value.ref b] below meth c H locs 78 1376 (lw_Z below #[Value.ref b] s) (F0 m 881 ls []) := by
  obtain ⟨hx, hb, hr, hml, hown, hts, hlocks, hK⟩ := id C
  have hbA : ¬ A b := fun q => Nat.not_le.mpr hbl (hAf b q)
  intro hw H locs hP hD hS ls hl
  unfold wj_L_law_881 at hw
  refine lv_iconst (v := (nI 0)) hx hb dL_law_881 (by decide) ?_
  exact cj_L_law_882 l D kI kC kB a h_ x v3 hA C hAf hX hbl hL _ hK71 (nI 0) hw H locs hP hD hS ls (lv_sub hl [0, 1, 2] rfl)
set_option maxHeartbeats 4000000 in
set_option maxRecDepth 100000 in
theorem cj_L_law_843 (l : Launch) (D : va_G) (kI kC kB : ClassId) (a : AdT) (h_ : Nat → AdT) (x : XS) (v2 : Int32) (v3 : Int32) (v6 : Int32) (v24 : Int32) {p : Program} {e : Env} {s : State} {m : MethodId} {below : List Frame} {meth : Method} {c : Code} {b L : Nat} {xs : Nat → Int32} {A : Nat → Prop} (hA : ∀ q : Nat, s.heap.size ≤ q → A q) (C : CtxT p s m #[Value.ref b] meth c code 28 ret "QuireSignsLaw" D kI kC kB) (hAf : ∀ q : Nat, A q → s.heap.size ≤ q) (hX : va_X b L xs s s.heap) (hbl : b < s.heap.size) (hL : L ≤ 260) (K71 : XS → Int32 → Int32 → Prop) (hK71 : ∀ (h_ : Nat → AdT) (x : XS) (v2 : Int32) (v3 : Int32), K71 x v2 v3 → ∀ (H : Heap) (locs : List Loc), va_P D vwCl (bfl [cwX kI kB a h_ x]) H → va_D A (bfl [cwX kI kB a h_ x]) → va_S A s.heap H locs → ∀ (ls : Array Slot), lv_has ls 28 [(0, .ref b), (1, .ref (a 0)), (2, .int v2), (3, .int v3)] → W p l e room_1 s m #[Value.ref b] below meth c H locs 78 1376 (lw_Z below #[Value.ref b] s) (F0 m 71 ls [])) : wj_L_law_843 x v2 v3 v6 v24 K71 → ∀ (H : Heap) (locs : List Loc), va_P D vwCl (bfl [cwX kI kB a h_ x]) H → va_D A (bfl [cwX kI kB a h_ x]) → va_S A s.heap H locs → ∀ (ls : Array Slot), lv_has ls 28 [(0, .ref b), (1, .ref (a 0)), (2, .int v2), (3, .int v3), (6, .int v6), (24, .int v24)] → W p l e room_1 s m #[Value.ref b] below meth c H locs 78 1376 (lw_Z below #[Value.ref b] s) (F0 m 843 ls []) := by
  obtain ⟨hx, hb, hr, hml, hown, hts, hlocks, hK⟩ := id C
  have hbA : ¬ A b := fun q => Nat.not_le.mpr hbl (hAf b q)
  intro hw H locs hP hD hS ls hl
  unfold wj_L_law_843 at hw
  refine lv_aload_n hx hb dL_law_843 rfl (lv_at hl 1 rfl) ?_
  refine kMBi (As := []) (rest := []) (q0 := 0) (ws' := fun u : (Nat → AdT) × XS => (bfl [cwX kI kB a u.1 u.2])) C (cx_readFormula l D kI kC kB a h_ x H.size  _ hw) ⟨rfl, rfl⟩ ce_X8_readFormula cv_X8_readFormula tw_262 ⟨(Nat.le_of_ble_eq_true rfl), (Nat.le_of_ble_eq_true rfl)⟩ hP hD hS hA (bfl_p1 [_] 0 rfl) (fun u => (bfl_p1 [_] 0 rfl)) rfl rfl rfl hl.1 rfl (Nat.le_of_ble_eq_true rfl) ⟨(Nat.le_of_ble_eq_true rfl), (Nat.le_of_ble_eq_true rfl)⟩ dL_law_844 (fun r42 u H locs hw hP hD hS => ?_)
  obtain ⟨h43, x44⟩ := u
  try dsimp only at hw
  replace hP : va_P D vwCl (bfl [cwX kI kB a h43 x44]) H := hP
  replace hD : va_D A (bfl [cwX kI kB a h43 x44]) := hD
  refine lv_istore (lv' := [(25, .int r42), (0, .ref b), (1, .ref (a 0)), (2, .int v2), (3, .int v3), (6, .int v6), (24, .int v24)]) hx hb dL_law_847 hl (by decide) rfl (fun ls hl => ?_)
  refine lv_iload_n hx hb dL_law_849 rfl (lv_at hl 3 rfl) ?_
  refine lv_if_eq (tgt := 881) hx hb dL_law_850 (by decide) (fun hc => ?_) (fun hc => ?_)
  · replace hw := hw.1 hc
    exact cj_L_law_881 l D kI kC kB a h43 x44 v3 hA C hAf hX hbl hL _ hK71 hw H locs hP hD hS ls (lv_sub hl [1, 2, 4] rfl)
  · replace hw := hw.2 hc
    refine lv_iload hx hb dL_law_853 (lv_at hl 0 rfl) ?_
    refine lv_bipush (v := (-100)) hx hb dL_law_855 (by decide) ?_
    refine lv_icmp_le (tgt := 877) hx hb dL_law_857 (by decide) (fun hc => ?_) (fun hc => ?_)
    · replace hw := hw.1 hc
      exact cj_L_law_877 l D kI kC kB a h43 x44 v3 hA C hAf hX hbl hL _ hK71 hw H locs hP hD hS ls (lv_sub hl [1, 2, 4] rfl)
    · replace hw := hw.2 hc
      refine lv_iload hx hb dL_law_860 (lv_at hl 0 rfl) ?_
      refine lv_bipush (v := (-3)) hx hb dL_law_862 (by decide) ?_
      refine lv_icmp_eq (tgt := 877) hx hb dL_law_864 (by decide) (fun hc => ?_) (fun hc => ?_)
      · replace hw := hw.1 hc
        exact cj_L_law_877 l D kI kC kB a h43 x44 v3 hA C hAf hX hbl hL _ hK71 hw H locs hP hD hS ls (lv_sub hl [1, 2, 4] rfl)
      · replace hw := hw.2 hc
        refine lv_iload hx hb dL_law_867 (lv_at hl 0 rfl) ?_
        refine lv_iload hx hb dL_law_869 (lv_at hl 5 rfl) ?_
        refine lv_iload hx hb dL_law_871 (lv_at hl 6 rfl) ?_
        refine lv_iadd hx hb dL_law_873 ?_
        refine lv_icmp_ne (tgt := 881) hx hb dL_law_874 (by decide) (fun hc => ?_) (fun hc => ?_)
        · replace hw := hw.2 hc
          exact cj_L_law_881 l D kI kC kB a h43 x44 v3 hA C hAf hX hbl hL _ hK71 hw H locs hP hD hS ls (lv_sub hl [1, 2, 4] rfl)
        · replace hw := hw.1 hc
          exact cj_L_law_877 l D kI kC kB a h43 x44 v3 hA C hAf hX hbl hL _ hK71 hw H locs hP hD hS ls (lv_sub hl [1, 2, 4] rfl)
set_option maxHeartbeats 4000000 in
set_option maxRecDepth 100000 in
theorem cl_L_law_720 (l : Launch) (D : va_G) (kI kC kB : ClassId) (a : AdT) (v3 : Int32) (v6 : Int32) (v24 : Int32) {p : Program} {e : Env} {s : State} {m : MethodId} {below : List Frame} {meth : Method} {c : Code} {b L : Nat} {xs : Nat → Int32} {A : Nat → Prop} (hA : ∀ q : Nat, s.heap.size ≤ q → A q) (C : CtxT p s m #[Value.ref b] meth c code 28 ret "QuireSignsLaw" D kI kC kB) (hAf : ∀ q : Nat, A q → s.heap.size ≤ q) (hX : va_X b L xs s s.heap) (hbl : b < s.heap.size) (hL : L ≤ 260) (K71 : XS → Int32 → Int32 → Prop) (hK71 : ∀ (h_ : Nat → AdT) (x : XS) (v2 : Int32) (v3 : Int32), K71 x v2 v3 → ∀ (H : Heap) (locs : List Loc), va_P D vwCl (bfl [cwX kI kB a h_ x]) H → va_D A (bfl [cwX kI kB a h_ x]) → va_S A s.heap H locs → ∀ (ls : Array Slot), lv_has ls 28 [(0, .ref b), (1, .ref (a 0)), (2, .int v2), (3, .int v3)] → W p l e room_1 s m #[Value.ref b] below meth c H locs 78 1376 (lw_Z below #[Value.ref b] s) (F0 m 71 ls [])) : ∀ (n : Nat), ∀ (h_ : Nat → AdT) (x : XS) (v2 : Int32) (v25 : Int32), wl_L_law_720 v3 v6 v24 K71 n x v2 v25 → ∀ (H : Heap) (locs : List Loc), va_P D vwCl (bfl [cwX kI kB a h_ x]) H → va_D A (bfl [cwX kI kB a h_ x]) → va_S A s.heap H locs → ∀ (ls : Array Slot), lv_has ls 28 [(0, .ref b), (1, .ref (a 0)), (2, .int v2), (3, .int v3), (6, .int v6), (24, .int v24), (25, .int v25)] → W p l e room_1 s m #[Value.ref b] below meth c H locs 78 1376 (lw_Z below #[Value.ref b] s) (F0 m 720 ls []) := by
  obtain ⟨hx, hb, hr, hml, hown, hts, hlocks, hK⟩ := id C
  have hbA : ¬ A b := fun q => Nat.not_le.mpr hbl (hAf b q)
  intro n
  induction n with
  | zero => intro h_ x v2 v25 hw; exact hw.elim
  | succ n ih =>
    intro h_ x v2 v25 hw H locs hP hD hS ls hl
    unfold wl_L_law_720 at hw
    refine lv_iload hx hb dL_law_720 (lv_at hl 6 rfl) ?_
    refine lv_iload hx hb dL_law_722 (lv_at hl 5 rfl) ?_
    refine lv_icmp_ge (tgt := 843) hx hb dL_law_724 (by decide) (fun hc => ?_) (fun hc => ?_)
    · replace hw := hw.1 hc
      exact cj_L_law_843 l D kI kC kB a h_ x v2 v3 v6 v24 hA C hAf hX hbl hL _ hK71 hw H locs hP hD hS ls (lv_sub hl [0, 1, 2, 3, 4, 5] rfl)
    · replace hw := hw.2 hc
      refine lv_iload_n hx hb dL_law_727 rfl (lv_at hl 2 rfl) ?_
      refine lv_if_eq (tgt := 843) hx hb dL_law_728 (by decide) (fun hc => ?_) (fun hc => ?_)
      · replace hw := hw.1 hc
        exact cj_L_law_843 l D kI kC kB a h_ x v2 v3 v6 v24 hA C hAf hX hbl hL _ hK71 hw H locs hP hD hS ls (lv_sub hl [0, 1, 2, 3, 4, 5] rfl)
      · replace hw := hw.2 hc
        refine lv_aload_n hx hb dL_law_731 rfl (lv_at hl 0 rfl) ?_
        refine lv_bipush (v := (nI 30)) hx hb dL_law_732 (by decide) ?_
        refine lv_iconst (v := (nI 3)) hx hb dL_law_734 (by decide) ?_
        refine lv_iload_n hx hb dL_law_735 rfl (lv_at hl 3 rfl) ?_
        refine lv_imul hx hb dL_law_736 ?_
        refine lv_iadd hx hb dL_law_737 ?_
        refine lv_iload hx hb dL_law_738 (lv_at hl 6 rfl) ?_
        refine lv_iadd hx hb dL_law_740 ?_
        have hk := hw.1
        replace hw := hw.2
        refine k_cell (k := (((nI 30) + ((nI 3) * v3)) + v25)) C hX hbl hbA hS hL hk (R := room_1) ce_L_cell cv_L_cell tw_612 ⟨(Nat.le_of_ble_eq_true rfl), (Nat.le_of_ble_eq_true rfl)⟩ hl.1 (rest := []) (Nat.le_of_ble_eq_true rfl) ⟨(Nat.le_of_ble_eq_true rfl), (Nat.le_of_ble_eq_true rfl)⟩ dL_law_741 (fun c45 hc45 => ?_)
        replace hw := hw c45 hc45
        refine lv_istore (lv' := [(26, .int (nI c45)), (0, .ref b), (1, .ref (a 0)), (2, .int v2), (3, .int v3), (6, .int v6), (24, .int v24), (25, .int v25)]) hx hb dL_law_744 hl (by decide) rfl (fun ls hl => ?_)
        refine lv_iload hx hb dL_law_746 (lv_at hl 7 rfl) ?_
        refine lv_if_le (tgt := 760) hx hb dL_law_748 (by decide) (fun hc => ?_) (fun hc => ?_)
        · replace hw := hw.1 hc
          refine lv_iconst (v := (nI 0)) hx hb dL_law_760 (by decide) ?_
          exact cj_L_law_761 l D kI kC kB a h_ x v3 v6 v24 v25 (nI c45) hA C hAf hX hbl hL _ hK71 _ ih (nI 0) hw H locs hP hD hS ls (lv_sub hl [1, 2, 4, 5, 6, 7, 0] rfl)
        · replace hw := hw.2 hc
          refine lv_aload_n hx hb dL_law_751 rfl (lv_at hl 2 rfl) ?_
          refine lv_bipush (v := (nI 44)) hx hb dL_law_752 (by decide) ?_
          refine kMBi (As := [.int (nI 44)]) (rest := []) (q0 := 0) (ws' := fun u : (Nat → AdT) × XS => (bfl [cwX kI kB a u.1 u.2])) C (cx_type l D kI kC kB a h_ x H.size (nI 44) _ hw) ⟨rfl, rfl⟩ ce_X8_type cv_X8_type tw_451 ⟨(Nat.le_of_ble_eq_true rfl), (Nat.le_of_ble_eq_true rfl)⟩ hP hD hS hA (bfl_p1 [_] 0 rfl) (fun u => (bfl_p1 [_] 0 rfl)) rfl rfl rfl hl.1 rfl (Nat.le_of_ble_eq_true rfl) ⟨(Nat.le_of_ble_eq_true rfl), (Nat.le_of_ble_eq_true rfl)⟩ dL_law_754 (fun r46 u H locs hw hP hD hS => ?_)
          obtain ⟨h47, x48⟩ := u
          try dsimp only at hw
          replace hP : va_P D vwCl (bfl [cwX kI kB a h47 x48]) H := hP
          replace hD : va_D A (bfl [cwX kI kB a h47 x48]) := hD
          refine lv_goto (tgt := 761) hx hb dL_law_757 (by decide) ?_
          exact cj_L_law_761 l D kI kC kB a h47 x48 v3 v6 v24 v25 (nI c45) hA C hAf hX hbl hL _ hK71 _ ih r46 hw H locs hP hD hS ls (lv_sub hl [1, 2, 4, 5, 6, 7, 0] rfl)
set_option maxHeartbeats 4000000 in
set_option maxRecDepth 100000 in
theorem cj_L_law_708 (l : Launch) (D : va_G) (kI kC kB : ClassId) (a : AdT) (h_ : Nat → AdT) (x : XS) (v3 : Int32) (v5 : Int32) (v6 : Int32) {p : Program} {e : Env} {s : State} {m : MethodId} {below : List Frame} {meth : Method} {c : Code} {b L : Nat} {xs : Nat → Int32} {A : Nat → Prop} (hA : ∀ q : Nat, s.heap.size ≤ q → A q) (C : CtxT p s m #[Value.ref b] meth c code 28 ret "QuireSignsLaw" D kI kC kB) (hAf : ∀ q : Nat, A q → s.heap.size ≤ q) (hX : va_X b L xs s s.heap) (hbl : b < s.heap.size) (hL : L ≤ 260) (K71 : XS → Int32 → Int32 → Prop) (hK71 : ∀ (h_ : Nat → AdT) (x : XS) (v2 : Int32) (v3 : Int32), K71 x v2 v3 → ∀ (H : Heap) (locs : List Loc), va_P D vwCl (bfl [cwX kI kB a h_ x]) H → va_D A (bfl [cwX kI kB a h_ x]) → va_S A s.heap H locs → ∀ (ls : Array Slot), lv_has ls 28 [(0, .ref b), (1, .ref (a 0)), (2, .int v2), (3, .int v3)] → W p l e room_1 s m #[Value.ref b] below meth c H locs 78 1376 (lw_Z below #[Value.ref b] s) (F0 m 71 ls [])) : ∀ (t0 : Int32), wj_L_law_708 x v3 v5 v6 t0 K71 → ∀ (H : Heap) (locs : List Loc), va_P D vwCl (bfl [cwX kI kB a h_ x]) H → va_D A (bfl [cwX kI kB a h_ x]) → va_S A s.heap H locs → ∀ (ls : Array Slot), lv_has ls 28 [(0, .ref b), (1, .ref (a 0)), (3, .int v3), (5, .int v5), (6, .int v6)] → W p l e room_1 s m #[Value.ref b] below meth c H locs 78 1376 (lw_Z below #[Value.ref b] s) (F0 m 708 ls [.int t0]) := by
  obtain ⟨hx, hb, hr, hml, hown, hts, hlocks, hK⟩ := id C
  have hbA : ¬ A b := fun q => Nat.not_le.mpr hbl (hAf b q)
  intro t0 hw H locs hP hD hS ls hl
  unfold wj_L_law_708 at hw
  refine lv_istore_n (lv' := [(2, .int t0), (0, .ref b), (1, .ref (a 0)), (3, .int v3), (5, .int v5), (6, .int v6)]) hx hb dL_law_708 rfl hl (by decide) rfl (fun ls hl => ?_)
  refine lv_iconst (v := (nI 1)) hx hb dL_law_709 (by decide) ?_
  refine lv_iload hx hb dL_law_710 (lv_at hl 4 rfl) ?_
  refine lv_iconst (v := (nI 3)) hx hb dL_law_712 (by decide) ?_
  refine lv_irem hx hb dL_law_713 (by decide) ?_
  refine lv_iadd hx hb dL_law_714 ?_
  refine lv_topi (fun y49 ey49 => ?_)
  replace hw := hw y49 ey49
  refine lv_istore (lv' := [(24, .int y49), (2, .int t0), (0, .ref b), (1, .ref (a 0)), (3, .int v3), (5, .int v5), (6, .int v6)]) hx hb dL_law_715 hl (by decide) rfl (fun ls hl => ?_)
  refine lv_iconst (v := (nI 0)) hx hb dL_law_717 (by decide) ?_
  refine lv_istore (lv' := [(25, .int (nI 0)), (24, .int y49), (2, .int t0), (0, .ref b), (1, .ref (a 0)), (3, .int v3), (5, .int v5), (6, .int v6)]) hx hb dL_law_718 hl (by decide) rfl (fun ls hl => ?_)
  obtain ⟨n9, hw⟩ := hw
  exact cl_L_law_720 l D kI kC kB a v3 v6 y49 hA C hAf hX hbl hL _ hK71 n9 h_ x t0 (nI 0) hw H locs hP hD hS ls (lv_sub hl [3, 4, 2, 5, 7, 1, 0] rfl)
set_option maxHeartbeats 4000000 in
set_option maxRecDepth 100000 in
theorem cj_L_law_1130 (l : Launch) (D : va_G) (kI kC kB : ClassId) (a : AdT) (h_ : Nat → AdT) (x : XS) {p : Program} {e : Env} {s : State} {m : MethodId} {below : List Frame} {meth : Method} {c : Code} {b L : Nat} {xs : Nat → Int32} {A : Nat → Prop} (hA : ∀ q : Nat, s.heap.size ≤ q → A q) (C : CtxT p s m #[Value.ref b] meth c code 28 ret "QuireSignsLaw" D kI kC kB) (hAf : ∀ q : Nat, A q → s.heap.size ≤ q) (hX : va_X b L xs s s.heap) (hbl : b < s.heap.size) (hL : L ≤ 260) : ∀ (t0 : Int32) (t1 : Int32), wj_L_law_1130 x t0 t1 → ∀ (H : Heap) (locs : List Loc), va_P D vwCl (bfl [cwX kI kB a h_ x]) H → va_D A (bfl [cwX kI kB a h_ x]) → va_S A s.heap H locs → ∀ (ls : Array Slot), lv_has ls 28 [(1, .ref (a 0))] → W p l e room_1 s m #[Value.ref b] below meth c H locs 156 2752 (lw_Z below #[Value.ref b] s) (F0 m 1130 ls [.int t1, .int t0]) := by
  obtain ⟨hx, hb, hr, hml, hown, hts, hlocks, hK⟩ := id C
  have hbA : ¬ A b := fun q => Nat.not_le.mpr hbl (hAf b q)
  intro t0 t1 hw H locs hP hD hS ls hl
  unfold wj_L_law_1130 at hw
  refine lv_icmp_ne (tgt := 1180) hx hb dL_law_1130 (by decide) (fun hc => ?_) (fun hc => ?_)
  · replace hw := hw.2 hc
    refine lv_iconst (v := (nI 0)) hx hb dL_law_1180 (by decide) ?_
    exact law_end C hAf hS dL_law_1181 hw
  · replace hw := hw.1 hc
    refine lv_aload_n hx hb dL_law_1133 rfl (lv_at hl 0 rfl) ?_
    refine lv_iconst (v := (-1)) hx hb dL_law_1134 (by decide) ?_
    refine kMBi (As := [.int (-1)]) (rest := []) (q0 := 0) (ws' := fun u : (Nat → AdT) × XS => (bfl [cwX kI kB a u.1 u.2])) C (cx_formula l D kI kC kB a h_ x H.size (-1) _ hw) ⟨rfl, rfl⟩ ce_X8_formula cv_X8_formula tw_557 ⟨(Nat.le_of_ble_eq_true rfl), (Nat.le_of_ble_eq_true rfl)⟩ hP hD hS hA (bfl_p1 [_] 0 rfl) (fun u => (bfl_p1 [_] 0 rfl)) rfl rfl rfl hl.1 rfl (Nat.le_of_ble_eq_true rfl) ⟨(Nat.le_of_ble_eq_true rfl), (Nat.le_of_ble_eq_true rfl)⟩ dL_law_1135 (fun r50 u H locs hw hP hD hS => ?_)
    obtain ⟨h51, x52⟩ := u
    try dsimp only at hw
    replace hP : va_P D vwCl (bfl [cwX kI kB a h51 x52]) H := hP
    replace hD : va_D A (bfl [cwX kI kB a h51 x52]) := hD
    refine lv_bipush (v := (-2)) hx hb dL_law_1138 (by decide) ?_
    refine lv_icmp_ne (tgt := 1180) hx hb dL_law_1140 (by decide) (fun hc => ?_) (fun hc => ?_)
    · replace hw := hw.2 hc
      refine lv_iconst (v := (nI 0)) hx hb dL_law_1180 (by decide) ?_
      exact law_end C hAf hS dL_law_1181 hw
    · replace hw := hw.1 hc
      refine lv_aload_n hx hb dL_law_1143 rfl (lv_at hl 0 rfl) ?_
      refine lv_bipush (v := (nI 13)) hx hb dL_law_1144 (by decide) ?_
      refine kMBi (As := [.int (nI 13)]) (rest := []) (q0 := 0) (ws' := fun u : (Nat → AdT) × XS => (bfl [cwX kI kB a u.1 u.2])) C (cx_count l D kI kC kB a h51 x52 H.size (nI 13) _ hw) ⟨rfl, rfl⟩ ce_X8_count cv_X8_count tw_597 ⟨(Nat.le_of_ble_eq_true rfl), (Nat.le_of_ble_eq_true rfl)⟩ hP hD hS hA (bfl_p1 [_] 0 rfl) (fun u => (bfl_p1 [_] 0 rfl)) rfl rfl rfl hl.1 rfl (Nat.le_of_ble_eq_true rfl) ⟨(Nat.le_of_ble_eq_true rfl), (Nat.le_of_ble_eq_true rfl)⟩ dL_law_1146 (fun r53 u H locs hw hP hD hS => ?_)
      obtain ⟨h54, x55⟩ := u
      try dsimp only at hw
      replace hP : va_P D vwCl (bfl [cwX kI kB a h54 x55]) H := hP
      replace hD : va_D A (bfl [cwX kI kB a h54 x55]) := hD
      refine lv_bipush (v := (-2)) hx hb dL_law_1149 (by decide) ?_
      refine lv_icmp_ne (tgt := 1180) hx hb dL_law_1151 (by decide) (fun hc => ?_) (fun hc => ?_)
      · replace hw := hw.2 hc
        refine lv_iconst (v := (nI 0)) hx hb dL_law_1180 (by decide) ?_
        exact law_end C hAf hS dL_law_1181 hw
      · replace hw := hw.1 hc
        refine lv_aload_n hx hb dL_law_1154 rfl (lv_at hl 0 rfl) ?_
        refine lv_iconst (v := (-1)) hx hb dL_law_1155 (by decide) ?_
        refine lv_iconst (v := (nI 0)) hx hb dL_law_1156 (by decide) ?_
        refine kRB (As := [.int (-1), .int (nI 0)]) (rest := []) (q0 := 0) C (c_X8_lapse l D kI kC kB a h54 x55.1 x55.2.1 x55.2.2.1 x55.2.2.2.1 x55.2.2.2.2.1 x55.2.2.2.2.2.1 x55.2.2.2.2.2.2.1 x55.2.2.2.2.2.2.2.1 x55.2.2.2.2.2.2.2.2.1 x55.2.2.2.2.2.2.2.2.2.1 x55.2.2.2.2.2.2.2.2.2.2.1 x55.2.2.2.2.2.2.2.2.2.2.2.1 x55.2.2.2.2.2.2.2.2.2.2.2.2.1 x55.2.2.2.2.2.2.2.2.2.2.2.2.2.1 x55.2.2.2.2.2.2.2.2.2.2.2.2.2.2.1 x55.2.2.2.2.2.2.2.2.2.2.2.2.2.2.2.1 x55.2.2.2.2.2.2.2.2.2.2.2.2.2.2.2.2.1 x55.2.2.2.2.2.2.2.2.2.2.2.2.2.2.2.2.2.1 x55.2.2.2.2.2.2.2.2.2.2.2.2.2.2.2.2.2.2.1 x55.2.2.2.2.2.2.2.2.2.2.2.2.2.2.2.2.2.2.2.1 x55.2.2.2.2.2.2.2.2.2.2.2.2.2.2.2.2.2.2.2.2.1 x55.2.2.2.2.2.2.2.2.2.2.2.2.2.2.2.2.2.2.2.2.2.1 x55.2.2.2.2.2.2.2.2.2.2.2.2.2.2.2.2.2.2.2.2.2.2 (-1) (nI 0) _ hw) ⟨rfl, rfl⟩ ce_X8_lapse cv_X8_lapse tw_528 ⟨(Nat.le_of_ble_eq_true rfl), (Nat.le_of_ble_eq_true rfl)⟩ hP (bfl_p1 [_] 0 rfl) rfl rfl rfl hl.1 rfl (Nat.le_of_ble_eq_true rfl) ⟨(Nat.le_of_ble_eq_true rfl), (Nat.le_of_ble_eq_true rfl)⟩ dL_law_1157 (fun r56 hw => ?_)
        refine lv_bipush (v := (-2)) hx hb dL_law_1160 (by decide) ?_
        refine lv_icmp_ne (tgt := 1180) hx hb dL_law_1162 (by decide) (fun hc => ?_) (fun hc => ?_)
        · replace hw := hw.2 hc
          refine lv_iconst (v := (nI 0)) hx hb dL_law_1180 (by decide) ?_
          exact law_end C hAf hS dL_law_1181 hw
        · replace hw := hw.1 hc
          refine lv_aload_n hx hb dL_law_1165 rfl (lv_at hl 0 rfl) ?_
          refine lv_iconst (v := (nI 0)) hx hb dL_law_1166 (by decide) ?_
          refine lv_iconst (v := (nI 2)) hx hb dL_law_1167 (by decide) ?_
          refine kRB (As := [.int (nI 0), .int (nI 2)]) (rest := []) (q0 := 0) C (c_X8_piled l D kI kC kB a h54 x55.1 x55.2.1 x55.2.2.1 x55.2.2.2.1 x55.2.2.2.2.1 x55.2.2.2.2.2.1 x55.2.2.2.2.2.2.1 x55.2.2.2.2.2.2.2.1 x55.2.2.2.2.2.2.2.2.1 x55.2.2.2.2.2.2.2.2.2.1 x55.2.2.2.2.2.2.2.2.2.2.1 x55.2.2.2.2.2.2.2.2.2.2.2.1 x55.2.2.2.2.2.2.2.2.2.2.2.2.1 x55.2.2.2.2.2.2.2.2.2.2.2.2.2.1 x55.2.2.2.2.2.2.2.2.2.2.2.2.2.2.1 x55.2.2.2.2.2.2.2.2.2.2.2.2.2.2.2.1 x55.2.2.2.2.2.2.2.2.2.2.2.2.2.2.2.2.1 x55.2.2.2.2.2.2.2.2.2.2.2.2.2.2.2.2.2.1 x55.2.2.2.2.2.2.2.2.2.2.2.2.2.2.2.2.2.2.1 x55.2.2.2.2.2.2.2.2.2.2.2.2.2.2.2.2.2.2.2.1 x55.2.2.2.2.2.2.2.2.2.2.2.2.2.2.2.2.2.2.2.2.1 x55.2.2.2.2.2.2.2.2.2.2.2.2.2.2.2.2.2.2.2.2.2.1 x55.2.2.2.2.2.2.2.2.2.2.2.2.2.2.2.2.2.2.2.2.2.2 (nI 0) (nI 2) _ hw) ⟨rfl, rfl⟩ ce_X8_piled cv_X8_piled tw_548 ⟨(Nat.le_of_ble_eq_true rfl), (Nat.le_of_ble_eq_true rfl)⟩ hP (bfl_p1 [_] 0 rfl) rfl rfl rfl hl.1 rfl (Nat.le_of_ble_eq_true rfl) ⟨(Nat.le_of_ble_eq_true rfl), (Nat.le_of_ble_eq_true rfl)⟩ dL_law_1168 (fun r57 hw => ?_)
          refine lv_bipush (v := (-2)) hx hb dL_law_1171 (by decide) ?_
          refine lv_icmp_ne (tgt := 1180) hx hb dL_law_1173 (by decide) (fun hc => ?_) (fun hc => ?_)
          · replace hw := hw.2 hc
            refine lv_iconst (v := (nI 0)) hx hb dL_law_1180 (by decide) ?_
            exact law_end C hAf hS dL_law_1181 hw
          · replace hw := hw.1 hc
            refine lv_iconst (v := (nI 1)) hx hb dL_law_1176 (by decide) ?_
            refine lv_goto (tgt := 1181) hx hb dL_law_1177 (by decide) ?_
            exact law_end C hAf hS dL_law_1181 hw
set_option maxHeartbeats 4000000 in
set_option maxRecDepth 100000 in
theorem cj_L_law_1026 (l : Launch) (D : va_G) (kI kC kB : ClassId) (a : AdT) (h_ : Nat → AdT) (x : XS) (v4 : Int32) {p : Program} {e : Env} {s : State} {m : MethodId} {below : List Frame} {meth : Method} {c : Code} {b L : Nat} {xs : Nat → Int32} {A : Nat → Prop} (hA : ∀ q : Nat, s.heap.size ≤ q → A q) (C : CtxT p s m #[Value.ref b] meth c code 28 ret "QuireSignsLaw" D kI kC kB) (hAf : ∀ q : Nat, A q → s.heap.size ≤ q) (hX : va_X b L xs s s.heap) (hbl : b < s.heap.size) (hL : L ≤ 260) : wj_L_law_1026 x v4 → ∀ (H : Heap) (locs : List Loc), va_P D vwCl (bfl [cwX kI kB a h_ x]) H → va_D A (bfl [cwX kI kB a h_ x]) → va_S A s.heap H locs → ∀ (ls : Array Slot), lv_has ls 28 [(1, .ref (a 0)), (4, .int v4)] → W p l e room_1 s m #[Value.ref b] below meth c H locs 156 2752 (lw_Z below #[Value.ref b] s) (F0 m 1026 ls []) := by
  obtain ⟨hx, hb, hr, hml, hown, hts, hlocks, hK⟩ := id C
  have hbA : ¬ A b := fun q => Nat.not_le.mpr hbl (hAf b q)
  intro hw H locs hP hD hS ls hl
  unfold wj_L_law_1026 at hw
  refine lv_aload_n hx hb dL_law_1026 rfl (lv_at hl 0 rfl) ?_
  refine lv_iconst (v := (nI 0)) hx hb dL_law_1027 (by decide) ?_
  refine kMBi (As := [.int (nI 0)]) (rest := []) (q0 := 0) (ws' := fun u : (Nat → AdT) × XS => (bfl [cwX kI kB a u.1 u.2])) C (cx_count l D kI kC kB a h_ x H.size (nI 0) _ hw) ⟨rfl, rfl⟩ ce_X8_count cv_X8_count tw_597 ⟨(Nat.le_of_ble_eq_true rfl), (Nat.le_of_ble_eq_true rfl)⟩ hP hD hS hA (bfl_p1 [_] 0 rfl) (fun u => (bfl_p1 [_] 0 rfl)) rfl rfl rfl hl.1 rfl (Nat.le_of_ble_eq_true rfl) ⟨(Nat.le_of_ble_eq_true rfl), (Nat.le_of_ble_eq_true rfl)⟩ dL_law_1028 (fun r58 u H locs hw hP hD hS => ?_)
  obtain ⟨h59, x60⟩ := u
  try dsimp only at hw
  replace hP : va_P D vwCl (bfl [cwX kI kB a h59 x60]) H := hP
  replace hD : va_D A (bfl [cwX kI kB a h59 x60]) := hD
  refine lv_iload hx hb dL_law_1031 (lv_at hl 1 rfl) ?_
  refine lv_icmp_ne (tgt := 1180) hx hb dL_law_1033 (by decide) (fun hc => ?_) (fun hc => ?_)
  · replace hw := hw.2 hc
    refine lv_iconst (v := (nI 0)) hx hb dL_law_1180 (by decide) ?_
    exact law_end C hAf hS dL_law_1181 hw
  · replace hw := hw.1 hc
    refine lv_aload_n hx hb dL_law_1036 rfl (lv_at hl 0 rfl) ?_
    refine kMBgS (As := [.ref (a 0)]) (rest := []) (ws' := fun u : (Nat → AdT) × XS => (bfl [cwX kI kB a u.1 u.2])) C (c_L_hangs l D kI kC kB a h59 x60 H.size  _ hw) ⟨rfl, rfl⟩ ce_L_hangs cv_L_hangs tw_617 ⟨(Nat.le_of_ble_eq_true rfl), (Nat.le_of_ble_eq_true rfl)⟩ hP hD hS hA (bfl_p1 [_] 0 rfl) (fun u => (bfl_p1 [_] 0 rfl))  hl.1 rfl (Nat.le_of_ble_eq_true rfl) ⟨(Nat.le_of_ble_eq_true rfl), (Nat.le_of_ble_eq_true rfl)⟩ dL_law_1037 (fun r61 u H locs hw hP hD hS => ?_)
    obtain ⟨h62, x63⟩ := u
    try dsimp only at hw
    replace hP : va_P D vwCl (bfl [cwX kI kB a h62 x63]) H := hP
    replace hD : va_D A (bfl [cwX kI kB a h62 x63]) := hD
    refine lv_if_eq (tgt := 1180) hx hb dL_law_1040 (by decide) (fun hc => ?_) (fun hc => ?_)
    · replace hw := hw.1 hc
      refine lv_iconst (v := (nI 0)) hx hb dL_law_1180 (by decide) ?_
      exact law_end C hAf hS dL_law_1181 hw
    · replace hw := hw.2 hc
      refine lv_aload_n hx hb dL_law_1043 rfl (lv_at hl 0 rfl) ?_
      refine lv_iload hx hb dL_law_1044 (lv_at hl 1 rfl) ?_
      refine lv_iconst (v := (nI 1)) hx hb dL_law_1046 (by decide) ?_
      refine lv_iadd hx hb dL_law_1047 ?_
      refine lv_iconst (v := (nI 0)) hx hb dL_law_1048 (by decide) ?_
      refine lv_iconst (v := (nI 0)) hx hb dL_law_1049 (by decide) ?_
      refine kMBi (As := [.int (v4 + (nI 1)), .int (nI 0), .int (nI 0)]) (rest := []) (q0 := 0) (ws' := fun u : (Nat → AdT) × XS => (bfl [cwX kI kB a u.1 u.2])) C (cx_insert l D kI kC kB a h62 x63 H.size (v4 + (nI 1)) (nI 0) (nI 0) _ hw) ⟨rfl, rfl⟩ ce_X8_insert cv_X8_insert tw_386 ⟨(Nat.le_of_ble_eq_true rfl), (Nat.le_of_ble_eq_true rfl)⟩ hP hD hS hA (bfl_p1 [_] 0 rfl) (fun u => (bfl_p1 [_] 0 rfl)) rfl rfl rfl hl.1 rfl (Nat.le_of_ble_eq_true rfl) ⟨(Nat.le_of_ble_eq_true rfl), (Nat.le_of_ble_eq_true rfl)⟩ dL_law_1050 (fun r64 u H locs hw hP hD hS => ?_)
      obtain ⟨h65, x66⟩ := u
      try dsimp only at hw
      replace hP : va_P D vwCl (bfl [cwX kI kB a h65 x66]) H := hP
      replace hD : va_D A (bfl [cwX kI kB a h65 x66]) := hD
      refine lv_iconst (v := (-1)) hx hb dL_law_1053 (by decide) ?_
      refine lv_icmp_ne (tgt := 1180) hx hb dL_law_1054 (by decide) (fun hc => ?_) (fun hc => ?_)
      · replace hw := hw.2 hc
        refine lv_iconst (v := (nI 0)) hx hb dL_law_1180 (by decide) ?_
        exact law_end C hAf hS dL_law_1181 hw
      · replace hw := hw.1 hc
        refine lv_aload_n hx hb dL_law_1057 rfl (lv_at hl 0 rfl) ?_
        refine lv_iconst (v := (nI 0)) hx hb dL_law_1058 (by decide) ?_
        refine lv_bipush (v := (nI 6)) hx hb dL_law_1059 (by decide) ?_
        refine lv_iconst (v := (nI 1)) hx hb dL_law_1061 (by decide) ?_
        refine kMBi (As := [.int (nI 0), .int (nI 6), .int (nI 1)]) (rest := []) (q0 := 0) (ws' := fun u : (Nat → AdT) × XS => (bfl [cwX kI kB a u.1 u.2])) C (cx_insert l D kI kC kB a h65 x66 H.size (nI 0) (nI 6) (nI 1) _ hw) ⟨rfl, rfl⟩ ce_X8_insert cv_X8_insert tw_386 ⟨(Nat.le_of_ble_eq_true rfl), (Nat.le_of_ble_eq_true rfl)⟩ hP hD hS hA (bfl_p1 [_] 0 rfl) (fun u => (bfl_p1 [_] 0 rfl)) rfl rfl rfl hl.1 rfl (Nat.le_of_ble_eq_true rfl) ⟨(Nat.le_of_ble_eq_true rfl), (Nat.le_of_ble_eq_true rfl)⟩ dL_law_1062 (fun r67 u H locs hw hP hD hS => ?_)
        obtain ⟨h68, x69⟩ := u
        try dsimp only at hw
        replace hP : va_P D vwCl (bfl [cwX kI kB a h68 x69]) H := hP
        replace hD : va_D A (bfl [cwX kI kB a h68 x69]) := hD
        refine lv_bipush (v := (-2)) hx hb dL_law_1065 (by decide) ?_
        refine lv_icmp_ne (tgt := 1180) hx hb dL_law_1067 (by decide) (fun hc => ?_) (fun hc => ?_)
        · replace hw := hw.2 hc
          refine lv_iconst (v := (nI 0)) hx hb dL_law_1180 (by decide) ?_
          exact law_end C hAf hS dL_law_1181 hw
        · replace hw := hw.1 hc
          refine lv_aload_n hx hb dL_law_1070 rfl (lv_at hl 0 rfl) ?_
          refine lv_bipush (v := (nI 25)) hx hb dL_law_1071 (by decide) ?_
          refine kMBi (As := [.int (nI 25)]) (rest := []) (q0 := 0) (ws' := fun u : (Nat → AdT) × XS => (bfl [cwX kI kB a u.1 u.2])) C (cx_signNext l D kI kC kB a h68 x69 H.size (nI 25) _ hw) ⟨rfl, rfl⟩ ce_X8_signNext cv_X8_signNext tw_370 ⟨(Nat.le_of_ble_eq_true rfl), (Nat.le_of_ble_eq_true rfl)⟩ hP hD hS hA (bfl_p1 [_] 0 rfl) (fun u => (bfl_p1 [_] 0 rfl)) rfl rfl rfl hl.1 rfl (Nat.le_of_ble_eq_true rfl) ⟨(Nat.le_of_ble_eq_true rfl), (Nat.le_of_ble_eq_true rfl)⟩ dL_law_1073 (fun r70 u H locs hw hP hD hS => ?_)
          obtain ⟨h71, x72⟩ := u
          try dsimp only at hw
          replace hP : va_P D vwCl (bfl [cwX kI kB a h71 x72]) H := hP
          replace hD : va_D A (bfl [cwX kI kB a h71 x72]) := hD
          refine lv_bipush (v := (-2)) hx hb dL_law_1076 (by decide) ?_
          refine lv_icmp_ne (tgt := 1180) hx hb dL_law_1078 (by decide) (fun hc => ?_) (fun hc => ?_)
          · replace hw := hw.2 hc
            refine lv_iconst (v := (nI 0)) hx hb dL_law_1180 (by decide) ?_
            exact law_end C hAf hS dL_law_1181 hw
          · replace hw := hw.1 hc
            refine lv_aload_n hx hb dL_law_1081 rfl (lv_at hl 0 rfl) ?_
            refine lv_bipush (v := (nI 97)) hx hb dL_law_1082 (by decide) ?_
            refine lv_iconst (v := (nI 1)) hx hb dL_law_1084 (by decide) ?_
            refine kMBi (As := [.int (nI 97), .int (nI 1)]) (rest := []) (q0 := 0) (ws' := fun u : (Nat → AdT) × XS => (bfl [cwX kI kB a u.1 u.2])) C (cx_leaveOut l D kI kC kB a h71 x72 H.size (nI 97) (nI 1) _ hw) ⟨rfl, rfl⟩ ce_X8_leaveOut cv_X8_leaveOut tw_183 ⟨(Nat.le_of_ble_eq_true rfl), (Nat.le_of_ble_eq_true rfl)⟩ hP hD hS hA (bfl_p1 [_] 0 rfl) (fun u => (bfl_p1 [_] 0 rfl)) rfl rfl rfl hl.1 rfl (Nat.le_of_ble_eq_true rfl) ⟨(Nat.le_of_ble_eq_true rfl), (Nat.le_of_ble_eq_true rfl)⟩ dL_law_1085 (fun r73 u H locs hw hP hD hS => ?_)
            obtain ⟨h74, x75⟩ := u
            try dsimp only at hw
            replace hP : va_P D vwCl (bfl [cwX kI kB a h74 x75]) H := hP
            replace hD : va_D A (bfl [cwX kI kB a h74 x75]) := hD
            refine lv_iconst (v := (-1)) hx hb dL_law_1088 (by decide) ?_
            refine lv_icmp_ne (tgt := 1180) hx hb dL_law_1089 (by decide) (fun hc => ?_) (fun hc => ?_)
            · replace hw := hw.2 hc
              refine lv_iconst (v := (nI 0)) hx hb dL_law_1180 (by decide) ?_
              exact law_end C hAf hS dL_law_1181 hw
            · replace hw := hw.1 hc
              refine lv_aload_n hx hb dL_law_1092 rfl (lv_at hl 0 rfl) ?_
              refine lv_iconst (v := (nI 3)) hx hb dL_law_1093 (by decide) ?_
              refine kMBi (As := [.int (nI 3)]) (rest := []) (q0 := 0) (ws' := fun u : (Nat → AdT) × XS => (bfl [cwX kI kB a u.1 u.2])) C (cx_setSigning l D kI kC kB a h74 x75 H.size (nI 3) _ hw) ⟨rfl, rfl⟩ ce_X8_setSigning cv_X8_setSigning tw_240 ⟨(Nat.le_of_ble_eq_true rfl), (Nat.le_of_ble_eq_true rfl)⟩ hP hD hS hA (bfl_p1 [_] 0 rfl) (fun u => (bfl_p1 [_] 0 rfl)) rfl rfl rfl hl.1 rfl (Nat.le_of_ble_eq_true rfl) ⟨(Nat.le_of_ble_eq_true rfl), (Nat.le_of_ble_eq_true rfl)⟩ dL_law_1094 (fun r76 u H locs hw hP hD hS => ?_)
              obtain ⟨h77, x78⟩ := u
              try dsimp only at hw
              replace hP : va_P D vwCl (bfl [cwX kI kB a h77 x78]) H := hP
              replace hD : va_D A (bfl [cwX kI kB a h77 x78]) := hD
              refine lv_bipush (v := (-2)) hx hb dL_law_1097 (by decide) ?_
              refine lv_icmp_ne (tgt := 1180) hx hb dL_law_1099 (by decide) (fun hc => ?_) (fun hc => ?_)
              · replace hw := hw.2 hc
                refine lv_iconst (v := (nI 0)) hx hb dL_law_1180 (by decide) ?_
                exact law_end C hAf hS dL_law_1181 hw
              · replace hw := hw.1 hc
                refine lv_aload_n hx hb dL_law_1102 rfl (lv_at hl 0 rfl) ?_
                refine lv_iconst (v := (-1)) hx hb dL_law_1103 (by decide) ?_
                refine lv_iconst (v := (nI 1)) hx hb dL_law_1104 (by decide) ?_
                refine kMBi (As := [.int (-1), .int (nI 1)]) (rest := []) (q0 := 0) (ws' := fun u : (Nat → AdT) × XS => (bfl [cwX kI kB a u.1 u.2])) C (cx_lose l D kI kC kB a h77 x78 H.size (-1) (nI 1) _ hw) ⟨rfl, rfl⟩ ce_X8_lose cv_X8_lose tw_415 ⟨(Nat.le_of_ble_eq_true rfl), (Nat.le_of_ble_eq_true rfl)⟩ hP hD hS hA (bfl_p1 [_] 0 rfl) (fun u => (bfl_p1 [_] 0 rfl)) rfl rfl rfl hl.1 rfl (Nat.le_of_ble_eq_true rfl) ⟨(Nat.le_of_ble_eq_true rfl), (Nat.le_of_ble_eq_true rfl)⟩ dL_law_1105 (fun r79 u H locs hw hP hD hS => ?_)
                obtain ⟨h80, x81⟩ := u
                try dsimp only at hw
                replace hP : va_P D vwCl (bfl [cwX kI kB a h80 x81]) H := hP
                replace hD : va_D A (bfl [cwX kI kB a h80 x81]) := hD
                refine lv_iconst (v := (-1)) hx hb dL_law_1108 (by decide) ?_
                refine lv_icmp_ne (tgt := 1180) hx hb dL_law_1109 (by decide) (fun hc => ?_) (fun hc => ?_)
                · replace hw := hw.2 hc
                  refine lv_iconst (v := (nI 0)) hx hb dL_law_1180 (by decide) ?_
                  exact law_end C hAf hS dL_law_1181 hw
                · replace hw := hw.1 hc
                  refine lv_aload_n hx hb dL_law_1112 rfl (lv_at hl 0 rfl) ?_
                  refine lv_iconst (v := (nI 0)) hx hb dL_law_1113 (by decide) ?_
                  refine lv_bipush (v := (nI 7)) hx hb dL_law_1114 (by decide) ?_
                  refine kRB (As := [.int (nI 0), .int (nI 7)]) (rest := []) (q0 := 0) C (c_X8_quire l D kI kC kB a h80 x81.1 x81.2.1 x81.2.2.1 x81.2.2.2.1 x81.2.2.2.2.1 x81.2.2.2.2.2.1 x81.2.2.2.2.2.2.1 x81.2.2.2.2.2.2.2.1 x81.2.2.2.2.2.2.2.2.1 x81.2.2.2.2.2.2.2.2.2.1 x81.2.2.2.2.2.2.2.2.2.2.1 x81.2.2.2.2.2.2.2.2.2.2.2.1 x81.2.2.2.2.2.2.2.2.2.2.2.2.1 x81.2.2.2.2.2.2.2.2.2.2.2.2.2.1 x81.2.2.2.2.2.2.2.2.2.2.2.2.2.2.1 x81.2.2.2.2.2.2.2.2.2.2.2.2.2.2.2.1 x81.2.2.2.2.2.2.2.2.2.2.2.2.2.2.2.2.1 x81.2.2.2.2.2.2.2.2.2.2.2.2.2.2.2.2.2.1 x81.2.2.2.2.2.2.2.2.2.2.2.2.2.2.2.2.2.2.1 x81.2.2.2.2.2.2.2.2.2.2.2.2.2.2.2.2.2.2.2.1 x81.2.2.2.2.2.2.2.2.2.2.2.2.2.2.2.2.2.2.2.2.1 x81.2.2.2.2.2.2.2.2.2.2.2.2.2.2.2.2.2.2.2.2.2.1 x81.2.2.2.2.2.2.2.2.2.2.2.2.2.2.2.2.2.2.2.2.2.2 (nI 0) (nI 7) _ hw) ⟨rfl, rfl⟩ ce_X8_quire cv_X8_quire tw_488 ⟨(Nat.le_of_ble_eq_true rfl), (Nat.le_of_ble_eq_true rfl)⟩ hP (bfl_p1 [_] 0 rfl) rfl rfl rfl hl.1 rfl (Nat.le_of_ble_eq_true rfl) ⟨(Nat.le_of_ble_eq_true rfl), (Nat.le_of_ble_eq_true rfl)⟩ dL_law_1116 (fun r82 hw => ?_)
                  refine lv_iload hx hb dL_law_1119 (lv_at hl 1 rfl) ?_
                  refine lv_if_le (tgt := 1129) hx hb dL_law_1121 (by decide) (fun hc => ?_) (fun hc => ?_)
                  · replace hw := hw.1 hc
                    refine lv_iconst (v := (-1)) hx hb dL_law_1129 (by decide) ?_
                    exact cj_L_law_1130 l D kI kC kB a h80 x81 hA C hAf hX hbl hL r82 (-1) hw H locs hP hD hS ls (lv_sub hl [0] rfl)
                  · replace hw := hw.2 hc
                    refine lv_bipush (v := (-2)) hx hb dL_law_1124 (by decide) ?_
                    refine lv_goto (tgt := 1130) hx hb dL_law_1126 (by decide) ?_
                    exact cj_L_law_1130 l D kI kC kB a h80 x81 hA C hAf hX hbl hL r82 (-2) hw H locs hP hD hS ls (lv_sub hl [0] rfl)
set_option maxHeartbeats 4000000 in
set_option maxRecDepth 100000 in
theorem cj_L_law_975 (l : Launch) (D : va_G) (kI kC kB : ClassId) (a : AdT) (h_ : Nat → AdT) (x : XS) (v2 : Int32) (v3 : Int32) {p : Program} {e : Env} {s : State} {m : MethodId} {below : List Frame} {meth : Method} {c : Code} {b L : Nat} {xs : Nat → Int32} {A : Nat → Prop} (hA : ∀ q : Nat, s.heap.size ≤ q → A q) (C : CtxT p s m #[Value.ref b] meth c code 28 ret "QuireSignsLaw" D kI kC kB) (hAf : ∀ q : Nat, A q → s.heap.size ≤ q) (hX : va_X b L xs s s.heap) (hbl : b < s.heap.size) (hL : L ≤ 260) : ∀ (t0 : Int32), wj_L_law_975 x v2 v3 t0 → ∀ (H : Heap) (locs : List Loc), va_P D vwCl (bfl [cwX kI kB a h_ x]) H → va_D A (bfl [cwX kI kB a h_ x]) → va_S A s.heap H locs → ∀ (ls : Array Slot), lv_has ls 28 [(1, .ref (a 0)), (2, .int v2), (3, .int v3)] → W p l e room_1 s m #[Value.ref b] below meth c H locs 156 2752 (lw_Z below #[Value.ref b] s) (F0 m 975 ls [.int t0]) := by
  obtain ⟨hx, hb, hr, hml, hown, hts, hlocks, hK⟩ := id C
  have hbA : ¬ A b := fun q => Nat.not_le.mpr hbl (hAf b q)
  intro t0 hw H locs hP hD hS ls hl
  unfold wj_L_law_975 at hw
  refine lv_istore (lv' := [(4, .int t0), (1, .ref (a 0)), (2, .int v2), (3, .int v3)]) hx hb dL_law_975 hl (by decide) rfl (fun ls hl => ?_)
  refine lv_iload_n hx hb dL_law_977 rfl (lv_at hl 2 rfl) ?_
  refine lv_if_eq (tgt := 1180) hx hb dL_law_978 (by decide) (fun hc => ?_) (fun hc => ?_)
  · replace hw := hw.1 hc
    refine lv_iconst (v := (nI 0)) hx hb dL_law_1180 (by decide) ?_
    exact law_end C hAf hS dL_law_1181 hw
  · replace hw := hw.2 hc
    refine lv_aload_n hx hb dL_law_981 rfl (lv_at hl 1 rfl) ?_
    refine lv_iconst (v := (nI 4)) hx hb dL_law_982 (by decide) ?_
    refine kRB (As := [.int (nI 4)]) (rest := []) (q0 := 0) C (c_X8_sheets l D kI kC kB a h_ x.1 x.2.1 x.2.2.1 x.2.2.2.1 x.2.2.2.2.1 x.2.2.2.2.2.1 x.2.2.2.2.2.2.1 x.2.2.2.2.2.2.2.1 x.2.2.2.2.2.2.2.2.1 x.2.2.2.2.2.2.2.2.2.1 x.2.2.2.2.2.2.2.2.2.2.1 x.2.2.2.2.2.2.2.2.2.2.2.1 x.2.2.2.2.2.2.2.2.2.2.2.2.1 x.2.2.2.2.2.2.2.2.2.2.2.2.2.1 x.2.2.2.2.2.2.2.2.2.2.2.2.2.2.1 x.2.2.2.2.2.2.2.2.2.2.2.2.2.2.2.1 x.2.2.2.2.2.2.2.2.2.2.2.2.2.2.2.2.1 x.2.2.2.2.2.2.2.2.2.2.2.2.2.2.2.2.2.1 x.2.2.2.2.2.2.2.2.2.2.2.2.2.2.2.2.2.2.1 x.2.2.2.2.2.2.2.2.2.2.2.2.2.2.2.2.2.2.2.1 x.2.2.2.2.2.2.2.2.2.2.2.2.2.2.2.2.2.2.2.2.1 x.2.2.2.2.2.2.2.2.2.2.2.2.2.2.2.2.2.2.2.2.2.1 x.2.2.2.2.2.2.2.2.2.2.2.2.2.2.2.2.2.2.2.2.2.2 (nI 4) _ hw) ⟨rfl, rfl⟩ ce_X8_sheets cv_X8_sheets tw_553 ⟨(Nat.le_of_ble_eq_true rfl), (Nat.le_of_ble_eq_true rfl)⟩ hP (bfl_p1 [_] 0 rfl) rfl rfl rfl hl.1 rfl (Nat.le_of_ble_eq_true rfl) ⟨(Nat.le_of_ble_eq_true rfl), (Nat.le_of_ble_eq_true rfl)⟩ dL_law_983 (fun r83 hw => ?_)
    refine lv_iload_n hx hb dL_law_986 rfl (lv_at hl 3 rfl) ?_
    refine lv_icmp_ne (tgt := 1180) hx hb dL_law_987 (by decide) (fun hc => ?_) (fun hc => ?_)
    · replace hw := hw.2 hc
      refine lv_iconst (v := (nI 0)) hx hb dL_law_1180 (by decide) ?_
      exact law_end C hAf hS dL_law_1181 hw
    · replace hw := hw.1 hc
      refine lv_aload_n hx hb dL_law_990 rfl (lv_at hl 1 rfl) ?_
      refine lv_iconst (v := (nI 3)) hx hb dL_law_991 (by decide) ?_
      refine kRB (As := [.int (nI 3)]) (rest := []) (q0 := 0) C (c_X8_sheets l D kI kC kB a h_ x.1 x.2.1 x.2.2.1 x.2.2.2.1 x.2.2.2.2.1 x.2.2.2.2.2.1 x.2.2.2.2.2.2.1 x.2.2.2.2.2.2.2.1 x.2.2.2.2.2.2.2.2.1 x.2.2.2.2.2.2.2.2.2.1 x.2.2.2.2.2.2.2.2.2.2.1 x.2.2.2.2.2.2.2.2.2.2.2.1 x.2.2.2.2.2.2.2.2.2.2.2.2.1 x.2.2.2.2.2.2.2.2.2.2.2.2.2.1 x.2.2.2.2.2.2.2.2.2.2.2.2.2.2.1 x.2.2.2.2.2.2.2.2.2.2.2.2.2.2.2.1 x.2.2.2.2.2.2.2.2.2.2.2.2.2.2.2.2.1 x.2.2.2.2.2.2.2.2.2.2.2.2.2.2.2.2.2.1 x.2.2.2.2.2.2.2.2.2.2.2.2.2.2.2.2.2.2.1 x.2.2.2.2.2.2.2.2.2.2.2.2.2.2.2.2.2.2.2.1 x.2.2.2.2.2.2.2.2.2.2.2.2.2.2.2.2.2.2.2.2.1 x.2.2.2.2.2.2.2.2.2.2.2.2.2.2.2.2.2.2.2.2.2.1 x.2.2.2.2.2.2.2.2.2.2.2.2.2.2.2.2.2.2.2.2.2.2 (nI 3) _ hw) ⟨rfl, rfl⟩ ce_X8_sheets cv_X8_sheets tw_553 ⟨(Nat.le_of_ble_eq_true rfl), (Nat.le_of_ble_eq_true rfl)⟩ hP (bfl_p1 [_] 0 rfl) rfl rfl rfl hl.1 rfl (Nat.le_of_ble_eq_true rfl) ⟨(Nat.le_of_ble_eq_true rfl), (Nat.le_of_ble_eq_true rfl)⟩ dL_law_992 (fun r84 hw => ?_)
      refine lv_bipush (v := (-2)) hx hb dL_law_995 (by decide) ?_
      refine lv_icmp_ne (tgt := 1180) hx hb dL_law_997 (by decide) (fun hc => ?_) (fun hc => ?_)
      · replace hw := hw.2 hc
        refine lv_iconst (v := (nI 0)) hx hb dL_law_1180 (by decide) ?_
        exact law_end C hAf hS dL_law_1181 hw
      · replace hw := hw.1 hc
        refine lv_iload hx hb dL_law_1000 (lv_at hl 0 rfl) ?_
        refine lv_bipush (v := (nI 40)) hx hb dL_law_1002 (by decide) ?_
        refine lv_icmp_eq (tgt := 1026) hx hb dL_law_1004 (by decide) (fun hc => ?_) (fun hc => ?_)
        · replace hw := hw.1 hc
          exact cj_L_law_1026 l D kI kC kB a h_ x t0 hA C hAf hX hbl hL hw H locs hP hD hS ls (lv_sub hl [1, 0] rfl)
        · replace hw := hw.2 hc
          refine lv_aload_n hx hb dL_law_1007 rfl (lv_at hl 1 rfl) ?_
          refine lv_iload hx hb dL_law_1008 (lv_at hl 0 rfl) ?_
          refine lv_iconst (v := (nI 5)) hx hb dL_law_1010 (by decide) ?_
          refine lv_bipush (v := (nI 24)) hx hb dL_law_1011 (by decide) ?_
          refine kMBi (As := [.int t0, .int (nI 5), .int (nI 24)]) (rest := []) (q0 := 0) (ws' := fun u : (Nat → AdT) × XS => (bfl [cwX kI kB a u.1 u.2])) C (cx_insert l D kI kC kB a h_ x H.size t0 (nI 5) (nI 24) _ hw) ⟨rfl, rfl⟩ ce_X8_insert cv_X8_insert tw_386 ⟨(Nat.le_of_ble_eq_true rfl), (Nat.le_of_ble_eq_true rfl)⟩ hP hD hS hA (bfl_p1 [_] 0 rfl) (fun u => (bfl_p1 [_] 0 rfl)) rfl rfl rfl hl.1 rfl (Nat.le_of_ble_eq_true rfl) ⟨(Nat.le_of_ble_eq_true rfl), (Nat.le_of_ble_eq_true rfl)⟩ dL_law_1013 (fun r85 u H locs hw hP hD hS => ?_)
          obtain ⟨h86, x87⟩ := u
          try dsimp only at hw
          replace hP : va_P D vwCl (bfl [cwX kI kB a h86 x87]) H := hP
          replace hD : va_D A (bfl [cwX kI kB a h86 x87]) := hD
          refine lv_if_le (tgt := 1180) hx hb dL_law_1016 (by decide) (fun hc => ?_) (fun hc => ?_)
          · replace hw := hw.1 hc
            refine lv_iconst (v := (nI 0)) hx hb dL_law_1180 (by decide) ?_
            exact law_end C hAf hS dL_law_1181 hw
          · replace hw := hw.2 hc
            refine lv_aload_n hx hb dL_law_1019 rfl (lv_at hl 1 rfl) ?_
            refine kMBi (As := []) (rest := []) (q0 := 0) (ws' := fun u : (Nat → AdT) × XS => (bfl [cwX kI kB a u.1 u.2])) C (cx_undo l D kI kC kB a h86 x87 H.size  _ hw) ⟨rfl, rfl⟩ ce_X8_undo cv_X8_undo tw_471 ⟨(Nat.le_of_ble_eq_true rfl), (Nat.le_of_ble_eq_true rfl)⟩ hP hD hS hA (bfl_p1 [_] 0 rfl) (fun u => (bfl_p1 [_] 0 rfl)) rfl rfl rfl hl.1 rfl (Nat.le_of_ble_eq_true rfl) ⟨(Nat.le_of_ble_eq_true rfl), (Nat.le_of_ble_eq_true rfl)⟩ dL_law_1020 (fun r88 u H locs hw hP hD hS => ?_)
            obtain ⟨h89, x90⟩ := u
            try dsimp only at hw
            replace hP : va_P D vwCl (bfl [cwX kI kB a h89 x90]) H := hP
            replace hD : va_D A (bfl [cwX kI kB a h89 x90]) := hD
            refine lv_if_lt (tgt := 1180) hx hb dL_law_1023 (by decide) (fun hc => ?_) (fun hc => ?_)
            · replace hw := hw.1 hc
              refine lv_iconst (v := (nI 0)) hx hb dL_law_1180 (by decide) ?_
              exact law_end C hAf hS dL_law_1181 hw
            · replace hw := hw.2 hc
              exact cj_L_law_1026 l D kI kC kB a h89 x90 t0 hA C hAf hX hbl hL hw H locs hP hD hS ls (lv_sub hl [1, 0] rfl)
set_option maxHeartbeats 4000000 in
set_option maxRecDepth 100000 in
theorem cj_L_law_962 (l : Launch) (D : va_G) (kI kC kB : ClassId) (a : AdT) (h_ : Nat → AdT) (x : XS) (v2 : Int32) (v3 : Int32) {p : Program} {e : Env} {s : State} {m : MethodId} {below : List Frame} {meth : Method} {c : Code} {b L : Nat} {xs : Nat → Int32} {A : Nat → Prop} (hA : ∀ q : Nat, s.heap.size ≤ q → A q) (C : CtxT p s m #[Value.ref b] meth c code 28 ret "QuireSignsLaw" D kI kC kB) (hAf : ∀ q : Nat, A q → s.heap.size ≤ q) (hX : va_X b L xs s s.heap) (hbl : b < s.heap.size) (hL : L ≤ 260) : wj_L_law_962 x v2 v3 → ∀ (H : Heap) (locs : List Loc), va_P D vwCl (bfl [cwX kI kB a h_ x]) H → va_D A (bfl [cwX kI kB a h_ x]) → va_S A s.heap H locs → ∀ (ls : Array Slot), lv_has ls 28 [(1, .ref (a 0)), (2, .int v2), (3, .int v3)] → W p l e room_1 s m #[Value.ref b] below meth c H locs 156 2752 (lw_Z below #[Value.ref b] s) (F0 m 962 ls []) := by
  obtain ⟨hx, hb, hr, hml, hown, hts, hlocks, hK⟩ := id C
  have hbA : ¬ A b := fun q => Nat.not_le.mpr hbl (hAf b q)
  intro hw H locs hP hD hS ls hl
  unfold wj_L_law_962 at hw
  refine lv_iload_n hx hb dL_law_962 rfl (lv_at hl 1 rfl) ?_
  refine lv_if_eq (tgt := 974) hx hb dL_law_963 (by decide) (fun hc => ?_) (fun hc => ?_)
  · replace hw := hw.1 hc
    refine lv_iconst (v := (nI 0)) hx hb dL_law_974 (by decide) ?_
    exact cj_L_law_975 l D kI kC kB a h_ x v2 v3 hA C hAf hX hbl hL (nI 0) hw H locs hP hD hS ls (lv_sub hl [0, 1, 2] rfl)
  · replace hw := hw.2 hc
    refine lv_aload_n hx hb dL_law_966 rfl (lv_at hl 0 rfl) ?_
    refine lv_iconst (v := (nI 0)) hx hb dL_law_967 (by decide) ?_
    refine kMBi (As := [.int (nI 0)]) (rest := []) (q0 := 0) (ws' := fun u : (Nat → AdT) × XS => (bfl [cwX kI kB a u.1 u.2])) C (cx_count l D kI kC kB a h_ x H.size (nI 0) _ hw) ⟨rfl, rfl⟩ ce_X8_count cv_X8_count tw_597 ⟨(Nat.le_of_ble_eq_true rfl), (Nat.le_of_ble_eq_true rfl)⟩ hP hD hS hA (bfl_p1 [_] 0 rfl) (fun u => (bfl_p1 [_] 0 rfl)) rfl rfl rfl hl.1 rfl (Nat.le_of_ble_eq_true rfl) ⟨(Nat.le_of_ble_eq_true rfl), (Nat.le_of_ble_eq_true rfl)⟩ dL_law_968 (fun r91 u H locs hw hP hD hS => ?_)
    obtain ⟨h92, x93⟩ := u
    try dsimp only at hw
    replace hP : va_P D vwCl (bfl [cwX kI kB a h92 x93]) H := hP
    replace hD : va_D A (bfl [cwX kI kB a h92 x93]) := hD
    refine lv_goto (tgt := 975) hx hb dL_law_971 (by decide) ?_
    exact cj_L_law_975 l D kI kC kB a h92 x93 v2 v3 hA C hAf hX hbl hL r91 hw H locs hP hD hS ls (lv_sub hl [0, 1, 2] rfl)
set_option maxHeartbeats 4000000 in
set_option maxRecDepth 100000 in
theorem cl_L_law_928 (l : Launch) (D : va_G) (kI kC kB : ClassId) (a : AdT) (v2 : Int32) {p : Program} {e : Env} {s : State} {m : MethodId} {below : List Frame} {meth : Method} {c : Code} {b L : Nat} {xs : Nat → Int32} {A : Nat → Prop} (hA : ∀ q : Nat, s.heap.size ≤ q → A q) (C : CtxT p s m #[Value.ref b] meth c code 28 ret "QuireSignsLaw" D kI kC kB) (hAf : ∀ q : Nat, A q → s.heap.size ≤ q) (hX : va_X b L xs s s.heap) (hbl : b < s.heap.size) (hL : L ≤ 260) : ∀ (n : Nat), ∀ (h_ : Nat → AdT) (x : XS) (v3 : Int32) (v4 : Int32), wl_L_law_928 v2 n x v3 v4 → ∀ (H : Heap) (locs : List Loc), va_P D vwCl (bfl [cwX kI kB a h_ x]) H → va_D A (bfl [cwX kI kB a h_ x]) → va_S A s.heap H locs → ∀ (ls : Array Slot), lv_has ls 28 [(1, .ref (a 0)), (2, .int v2), (3, .int v3), (4, .int v4)] → W p l e room_1 s m #[Value.ref b] below meth c H locs 156 2752 (lw_Z below #[Value.ref b] s) (F0 m 928 ls []) := by
  obtain ⟨hx, hb, hr, hml, hown, hts, hlocks, hK⟩ := id C
  have hbA : ¬ A b := fun q => Nat.not_le.mpr hbl (hAf b q)
  intro n
  induction n with
  | zero => intro h_ x v3 v4 hw; exact hw.elim
  | succ n ih =>
    intro h_ x v3 v4 hw H locs hP hD hS ls hl
    unfold wl_L_law_928 at hw
    refine lv_iload hx hb dL_law_928 (lv_at hl 3 rfl) ?_
    refine lv_aload_n hx hb dL_law_930 rfl (lv_at hl 0 rfl) ?_
    refine lv_iconst (v := (nI 0)) hx hb dL_law_931 (by decide) ?_
    refine kMBi (As := [.int (nI 0)]) (rest := [.int v4]) (q0 := 0) (ws' := fun u : (Nat → AdT) × XS => (bfl [cwX kI kB a u.1 u.2])) C (cx_count l D kI kC kB a h_ x H.size (nI 0) _ hw) ⟨rfl, rfl⟩ ce_X8_count cv_X8_count tw_597 ⟨(Nat.le_of_ble_eq_true rfl), (Nat.le_of_ble_eq_true rfl)⟩ hP hD hS hA (bfl_p1 [_] 0 rfl) (fun u => (bfl_p1 [_] 0 rfl)) rfl rfl rfl hl.1 rfl (Nat.le_of_ble_eq_true rfl) ⟨(Nat.le_of_ble_eq_true rfl), (Nat.le_of_ble_eq_true rfl)⟩ dL_law_932 (fun r94 u H locs hw hP hD hS => ?_)
    obtain ⟨h95, x96⟩ := u
    try dsimp only at hw
    replace hP : va_P D vwCl (bfl [cwX kI kB a h95 x96]) H := hP
    replace hD : va_D A (bfl [cwX kI kB a h95 x96]) := hD
    refine lv_icmp_ge (tgt := 962) hx hb dL_law_935 (by decide) (fun hc => ?_) (fun hc => ?_)
    · replace hw := hw.1 hc
      exact cj_L_law_962 l D kI kC kB a h95 x96 v2 v3 hA C hAf hX hbl hL hw H locs hP hD hS ls (lv_sub hl [0, 1, 2] rfl)
    · replace hw := hw.2 hc
      refine lv_iload_n hx hb dL_law_938 rfl (lv_at hl 1 rfl) ?_
      refine lv_if_eq (tgt := 962) hx hb dL_law_939 (by decide) (fun hc => ?_) (fun hc => ?_)
      · replace hw := hw.1 hc
        exact cj_L_law_962 l D kI kC kB a h95 x96 v2 v3 hA C hAf hX hbl hL hw H locs hP hD hS ls (lv_sub hl [0, 1, 2] rfl)
      · replace hw := hw.2 hc
        refine lv_iload_n hx hb dL_law_942 rfl (lv_at hl 2 rfl) ?_
        refine lv_aload_n hx hb dL_law_943 rfl (lv_at hl 0 rfl) ?_
        refine lv_iload hx hb dL_law_944 (lv_at hl 3 rfl) ?_
        refine lv_iconst (v := (nI 2)) hx hb dL_law_946 (by decide) ?_
        refine kRB (As := [.int v4, .int (nI 2)]) (rest := [.int v3]) (q0 := 0) C (c_X8_quire l D kI kC kB a h95 x96.1 x96.2.1 x96.2.2.1 x96.2.2.2.1 x96.2.2.2.2.1 x96.2.2.2.2.2.1 x96.2.2.2.2.2.2.1 x96.2.2.2.2.2.2.2.1 x96.2.2.2.2.2.2.2.2.1 x96.2.2.2.2.2.2.2.2.2.1 x96.2.2.2.2.2.2.2.2.2.2.1 x96.2.2.2.2.2.2.2.2.2.2.2.1 x96.2.2.2.2.2.2.2.2.2.2.2.2.1 x96.2.2.2.2.2.2.2.2.2.2.2.2.2.1 x96.2.2.2.2.2.2.2.2.2.2.2.2.2.2.1 x96.2.2.2.2.2.2.2.2.2.2.2.2.2.2.2.1 x96.2.2.2.2.2.2.2.2.2.2.2.2.2.2.2.2.1 x96.2.2.2.2.2.2.2.2.2.2.2.2.2.2.2.2.2.1 x96.2.2.2.2.2.2.2.2.2.2.2.2.2.2.2.2.2.2.1 x96.2.2.2.2.2.2.2.2.2.2.2.2.2.2.2.2.2.2.2.1 x96.2.2.2.2.2.2.2.2.2.2.2.2.2.2.2.2.2.2.2.2.1 x96.2.2.2.2.2.2.2.2.2.2.2.2.2.2.2.2.2.2.2.2.2.1 x96.2.2.2.2.2.2.2.2.2.2.2.2.2.2.2.2.2.2.2.2.2.2 v4 (nI 2) _ hw) ⟨rfl, rfl⟩ ce_X8_quire cv_X8_quire tw_488 ⟨(Nat.le_of_ble_eq_true rfl), (Nat.le_of_ble_eq_true rfl)⟩ hP (bfl_p1 [_] 0 rfl) rfl rfl rfl hl.1 rfl (Nat.le_of_ble_eq_true rfl) ⟨(Nat.le_of_ble_eq_true rfl), (Nat.le_of_ble_eq_true rfl)⟩ dL_law_947 (fun r97 hw => ?_)
        refine lv_iconst (v := (nI 3)) hx hb dL_law_950 (by decide) ?_
        refine lv_iadd hx hb dL_law_951 ?_
        refine lv_iconst (v := (nI 4)) hx hb dL_law_952 (by decide) ?_
        refine lv_idiv hx hb dL_law_953 (by decide) ?_
        refine lv_iadd hx hb dL_law_954 ?_
        refine lv_topi (fun y98 ey98 => ?_)
        replace hw := hw y98 ey98
        refine lv_istore_n (lv' := [(3, .int y98), (1, .ref (a 0)), (2, .int v2), (4, .int v4)]) hx hb dL_law_955 rfl hl (by decide) rfl (fun ls hl => ?_)
        refine lv_iinc (v := (v4 + nI 1)) (lv' := [(4, .int (v4 + nI 1)), (3, .int y98), (1, .ref (a 0)), (2, .int v2)]) hx hb dL_law_956 hl (k := 3) rfl rfl (by decide) rfl (fun ls hl => ?_)
        refine lv_goto (tgt := 928) hx hb dL_law_959 (by decide) ?_
        exact ih h95 x96 y98 (v4 + nI 1) hw H locs hP hD hS ls (lv_sub hl [2, 3, 1, 0] rfl)
set_option maxHeartbeats 4000000 in
set_option maxRecDepth 100000 in
theorem cj_L_law_906 (l : Launch) (D : va_G) (kI kC kB : ClassId) (a : AdT) (h_ : Nat → AdT) (x : XS) (v2 : Int32) {p : Program} {e : Env} {s : State} {m : MethodId} {below : List Frame} {meth : Method} {c : Code} {b L : Nat} {xs : Nat → Int32} {A : Nat → Prop} (hA : ∀ q : Nat, s.heap.size ≤ q → A q) (C : CtxT p s m #[Value.ref b] meth c code 28 ret "QuireSignsLaw" D kI kC kB) (hAf : ∀ q : Nat, A q → s.heap.size ≤ q) (hX : va_X b L xs s s.heap) (hbl : b < s.heap.size) (hL : L ≤ 260) : wj_L_law_906 x v2 → ∀ (H : Heap) (locs : List Loc), va_P D vwCl (bfl [cwX kI kB a h_ x]) H → va_D A (bfl [cwX kI kB a h_ x]) → va_S A s.heap H locs → ∀ (ls : Array Slot), lv_has ls 28 [(1, .ref (a 0)), (2, .int v2)] → W p l e room_1 s m #[Value.ref b] below meth c H locs 78 1376 (lw_Z below #[Value.ref b] s) (F0 m 906 ls []) := by
  obtain ⟨hx, hb, hr, hml, hown, hts, hlocks, hK⟩ := id C
  have hbA : ¬ A b := fun q => Nat.not_le.mpr hbl (hAf b q)
  intro hw H locs hP hD hS ls hl
  unfold wj_L_law_906 at hw
  refine lv_iload_n hx hb dL_law_906 rfl (lv_at hl 1 rfl) ?_
  refine lv_if_eq (tgt := 921) hx hb dL_law_907 (by decide) (fun hc => ?_) (fun hc => ?_)
  · replace hw := hw.1 hc
    refine lv_iconst (v := (nI 0)) hx hb dL_law_921 (by decide) ?_
    refine lv_istore_n (lv' := [(2, .int (nI 0)), (1, .ref (a 0))]) hx hb dL_law_922 rfl hl (by decide) rfl (fun ls hl => ?_)
    refine lv_iconst (v := (nI 0)) hx hb dL_law_923 (by decide) ?_
    refine lv_istore_n (lv' := [(3, .int (nI 0)), (2, .int (nI 0)), (1, .ref (a 0))]) hx hb dL_law_924 rfl hl (by decide) rfl (fun ls hl => ?_)
    refine lv_iconst (v := (nI 0)) hx hb dL_law_925 (by decide) ?_
    refine lv_istore (lv' := [(4, .int (nI 0)), (3, .int (nI 0)), (2, .int (nI 0)), (1, .ref (a 0))]) hx hb dL_law_926 hl (by decide) rfl (fun ls hl => ?_)
    refine W.widen (k := 156) (n := 2752) (Nat.le_of_ble_eq_true rfl) (Nat.le_of_ble_eq_true rfl) ?_
    obtain ⟨n9, hw⟩ := hw
    exact cl_L_law_928 l D kI kC kB a (nI 0) hA C hAf hX hbl hL n9 h_ x (nI 0) (nI 0) hw H locs hP hD hS ls (lv_sub hl [3, 2, 1, 0] rfl)
  · replace hw := hw.2 hc
    refine lv_aload_n hx hb dL_law_910 rfl (lv_at hl 0 rfl) ?_
    refine kMBgS (As := [.ref (a 0)]) (rest := []) (ws' := fun u : (Nat → AdT) × XS => (bfl [cwX kI kB a u.1 u.2])) C (c_L_again l D kI kC kB a h_ x H.size  _ hw) ⟨rfl, rfl⟩ ce_L_again cv_L_again tw_620 ⟨(Nat.le_of_ble_eq_true rfl), (Nat.le_of_ble_eq_true rfl)⟩ hP hD hS hA (bfl_p1 [_] 0 rfl) (fun u => (bfl_p1 [_] 0 rfl))  hl.1 rfl (Nat.le_of_ble_eq_true rfl) ⟨(Nat.le_of_ble_eq_true rfl), (Nat.le_of_ble_eq_true rfl)⟩ dL_law_911 (fun r99 u H locs hw hP hD hS => ?_)
    obtain ⟨h100, x101⟩ := u
    try dsimp only at hw
    replace hP : va_P D vwCl (bfl [cwX kI kB a h100 x101]) H := hP
    replace hD : va_D A (bfl [cwX kI kB a h100 x101]) := hD
    refine W.widen (k := 156) (n := 2752) (Nat.le_of_ble_eq_true rfl) (Nat.le_of_ble_eq_true rfl) ?_
    refine lv_if_eq (tgt := 921) hx hb dL_law_914 (by decide) (fun hc => ?_) (fun hc => ?_)
    · replace hw := hw.1 hc
      refine lv_iconst (v := (nI 0)) hx hb dL_law_921 (by decide) ?_
      refine lv_istore_n (lv' := [(2, .int (nI 0)), (1, .ref (a 0))]) hx hb dL_law_922 rfl hl (by decide) rfl (fun ls hl => ?_)
      refine lv_iconst (v := (nI 0)) hx hb dL_law_923 (by decide) ?_
      refine lv_istore_n (lv' := [(3, .int (nI 0)), (2, .int (nI 0)), (1, .ref (a 0))]) hx hb dL_law_924 rfl hl (by decide) rfl (fun ls hl => ?_)
      refine lv_iconst (v := (nI 0)) hx hb dL_law_925 (by decide) ?_
      refine lv_istore (lv' := [(4, .int (nI 0)), (3, .int (nI 0)), (2, .int (nI 0)), (1, .ref (a 0))]) hx hb dL_law_926 hl (by decide) rfl (fun ls hl => ?_)
      obtain ⟨n9, hw⟩ := hw
      exact cl_L_law_928 l D kI kC kB a (nI 0) hA C hAf hX hbl hL n9 h100 x101 (nI 0) (nI 0) hw H locs hP hD hS ls (lv_sub hl [3, 2, 1, 0] rfl)
    · replace hw := hw.2 hc
      refine lv_iconst (v := (nI 1)) hx hb dL_law_917 (by decide) ?_
      refine lv_goto (tgt := 922) hx hb dL_law_918 (by decide) ?_
      refine lv_istore_n (lv' := [(2, .int (nI 1)), (1, .ref (a 0))]) hx hb dL_law_922 rfl hl (by decide) rfl (fun ls hl => ?_)
      refine lv_iconst (v := (nI 0)) hx hb dL_law_923 (by decide) ?_
      refine lv_istore_n (lv' := [(3, .int (nI 0)), (2, .int (nI 1)), (1, .ref (a 0))]) hx hb dL_law_924 rfl hl (by decide) rfl (fun ls hl => ?_)
      refine lv_iconst (v := (nI 0)) hx hb dL_law_925 (by decide) ?_
      refine lv_istore (lv' := [(4, .int (nI 0)), (3, .int (nI 0)), (2, .int (nI 1)), (1, .ref (a 0))]) hx hb dL_law_926 hl (by decide) rfl (fun ls hl => ?_)
      obtain ⟨n9, hw⟩ := hw
      exact cl_L_law_928 l D kI kC kB a (nI 1) hA C hAf hX hbl hL n9 h100 x101 (nI 0) (nI 0) hw H locs hP hD hS ls (lv_sub hl [3, 2, 1, 0] rfl)
set_option maxHeartbeats 4000000 in
set_option maxRecDepth 100000 in
theorem cl_L_law_71 (l : Launch) (D : va_G) (kI kC kB : ClassId) (a : AdT) {p : Program} {e : Env} {s : State} {m : MethodId} {below : List Frame} {meth : Method} {c : Code} {b L : Nat} {xs : Nat → Int32} {A : Nat → Prop} (hA : ∀ q : Nat, s.heap.size ≤ q → A q) (C : CtxT p s m #[Value.ref b] meth c code 28 ret "QuireSignsLaw" D kI kC kB) (hAf : ∀ q : Nat, A q → s.heap.size ≤ q) (hX : va_X b L xs s s.heap) (hbl : b < s.heap.size) (hL : L ≤ 260) : ∀ (n : Nat), ∀ (h_ : Nat → AdT) (x : XS) (v2 : Int32) (v3 : Int32), wl_L_law_71  n x v2 v3 → ∀ (H : Heap) (locs : List Loc), va_P D vwCl (bfl [cwX kI kB a h_ x]) H → va_D A (bfl [cwX kI kB a h_ x]) → va_S A s.heap H locs → ∀ (ls : Array Slot), lv_has ls 28 [(0, .ref b), (1, .ref (a 0)), (2, .int v2), (3, .int v3)] → W p l e room_1 s m #[Value.ref b] below meth c H locs 78 1376 (lw_Z below #[Value.ref b] s) (F0 m 71 ls []) := by
  obtain ⟨hx, hb, hr, hml, hown, hts, hlocks, hK⟩ := id C
  have hbA : ¬ A b := fun q => Nat.not_le.mpr hbl (hAf b q)
  intro n
  induction n with
  | zero => intro h_ x v2 v3 hw; exact hw.elim
  | succ n ih =>
    intro h_ x v2 v3 hw H locs hP hD hS ls hl
    unfold wl_L_law_71 at hw
    refine lv_iload_n hx hb dL_law_71 rfl (lv_at hl 3 rfl) ?_
    refine lv_bipush (v := (nI 26)) hx hb dL_law_72 (by decide) ?_
    refine lv_icmp_ge (tgt := 906) hx hb dL_law_74 (by decide) (fun hc => ?_) (fun hc => ?_)
    · replace hw := hw.1 hc
      exact cj_L_law_906 l D kI kC kB a h_ x v2 hA C hAf hX hbl hL hw H locs hP hD hS ls (lv_sub hl [1, 2] rfl)
    · replace hw := hw.2 hc
      refine lv_iload_n hx hb dL_law_77 rfl (lv_at hl 2 rfl) ?_
      refine lv_if_eq (tgt := 906) hx hb dL_law_78 (by decide) (fun hc => ?_) (fun hc => ?_)
      · replace hw := hw.1 hc
        exact cj_L_law_906 l D kI kC kB a h_ x v2 hA C hAf hX hbl hL hw H locs hP hD hS ls (lv_sub hl [1, 2] rfl)
      · replace hw := hw.2 hc
        refine lv_aload_n hx hb dL_law_81 rfl (lv_at hl 0 rfl) ?_
        refine lv_iload_n hx hb dL_law_82 rfl (lv_at hl 3 rfl) ?_
        have hk := hw.1
        replace hw := hw.2
        refine k_cell (k := v3) C hX hbl hbA hS hL hk (R := room_1) ce_L_cell cv_L_cell tw_612 ⟨(Nat.le_of_ble_eq_true rfl), (Nat.le_of_ble_eq_true rfl)⟩ hl.1 (rest := []) (Nat.le_of_ble_eq_true rfl) ⟨(Nat.le_of_ble_eq_true rfl), (Nat.le_of_ble_eq_true rfl)⟩ dL_law_83 (fun c102 hc102 => ?_)
        replace hw := hw c102 hc102
        refine lv_istore (lv' := [(4, .int (nI c102)), (0, .ref b), (1, .ref (a 0)), (2, .int v2), (3, .int v3)]) hx hb dL_law_86 hl (by decide) rfl (fun ls hl => ?_)
        refine lv_iload hx hb dL_law_88 (lv_at hl 0 rfl) ?_
        refine lv_bipush (v := (nI 16)) hx hb dL_law_90 (by decide) ?_
        refine lv_idiv hx hb dL_law_92 (by decide) ?_
        refine lv_topi (fun y103 ey103 => ?_)
        replace hw := hw y103 ey103
        refine lv_istore (lv' := [(5, .int y103), (4, .int (nI c102)), (0, .ref b), (1, .ref (a 0)), (2, .int v2), (3, .int v3)]) hx hb dL_law_93 hl (by decide) rfl (fun ls hl => ?_)
        refine lv_aload_n hx hb dL_law_95 rfl (lv_at hl 3 rfl) ?_
        refine lv_iconst (v := (nI 0)) hx hb dL_law_96 (by decide) ?_
        refine kMBi (As := [.int (nI 0)]) (rest := []) (q0 := 0) (ws' := fun u : (Nat → AdT) × XS => (bfl [cwX kI kB a u.1 u.2])) C (cx_count l D kI kC kB a h_ x H.size (nI 0) _ hw) ⟨rfl, rfl⟩ ce_X8_count cv_X8_count tw_597 ⟨(Nat.le_of_ble_eq_true rfl), (Nat.le_of_ble_eq_true rfl)⟩ hP hD hS hA (bfl_p1 [_] 0 rfl) (fun u => (bfl_p1 [_] 0 rfl)) rfl rfl rfl hl.1 rfl (Nat.le_of_ble_eq_true rfl) ⟨(Nat.le_of_ble_eq_true rfl), (Nat.le_of_ble_eq_true rfl)⟩ dL_law_97 (fun r104 u H locs hw hP hD hS => ?_)
        obtain ⟨h105, x106⟩ := u
        try dsimp only at hw
        replace hP : va_P D vwCl (bfl [cwX kI kB a h105 x106]) H := hP
        replace hD : va_D A (bfl [cwX kI kB a h105 x106]) := hD
        refine lv_istore (lv' := [(6, .int r104), (5, .int y103), (4, .int (nI c102)), (0, .ref b), (1, .ref (a 0)), (2, .int v2), (3, .int v3)]) hx hb dL_law_100 hl (by decide) rfl (fun ls hl => ?_)
        refine lv_aload_n hx hb dL_law_102 rfl (lv_at hl 4 rfl) ?_
        refine lv_iconst (v := (nI 1)) hx hb dL_law_103 (by decide) ?_
        refine kMBi (As := [.int (nI 1)]) (rest := []) (q0 := 0) (ws' := fun u : (Nat → AdT) × XS => (bfl [cwX kI kB a u.1 u.2])) C (cx_count l D kI kC kB a h105 x106 H.size (nI 1) _ hw) ⟨rfl, rfl⟩ ce_X8_count cv_X8_count tw_597 ⟨(Nat.le_of_ble_eq_true rfl), (Nat.le_of_ble_eq_true rfl)⟩ hP hD hS hA (bfl_p1 [_] 0 rfl) (fun u => (bfl_p1 [_] 0 rfl)) rfl rfl rfl hl.1 rfl (Nat.le_of_ble_eq_true rfl) ⟨(Nat.le_of_ble_eq_true rfl), (Nat.le_of_ble_eq_true rfl)⟩ dL_law_104 (fun r107 u H locs hw hP hD hS => ?_)
        obtain ⟨h108, x109⟩ := u
        try dsimp only at hw
        replace hP : va_P D vwCl (bfl [cwX kI kB a h108 x109]) H := hP
        replace hD : va_D A (bfl [cwX kI kB a h108 x109]) := hD
        refine lv_istore (lv' := [(7, .int r107), (6, .int r104), (5, .int y103), (4, .int (nI c102)), (0, .ref b), (1, .ref (a 0)), (2, .int v2), (3, .int v3)]) hx hb dL_law_107 hl (by decide) rfl (fun ls hl => ?_)
        refine lv_iconst (v := (nI 1)) hx hb dL_law_109 (by decide) ?_
        refine lv_iload hx hb dL_law_110 (lv_at hl 2 rfl) ?_
        refine lv_iconst (v := (nI 4)) hx hb dL_law_112 (by decide) ?_
        refine lv_idiv hx hb dL_law_113 (by decide) ?_
        refine lv_bipush (v := (nI 24)) hx hb dL_law_114 (by decide) ?_
        refine lv_irem hx hb dL_law_116 (by decide) ?_
        refine lv_iadd hx hb dL_law_117 ?_
        refine lv_topi (fun y110 ey110 => ?_)
        replace hw := hw y110 ey110
        refine lv_istore (lv' := [(8, .int y110), (7, .int r107), (6, .int r104), (5, .int y103), (4, .int (nI c102)), (0, .ref b), (1, .ref (a 0)), (2, .int v2), (3, .int v3)]) hx hb dL_law_118 hl (by decide) rfl (fun ls hl => ?_)
        refine lv_iload hx hb dL_law_120 (lv_at hl 4 rfl) ?_
        refine lv_bipush (v := (nI 16)) hx hb dL_law_122 (by decide) ?_
        refine lv_irem hx hb dL_law_124 (by decide) ?_
        refine lv_topi (fun y111 ey111 => ?_)
        replace hw := hw y111 ey111
        by_cases hc0 : y111 = 0
        · replace hw := hw.1 hc0
          refine lv_tableIn (tgt := 192) (off := 67) hx hb dL_law_125 (by rw [hc0]; decide) (by rw [hc0]; decide) (by rw [hc0]; rfl) (by decide) ?_
          exact cj_L_law_192 l D kI kC kB a h108 x109 v3 r104 r107 y110 hA C hAf hX hbl hL _ ih hw H locs hP hD hS ls (lv_sub hl [5, 6, 8, 2, 1, 0] rfl)
        · replace hw := hw.2 hc0
          by_cases hc1 : y111 = 1
          · replace hw := hw.1 hc1
            refine lv_tableIn (tgt := 192) (off := 67) hx hb dL_law_125 (by rw [hc1]; decide) (by rw [hc1]; decide) (by rw [hc1]; rfl) (by decide) ?_
            exact cj_L_law_192 l D kI kC kB a h108 x109 v3 r104 r107 y110 hA C hAf hX hbl hL _ ih hw H locs hP hD hS ls (lv_sub hl [5, 6, 8, 2, 1, 0] rfl)
          · replace hw := hw.2 hc1
            by_cases hc2 : y111 = 2
            · replace hw := hw.1 hc2
              refine lv_tableIn (tgt := 192) (off := 67) hx hb dL_law_125 (by rw [hc2]; decide) (by rw [hc2]; decide) (by rw [hc2]; rfl) (by decide) ?_
              exact cj_L_law_192 l D kI kC kB a h108 x109 v3 r104 r107 y110 hA C hAf hX hbl hL _ ih hw H locs hP hD hS ls (lv_sub hl [5, 6, 8, 2, 1, 0] rfl)
            · replace hw := hw.2 hc2
              by_cases hc3 : y111 = 3
              · replace hw := hw.1 hc3
                refine lv_tableIn (tgt := 192) (off := 67) hx hb dL_law_125 (by rw [hc3]; decide) (by rw [hc3]; decide) (by rw [hc3]; rfl) (by decide) ?_
                exact cj_L_law_192 l D kI kC kB a h108 x109 v3 r104 r107 y110 hA C hAf hX hbl hL _ ih hw H locs hP hD hS ls (lv_sub hl [5, 6, 8, 2, 1, 0] rfl)
              · replace hw := hw.2 hc3
                by_cases hc4 : y111 = 4
                · replace hw := hw.1 hc4
                  refine lv_tableIn (tgt := 192) (off := 67) hx hb dL_law_125 (by rw [hc4]; decide) (by rw [hc4]; decide) (by rw [hc4]; rfl) (by decide) ?_
                  exact cj_L_law_192 l D kI kC kB a h108 x109 v3 r104 r107 y110 hA C hAf hX hbl hL _ ih hw H locs hP hD hS ls (lv_sub hl [5, 6, 8, 2, 1, 0] rfl)
                · replace hw := hw.2 hc4
                  by_cases hc5 : y111 = 5
                  · replace hw := hw.1 hc5
                    refine lv_tableIn (tgt := 265) (off := 140) hx hb dL_law_125 (by rw [hc5]; decide) (by rw [hc5]; decide) (by rw [hc5]; rfl) (by decide) ?_
                    exact cj_L_law_265 l D kI kC kB a h108 x109 v3 y103 r104 r107 y110 hA C hAf hX hbl hL _ ih hw H locs hP hD hS ls (lv_sub hl [5, 6, 8, 3, 2, 1, 0] rfl)
                  · replace hw := hw.2 hc5
                    by_cases hc6 : y111 = 6
                    · replace hw := hw.1 hc6
                      refine lv_tableIn (tgt := 265) (off := 140) hx hb dL_law_125 (by rw [hc6]; decide) (by rw [hc6]; decide) (by rw [hc6]; rfl) (by decide) ?_
                      exact cj_L_law_265 l D kI kC kB a h108 x109 v3 y103 r104 r107 y110 hA C hAf hX hbl hL _ ih hw H locs hP hD hS ls (lv_sub hl [5, 6, 8, 3, 2, 1, 0] rfl)
                    · replace hw := hw.2 hc6
                      by_cases hc7 : y111 = 7
                      · replace hw := hw.1 hc7
                        refine lv_tableIn (tgt := 356) (off := 231) hx hb dL_law_125 (by rw [hc7]; decide) (by rw [hc7]; decide) (by rw [hc7]; rfl) (by decide) ?_
                        refine lv_iload hx hb dL_law_356 (lv_at hl 3 rfl) ?_
                        refine lv_bipush (v := (nI 8)) hx hb dL_law_358 (by decide) ?_
                        refine lv_irem hx hb dL_law_360 (by decide) ?_
                        refine lv_topi (fun y112 ey112 => ?_)
                        replace hw := hw y112 ey112
                        refine lv_istore (lv' := [(11, .int y112), (8, .int y110), (7, .int r107), (6, .int r104), (5, .int y103), (4, .int (nI c102)), (0, .ref b), (1, .ref (a 0)), (2, .int v2), (3, .int v3)]) hx hb dL_law_361 hl (by decide) rfl (fun ls hl => ?_)
                        refine lv_aload_n hx hb dL_law_363 rfl (lv_at hl 7 rfl) ?_
                        refine lv_iload hx hb dL_law_364 (lv_at hl 0 rfl) ?_
                        refine lv_iconst (v := (nI 2)) hx hb dL_law_366 (by decide) ?_
                        refine kRB (As := [.int y112, .int (nI 2)]) (rest := []) (q0 := 0) C (c_X8_quire l D kI kC kB a h108 x109.1 x109.2.1 x109.2.2.1 x109.2.2.2.1 x109.2.2.2.2.1 x109.2.2.2.2.2.1 x109.2.2.2.2.2.2.1 x109.2.2.2.2.2.2.2.1 x109.2.2.2.2.2.2.2.2.1 x109.2.2.2.2.2.2.2.2.2.1 x109.2.2.2.2.2.2.2.2.2.2.1 x109.2.2.2.2.2.2.2.2.2.2.2.1 x109.2.2.2.2.2.2.2.2.2.2.2.2.1 x109.2.2.2.2.2.2.2.2.2.2.2.2.2.1 x109.2.2.2.2.2.2.2.2.2.2.2.2.2.2.1 x109.2.2.2.2.2.2.2.2.2.2.2.2.2.2.2.1 x109.2.2.2.2.2.2.2.2.2.2.2.2.2.2.2.2.1 x109.2.2.2.2.2.2.2.2.2.2.2.2.2.2.2.2.2.1 x109.2.2.2.2.2.2.2.2.2.2.2.2.2.2.2.2.2.2.1 x109.2.2.2.2.2.2.2.2.2.2.2.2.2.2.2.2.2.2.2.1 x109.2.2.2.2.2.2.2.2.2.2.2.2.2.2.2.2.2.2.2.2.1 x109.2.2.2.2.2.2.2.2.2.2.2.2.2.2.2.2.2.2.2.2.2.1 x109.2.2.2.2.2.2.2.2.2.2.2.2.2.2.2.2.2.2.2.2.2.2 y112 (nI 2) _ hw) ⟨rfl, rfl⟩ ce_X8_quire cv_X8_quire tw_488 ⟨(Nat.le_of_ble_eq_true rfl), (Nat.le_of_ble_eq_true rfl)⟩ hP (bfl_p1 [_] 0 rfl) rfl rfl rfl hl.1 rfl (Nat.le_of_ble_eq_true rfl) ⟨(Nat.le_of_ble_eq_true rfl), (Nat.le_of_ble_eq_true rfl)⟩ dL_law_367 (fun r113 hw => ?_)
                        refine lv_istore (lv' := [(12, .int r113), (11, .int y112), (8, .int y110), (7, .int r107), (6, .int r104), (5, .int y103), (4, .int (nI c102)), (0, .ref b), (1, .ref (a 0)), (2, .int v2), (3, .int v3)]) hx hb dL_law_370 hl (by decide) rfl (fun ls hl => ?_)
                        refine lv_aload_n hx hb dL_law_372 rfl (lv_at hl 8 rfl) ?_
                        refine lv_iload hx hb dL_law_373 (lv_at hl 1 rfl) ?_
                        refine kMBi (As := [.int y112]) (rest := []) (q0 := 0) (ws' := fun u : (Nat → AdT) × XS => (bfl [cwX kI kB a u.1 u.2])) C (cx_remove l D kI kC kB a h108 x109 H.size y112 _ hw) ⟨rfl, rfl⟩ ce_X8_remove cv_X8_remove tw_399 ⟨(Nat.le_of_ble_eq_true rfl), (Nat.le_of_ble_eq_true rfl)⟩ hP hD hS hA (bfl_p1 [_] 0 rfl) (fun u => (bfl_p1 [_] 0 rfl)) rfl rfl rfl hl.1 rfl (Nat.le_of_ble_eq_true rfl) ⟨(Nat.le_of_ble_eq_true rfl), (Nat.le_of_ble_eq_true rfl)⟩ dL_law_375 (fun r114 u H locs hw hP hD hS => ?_)
                        obtain ⟨h115, x116⟩ := u
                        try dsimp only at hw
                        replace hP : va_P D vwCl (bfl [cwX kI kB a h115 x116]) H := hP
                        replace hD : va_D A (bfl [cwX kI kB a h115 x116]) := hD
                        refine lv_iload hx hb dL_law_378 (lv_at hl 1 rfl) ?_
                        refine lv_iload hx hb dL_law_380 (lv_at hl 4 rfl) ?_
                        refine lv_icmp_ge (tgt := 393) hx hb dL_law_382 (by decide) (fun hc => ?_) (fun hc => ?_)
                        · replace hw := hw.1 hc
                          refine lv_iconst (v := (-1)) hx hb dL_law_393 (by decide) ?_
                          exact cj_L_law_394 l D kI kC kB a h115 x116 v3 hA C hAf hX hbl hL _ ih r114 (-1) hw H locs hP hD hS ls (lv_sub hl [7, 8, 10] rfl)
                        · replace hw := hw.2 hc
                          refine lv_iload hx hb dL_law_385 (lv_at hl 3 rfl) ?_
                          refine lv_iload hx hb dL_law_387 (lv_at hl 0 rfl) ?_
                          refine lv_isub hx hb dL_law_389 ?_
                          refine lv_goto (tgt := 394) hx hb dL_law_390 (by decide) ?_
                          exact cj_L_law_394 l D kI kC kB a h115 x116 v3 hA C hAf hX hbl hL _ ih r114 (r107 - r113) hw H locs hP hD hS ls (lv_sub hl [7, 8, 10] rfl)
                      · replace hw := hw.2 hc7
                        by_cases hc8 : y111 = 8
                        · replace hw := hw.1 hc8
                          refine lv_tableIn (tgt := 406) (off := 281) hx hb dL_law_125 (by rw [hc8]; decide) (by rw [hc8]; decide) (by rw [hc8]; rfl) (by decide) ?_
                          exact cj_L_law_406 l D kI kC kB a h108 x109 v3 y103 r107 hA C hAf hX hbl hL _ ih hw H locs hP hD hS ls (lv_sub hl [5, 6, 8, 3, 1] rfl)
                        · replace hw := hw.2 hc8
                          by_cases hc9 : y111 = 9
                          · replace hw := hw.1 hc9
                            refine lv_tableIn (tgt := 406) (off := 281) hx hb dL_law_125 (by rw [hc9]; decide) (by rw [hc9]; decide) (by rw [hc9]; rfl) (by decide) ?_
                            exact cj_L_law_406 l D kI kC kB a h108 x109 v3 y103 r107 hA C hAf hX hbl hL _ ih hw H locs hP hD hS ls (lv_sub hl [5, 6, 8, 3, 1] rfl)
                          · replace hw := hw.2 hc9
                            by_cases hc10 : y111 = 10
                            · replace hw := hw.1 hc10
                              refine lv_tableIn (tgt := 406) (off := 281) hx hb dL_law_125 (by rw [hc10]; decide) (by rw [hc10]; decide) (by rw [hc10]; rfl) (by decide) ?_
                              exact cj_L_law_406 l D kI kC kB a h108 x109 v3 y103 r107 hA C hAf hX hbl hL _ ih hw H locs hP hD hS ls (lv_sub hl [5, 6, 8, 3, 1] rfl)
                            · replace hw := hw.2 hc10
                              by_cases hc11 : y111 = 11
                              · replace hw := hw.1 hc11
                                refine lv_tableIn (tgt := 540) (off := 415) hx hb dL_law_125 (by rw [hc11]; decide) (by rw [hc11]; decide) (by rw [hc11]; rfl) (by decide) ?_
                                refine lv_iload hx hb dL_law_540 (lv_at hl 3 rfl) ?_
                                refine lv_iconst (v := (nI 3)) hx hb dL_law_542 (by decide) ?_
                                refine lv_irem hx hb dL_law_543 (by decide) ?_
                                refine lv_topi (fun y117 ey117 => ?_)
                                replace hw := hw y117 ey117
                                refine lv_istore (lv' := [(17, .int y117), (8, .int y110), (7, .int r107), (6, .int r104), (5, .int y103), (4, .int (nI c102)), (0, .ref b), (1, .ref (a 0)), (2, .int v2), (3, .int v3)]) hx hb dL_law_544 hl (by decide) rfl (fun ls hl => ?_)
                                refine lv_aload_n hx hb dL_law_546 rfl (lv_at hl 7 rfl) ?_
                                refine lv_bipush (v := (nI 10)) hx hb dL_law_547 (by decide) ?_
                                refine kMBi (As := [.int (nI 10)]) (rest := []) (q0 := 0) (ws' := fun u : (Nat → AdT) × XS => (bfl [cwX kI kB a u.1 u.2])) C (cx_count l D kI kC kB a h108 x109 H.size (nI 10) _ hw) ⟨rfl, rfl⟩ ce_X8_count cv_X8_count tw_597 ⟨(Nat.le_of_ble_eq_true rfl), (Nat.le_of_ble_eq_true rfl)⟩ hP hD hS hA (bfl_p1 [_] 0 rfl) (fun u => (bfl_p1 [_] 0 rfl)) rfl rfl rfl hl.1 rfl (Nat.le_of_ble_eq_true rfl) ⟨(Nat.le_of_ble_eq_true rfl), (Nat.le_of_ble_eq_true rfl)⟩ dL_law_549 (fun r118 u H locs hw hP hD hS => ?_)
                                obtain ⟨h119, x120⟩ := u
                                try dsimp only at hw
                                replace hP : va_P D vwCl (bfl [cwX kI kB a h119 x120]) H := hP
                                replace hD : va_D A (bfl [cwX kI kB a h119 x120]) := hD
                                refine lv_istore (lv' := [(18, .int r118), (17, .int y117), (8, .int y110), (7, .int r107), (6, .int r104), (5, .int y103), (4, .int (nI c102)), (0, .ref b), (1, .ref (a 0)), (2, .int v2), (3, .int v3)]) hx hb dL_law_552 hl (by decide) rfl (fun ls hl => ?_)
                                refine lv_aload_n hx hb dL_law_554 rfl (lv_at hl 8 rfl) ?_
                                refine lv_iload hx hb dL_law_555 (lv_at hl 1 rfl) ?_
                                refine kMBi (As := [.int y117]) (rest := []) (q0 := 0) (ws' := fun u : (Nat → AdT) × XS => (bfl [cwX kI kB a u.1 u.2])) C (cx_setSigning l D kI kC kB a h119 x120 H.size y117 _ hw) ⟨rfl, rfl⟩ ce_X8_setSigning cv_X8_setSigning tw_240 ⟨(Nat.le_of_ble_eq_true rfl), (Nat.le_of_ble_eq_true rfl)⟩ hP hD hS hA (bfl_p1 [_] 0 rfl) (fun u => (bfl_p1 [_] 0 rfl)) rfl rfl rfl hl.1 rfl (Nat.le_of_ble_eq_true rfl) ⟨(Nat.le_of_ble_eq_true rfl), (Nat.le_of_ble_eq_true rfl)⟩ dL_law_557 (fun r121 u H locs hw hP hD hS => ?_)
                                obtain ⟨h122, x123⟩ := u
                                try dsimp only at hw
                                replace hP : va_P D vwCl (bfl [cwX kI kB a h122 x123]) H := hP
                                replace hD : va_D A (bfl [cwX kI kB a h122 x123]) := hD
                                refine lv_istore (lv' := [(19, .int r121), (18, .int r118), (17, .int y117), (8, .int y110), (7, .int r107), (6, .int r104), (5, .int y103), (4, .int (nI c102)), (0, .ref b), (1, .ref (a 0)), (2, .int v2), (3, .int v3)]) hx hb dL_law_560 hl (by decide) rfl (fun ls hl => ?_)
                                refine lv_iload hx hb dL_law_562 (lv_at hl 0 rfl) ?_
                                refine lv_iload hx hb dL_law_564 (lv_at hl 1 rfl) ?_
                                refine lv_iload hx hb dL_law_566 (lv_at hl 2 rfl) ?_
                                refine lv_icmp_ne (tgt := 576) hx hb dL_law_568 (by decide) (fun hc => ?_) (fun hc => ?_)
                                · replace hw := hw.2 hc
                                  refine lv_aload_n hx hb dL_law_576 rfl (lv_at hl 9 rfl) ?_
                                  refine lv_iconst (v := (nI 3)) hx hb dL_law_577 (by decide) ?_
                                  refine kMBi (As := [.int (nI 3)]) (rest := [.int r121]) (q0 := 0) (ws' := fun u : (Nat → AdT) × XS => (bfl [cwX kI kB a u.1 u.2])) C (cx_count l D kI kC kB a h122 x123 H.size (nI 3) _ hw) ⟨rfl, rfl⟩ ce_X8_count cv_X8_count tw_597 ⟨(Nat.le_of_ble_eq_true rfl), (Nat.le_of_ble_eq_true rfl)⟩ hP hD hS hA (bfl_p1 [_] 0 rfl) (fun u => (bfl_p1 [_] 0 rfl)) rfl rfl rfl hl.1 rfl (Nat.le_of_ble_eq_true rfl) ⟨(Nat.le_of_ble_eq_true rfl), (Nat.le_of_ble_eq_true rfl)⟩ dL_law_578 (fun r124 u H locs hw hP hD hS => ?_)
                                  obtain ⟨h125, x126⟩ := u
                                  try dsimp only at hw
                                  replace hP : va_P D vwCl (bfl [cwX kI kB a h125 x126]) H := hP
                                  replace hD : va_D A (bfl [cwX kI kB a h125 x126]) := hD
                                  exact cj_L_law_581 l D kI kC kB a h125 x126 v3 y117 hA C hAf hX hbl hL _ ih r121 r124 hw H locs hP hD hS ls (lv_sub hl [8, 9, 11, 2] rfl)
                                · replace hw := hw.1 hc
                                  refine lv_bipush (v := (-5)) hx hb dL_law_571 (by decide) ?_
                                  refine lv_goto (tgt := 581) hx hb dL_law_573 (by decide) ?_
                                  exact cj_L_law_581 l D kI kC kB a h122 x123 v3 y117 hA C hAf hX hbl hL _ ih r121 (-5) hw H locs hP hD hS ls (lv_sub hl [8, 9, 11, 2] rfl)
                              · replace hw := hw.2 hc11
                                by_cases hc12 : y111 = 12
                                · replace hw := hw.1 hc12
                                  refine lv_tableIn (tgt := 604) (off := 479) hx hb dL_law_125 (by rw [hc12]; decide) (by rw [hc12]; decide) (by rw [hc12]; rfl) (by decide) ?_
                                  refine lv_bipush (v := (nI 65)) hx hb dL_law_604 (by decide) ?_
                                  refine lv_iload hx hb dL_law_606 (lv_at hl 3 rfl) ?_
                                  refine lv_bipush (v := (nI 26)) hx hb dL_law_608 (by decide) ?_
                                  refine lv_irem hx hb dL_law_610 (by decide) ?_
                                  refine lv_iadd hx hb dL_law_611 ?_
                                  refine lv_i2c (v := cI ((nI 65) + (y103 - y103 / (nI 26) * (nI 26)))) hx hb dL_law_612 rfl ?_
                                  refine lv_topi (fun y127 ey127 => ?_)
                                  replace hw := hw y127 ey127
                                  refine lv_istore (lv' := [(20, .int y127), (8, .int y110), (7, .int r107), (6, .int r104), (5, .int y103), (4, .int (nI c102)), (0, .ref b), (1, .ref (a 0)), (2, .int v2), (3, .int v3)]) hx hb dL_law_613 hl (by decide) rfl (fun ls hl => ?_)
                                  refine lv_aload_n hx hb dL_law_615 rfl (lv_at hl 7 rfl) ?_
                                  refine lv_iconst (v := (nI 4)) hx hb dL_law_616 (by decide) ?_
                                  refine kMBi (As := [.int (nI 4)]) (rest := []) (q0 := 0) (ws' := fun u : (Nat → AdT) × XS => (bfl [cwX kI kB a u.1 u.2])) C (cx_count l D kI kC kB a h108 x109 H.size (nI 4) _ hw) ⟨rfl, rfl⟩ ce_X8_count cv_X8_count tw_597 ⟨(Nat.le_of_ble_eq_true rfl), (Nat.le_of_ble_eq_true rfl)⟩ hP hD hS hA (bfl_p1 [_] 0 rfl) (fun u => (bfl_p1 [_] 0 rfl)) rfl rfl rfl hl.1 rfl (Nat.le_of_ble_eq_true rfl) ⟨(Nat.le_of_ble_eq_true rfl), (Nat.le_of_ble_eq_true rfl)⟩ dL_law_617 (fun r128 u H locs hw hP hD hS => ?_)
                                  obtain ⟨h129, x130⟩ := u
                                  try dsimp only at hw
                                  replace hP : va_P D vwCl (bfl [cwX kI kB a h129 x130]) H := hP
                                  replace hD : va_D A (bfl [cwX kI kB a h129 x130]) := hD
                                  refine lv_istore (lv' := [(21, .int r128), (20, .int y127), (8, .int y110), (7, .int r107), (6, .int r104), (5, .int y103), (4, .int (nI c102)), (0, .ref b), (1, .ref (a 0)), (2, .int v2), (3, .int v3)]) hx hb dL_law_620 hl (by decide) rfl (fun ls hl => ?_)
                                  refine lv_iload hx hb dL_law_622 (lv_at hl 5 rfl) ?_
                                  refine lv_bipush (v := (nI 32)) hx hb dL_law_624 (by decide) ?_
                                  refine lv_idiv hx hb dL_law_626 (by decide) ?_
                                  refine lv_iconst (v := (nI 2)) hx hb dL_law_627 (by decide) ?_
                                  refine lv_irem hx hb dL_law_628 (by decide) ?_
                                  refine lv_if_ne (tgt := 636) hx hb dL_law_629 (by decide) (fun hc => ?_) (fun hc => ?_)
                                  · replace hw := hw.2 hc
                                    refine lv_iconst (v := (nI 0)) hx hb dL_law_636 (by decide) ?_
                                    exact cj_L_law_637 l D kI kC kB a h129 x130 v3 y127 r128 hA C hAf hX hbl hL _ ih (nI 0) hw H locs hP hD hS ls (lv_sub hl [7, 8, 10, 1, 0] rfl)
                                  · replace hw := hw.1 hc
                                    refine lv_iconst (v := (nI 1)) hx hb dL_law_632 (by decide) ?_
                                    refine lv_goto (tgt := 637) hx hb dL_law_633 (by decide) ?_
                                    exact cj_L_law_637 l D kI kC kB a h129 x130 v3 y127 r128 hA C hAf hX hbl hL _ ih (nI 1) hw H locs hP hD hS ls (lv_sub hl [7, 8, 10, 1, 0] rfl)
                                · replace hw := hw.2 hc12
                                  refine lv_tableOut (tgt := 696) hx hb dL_law_125 (by have := lv_neT hc0 (a := 0) (by decide); have := lv_neT hc1 (a := 1) (by decide); have := lv_neT hc2 (a := 2) (by decide); have := lv_neT hc3 (a := 3) (by decide); have := lv_neT hc4 (a := 4) (by decide); have := lv_neT hc5 (a := 5) (by decide); have := lv_neT hc6 (a := 6) (by decide); have := lv_neT hc7 (a := 7) (by decide); have := lv_neT hc8 (a := 8) (by decide); have := lv_neT hc9 (a := 9) (by decide); have := lv_neT hc10 (a := 10) (by decide); have := lv_neT hc11 (a := 11) (by decide); have := lv_neT hc12 (a := 12) (by decide); omega) (by decide) ?_
                                  refine lv_aload_n hx hb dL_law_696 rfl (lv_at hl 6 rfl) ?_
                                  refine kMBi (As := []) (rest := []) (q0 := 0) (ws' := fun u : (Nat → AdT) × XS => (bfl [cwX kI kB a u.1 u.2])) C (cx_clearText l D kI kC kB a h108 x109 H.size  _ hw) ⟨rfl, rfl⟩ ce_X8_clearText cv_X8_clearText tw_463 ⟨(Nat.le_of_ble_eq_true rfl), (Nat.le_of_ble_eq_true rfl)⟩ hP hD hS hA (bfl_p1 [_] 0 rfl) (fun u => (bfl_p1 [_] 0 rfl)) rfl rfl rfl hl.1 rfl (Nat.le_of_ble_eq_true rfl) ⟨(Nat.le_of_ble_eq_true rfl), (Nat.le_of_ble_eq_true rfl)⟩ dL_law_697 (fun r131 u H locs hw hP hD hS => ?_)
                                  obtain ⟨h132, x133⟩ := u
                                  try dsimp only at hw
                                  replace hP : va_P D vwCl (bfl [cwX kI kB a h132 x133]) H := hP
                                  replace hD : va_D A (bfl [cwX kI kB a h132 x133]) := hD
                                  refine lv_if_lt (tgt := 707) hx hb dL_law_700 (by decide) (fun hc => ?_) (fun hc => ?_)
                                  · replace hw := hw.1 hc
                                    refine lv_iconst (v := (nI 0)) hx hb dL_law_707 (by decide) ?_
                                    exact cj_L_law_708 l D kI kC kB a h132 x133 v3 y103 r104 hA C hAf hX hbl hL _ ih (nI 0) hw H locs hP hD hS ls (lv_sub hl [5, 6, 8, 3, 2] rfl)
                                  · replace hw := hw.2 hc
                                    refine lv_iconst (v := (nI 1)) hx hb dL_law_703 (by decide) ?_
                                    refine lv_goto (tgt := 708) hx hb dL_law_704 (by decide) ?_
                                    exact cj_L_law_708 l D kI kC kB a h132 x133 v3 y103 r104 hA C hAf hX hbl hL _ ih (nI 1) hw H locs hP hD hS ls (lv_sub hl [5, 6, 8, 3, 2] rfl)
set_option maxHeartbeats 4000000 in
set_option maxRecDepth 100000 in
theorem law_entry (l : Launch) (D : va_G) (kI kC kB : ClassId) {p : Program} {e : Env} {s : State} {m : MethodId} {below : List Frame} {meth : Method} {c : Code} {b L : Nat} {xs : Nat → Int32} {A : Nat → Prop} (hA : ∀ q : Nat, s.heap.size ≤ q → A q) (C : CtxT p s m #[Value.ref b] meth c code 28 ret "QuireSignsLaw" D kI kC kB) (hAf : ∀ q : Nat, A q → s.heap.size ≤ q) (hX : va_X b L xs s s.heap) (hbl : b < s.heap.size) (hL : L ≤ 260) (hw : wp_L_law) : ∀ (H : Heap) (locs : List Loc), va_P D vwCl ([] : va_W) H → va_D A ([] : va_W) → va_S A s.heap H locs → ∀ (ls : Array Slot), lv_has ls 28 [(0, .ref b)] → W p l e room_1 s m #[Value.ref b] below meth c H locs 0 0 (lw_Z below #[Value.ref b] s) (F0 m 0 ls []) := by
  obtain ⟨hx, hb, hr, hml, hown, hts, hlocks, hK⟩ := id C
  have hbA : ¬ A b := fun q => Nat.not_le.mpr hbl (hAf b q)
  intro H locs hP hD hS ls hl
  unfold wp_L_law at hw
  refine va_new (ci := 6) (fs := [.null, .null, .int 0, .null, .null, .null, .null]) (C := RX8) (T := TX8) (N := 7) hx hb hts inX8 tyX8 tyX8_ok hown (hts _ tw_28) (hts _ tw_29) (hts _ tw_17) hK.1 hP hD hS hA rfl (fun j hj => by rcases (show j = 0 ∨ j = 1 ∨ j = 2 ∨ j = 3 ∨ j = 4 ∨ j = 5 ∨ j = 6 by omega) with rfl | rfl | rfl | rfl | rfl | rfl | rfl <;> rfl) (Nat.le_of_ble_eq_true rfl) (Nat.le_of_ble_eq_true rfl) dL_law_0 (fun q1 H hP hD hS => ?_)
  refine lv_dup hx hb dL_law_3 rfl ?_
  refine kMI (wr := []) (As := []) (rest := [.ref q1]) C (c_X8_init l D kI kC kB q1 H.size) ⟨rfl, rfl⟩ ce_X8_init tw_31 rfl tw_30 ⟨(Nat.le_of_ble_eq_true rfl), (Nat.le_of_ble_eq_true rfl)⟩ hP hD hS hA hl.1 rfl (Nat.le_of_ble_eq_true rfl) ⟨(Nat.le_of_ble_eq_true rfl), (Nat.le_of_ble_eq_true rfl)⟩ dL_law_4 (fun a1 H locs h1 hP2 hD2 hS2 => ?_)
  subst h1
  have hP := hP2
  have hD := hD2
  have hS := hS2
  clear hP2 hD2 hS2
  obtain ⟨a, h_⟩ := a1
  replace hP : va_P D vwCl (bfl [cwX kI kB a h_ x00]) H := hP
  replace hD : va_D A (bfl [cwX kI kB a h_ x00]) := hD
  refine W.widen (k := 78) (n := 1376) (Nat.le_of_ble_eq_true rfl) (Nat.le_of_ble_eq_true rfl) ?_
  refine lv_astore_n (lv' := [(1, .ref (a 0)), (0, .ref b)]) hx hb dL_law_7 rfl hl (by decide) rfl (fun ls hl => ?_)
  refine lv_aload_n hx hb dL_law_8 rfl (lv_at hl 0 rfl) ?_
  refine kMBi (As := []) (rest := []) (q0 := 0) (ws' := fun u : (Nat → AdT) × XS => (bfl [cwX kI kB a u.1 u.2])) C (cx_undo l D kI kC kB a h_ x00 H.size  _ hw) ⟨rfl, rfl⟩ ce_X8_undo cv_X8_undo tw_471 ⟨(Nat.le_of_ble_eq_true rfl), (Nat.le_of_ble_eq_true rfl)⟩ hP hD hS hA (bfl_p1 [_] 0 rfl) (fun u => (bfl_p1 [_] 0 rfl)) rfl rfl rfl hl.1 rfl (Nat.le_of_ble_eq_true rfl) ⟨(Nat.le_of_ble_eq_true rfl), (Nat.le_of_ble_eq_true rfl)⟩ dL_law_9 (fun r134 u H locs hw hP hD hS => ?_)
  obtain ⟨h135, x136⟩ := u
  try dsimp only at hw
  replace hP : va_P D vwCl (bfl [cwX kI kB a h135 x136]) H := hP
  replace hD : va_D A (bfl [cwX kI kB a h135 x136]) := hD
  refine lv_bipush (v := (-5)) hx hb dL_law_12 (by decide) ?_
  refine lv_icmp_ne (tgt := 67) hx hb dL_law_14 (by decide) (fun hc => ?_) (fun hc => ?_)
  · replace hw := hw.2 hc
    refine lv_iconst (v := (nI 0)) hx hb dL_law_67 (by decide) ?_
    refine lv_istore_n (lv' := [(2, .int (nI 0)), (1, .ref (a 0)), (0, .ref b)]) hx hb dL_law_68 rfl hl (by decide) rfl (fun ls hl => ?_)
    refine lv_iconst (v := (nI 0)) hx hb dL_law_69 (by decide) ?_
    refine lv_istore_n (lv' := [(3, .int (nI 0)), (2, .int (nI 0)), (1, .ref (a 0)), (0, .ref b)]) hx hb dL_law_70 rfl hl (by decide) rfl (fun ls hl => ?_)
    obtain ⟨n9, hw⟩ := hw
    exact cl_L_law_71 l D kI kC kB a hA C hAf hX hbl hL n9 h135 x136 (nI 0) (nI 0) hw H locs hP hD hS ls (lv_sub hl [3, 2, 1, 0] rfl)
  · replace hw := hw.1 hc
    refine lv_aload_n hx hb dL_law_17 rfl (lv_at hl 0 rfl) ?_
    refine kMBi (As := []) (rest := []) (q0 := 0) (ws' := fun u : (Nat → AdT) × XS => (bfl [cwX kI kB a u.1 u.2])) C (cx_restore l D kI kC kB a h135 x136 H.size  _ hw) ⟨rfl, rfl⟩ ce_X8_restore cv_X8_restore tw_483 ⟨(Nat.le_of_ble_eq_true rfl), (Nat.le_of_ble_eq_true rfl)⟩ hP hD hS hA (bfl_p1 [_] 0 rfl) (fun u => (bfl_p1 [_] 0 rfl)) rfl rfl rfl hl.1 rfl (Nat.le_of_ble_eq_true rfl) ⟨(Nat.le_of_ble_eq_true rfl), (Nat.le_of_ble_eq_true rfl)⟩ dL_law_18 (fun r137 u H locs hw hP hD hS => ?_)
    obtain ⟨h138, x139⟩ := u
    try dsimp only at hw
    replace hP : va_P D vwCl (bfl [cwX kI kB a h138 x139]) H := hP
    replace hD : va_D A (bfl [cwX kI kB a h138 x139]) := hD
    refine lv_bipush (v := (-5)) hx hb dL_law_21 (by decide) ?_
    refine lv_icmp_ne (tgt := 67) hx hb dL_law_23 (by decide) (fun hc => ?_) (fun hc => ?_)
    · replace hw := hw.2 hc
      refine lv_iconst (v := (nI 0)) hx hb dL_law_67 (by decide) ?_
      refine lv_istore_n (lv' := [(2, .int (nI 0)), (1, .ref (a 0)), (0, .ref b)]) hx hb dL_law_68 rfl hl (by decide) rfl (fun ls hl => ?_)
      refine lv_iconst (v := (nI 0)) hx hb dL_law_69 (by decide) ?_
      refine lv_istore_n (lv' := [(3, .int (nI 0)), (2, .int (nI 0)), (1, .ref (a 0)), (0, .ref b)]) hx hb dL_law_70 rfl hl (by decide) rfl (fun ls hl => ?_)
      obtain ⟨n9, hw⟩ := hw
      exact cl_L_law_71 l D kI kC kB a hA C hAf hX hbl hL n9 h138 x139 (nI 0) (nI 0) hw H locs hP hD hS ls (lv_sub hl [3, 2, 1, 0] rfl)
    · replace hw := hw.1 hc
      refine lv_aload_n hx hb dL_law_26 rfl (lv_at hl 0 rfl) ?_
      refine lv_iconst (v := (nI 4)) hx hb dL_law_27 (by decide) ?_
      refine kMBi (As := [.int (nI 4)]) (rest := []) (q0 := 0) (ws' := fun u : (Nat → AdT) × XS => (bfl [cwX kI kB a u.1 u.2])) C (cx_count l D kI kC kB a h138 x139 H.size (nI 4) _ hw) ⟨rfl, rfl⟩ ce_X8_count cv_X8_count tw_597 ⟨(Nat.le_of_ble_eq_true rfl), (Nat.le_of_ble_eq_true rfl)⟩ hP hD hS hA (bfl_p1 [_] 0 rfl) (fun u => (bfl_p1 [_] 0 rfl)) rfl rfl rfl hl.1 rfl (Nat.le_of_ble_eq_true rfl) ⟨(Nat.le_of_ble_eq_true rfl), (Nat.le_of_ble_eq_true rfl)⟩ dL_law_28 (fun r140 u H locs hw hP hD hS => ?_)
      obtain ⟨h141, x142⟩ := u
      try dsimp only at hw
      replace hP : va_P D vwCl (bfl [cwX kI kB a h141 x142]) H := hP
      replace hD : va_D A (bfl [cwX kI kB a h141 x142]) := hD
      refine lv_bipush (v := (nI 23)) hx hb dL_law_31 (by decide) ?_
      refine lv_icmp_ne (tgt := 67) hx hb dL_law_33 (by decide) (fun hc => ?_) (fun hc => ?_)
      · replace hw := hw.2 hc
        refine lv_iconst (v := (nI 0)) hx hb dL_law_67 (by decide) ?_
        refine lv_istore_n (lv' := [(2, .int (nI 0)), (1, .ref (a 0)), (0, .ref b)]) hx hb dL_law_68 rfl hl (by decide) rfl (fun ls hl => ?_)
        refine lv_iconst (v := (nI 0)) hx hb dL_law_69 (by decide) ?_
        refine lv_istore_n (lv' := [(3, .int (nI 0)), (2, .int (nI 0)), (1, .ref (a 0)), (0, .ref b)]) hx hb dL_law_70 rfl hl (by decide) rfl (fun ls hl => ?_)
        obtain ⟨n9, hw⟩ := hw
        exact cl_L_law_71 l D kI kC kB a hA C hAf hX hbl hL n9 h141 x142 (nI 0) (nI 0) hw H locs hP hD hS ls (lv_sub hl [3, 2, 1, 0] rfl)
      · replace hw := hw.1 hc
        refine lv_aload_n hx hb dL_law_36 rfl (lv_at hl 0 rfl) ?_
        refine lv_bipush (v := (nI 7)) hx hb dL_law_37 (by decide) ?_
        refine kMBi (As := [.int (nI 7)]) (rest := []) (q0 := 0) (ws' := fun u : (Nat → AdT) × XS => (bfl [cwX kI kB a u.1 u.2])) C (cx_count l D kI kC kB a h141 x142 H.size (nI 7) _ hw) ⟨rfl, rfl⟩ ce_X8_count cv_X8_count tw_597 ⟨(Nat.le_of_ble_eq_true rfl), (Nat.le_of_ble_eq_true rfl)⟩ hP hD hS hA (bfl_p1 [_] 0 rfl) (fun u => (bfl_p1 [_] 0 rfl)) rfl rfl rfl hl.1 rfl (Nat.le_of_ble_eq_true rfl) ⟨(Nat.le_of_ble_eq_true rfl), (Nat.le_of_ble_eq_true rfl)⟩ dL_law_39 (fun r143 u H locs hw hP hD hS => ?_)
        obtain ⟨h144, x145⟩ := u
        try dsimp only at hw
        replace hP : va_P D vwCl (bfl [cwX kI kB a h144 x145]) H := hP
        replace hD : va_D A (bfl [cwX kI kB a h144 x145]) := hD
        refine lv_if_ne (tgt := 67) hx hb dL_law_42 (by decide) (fun hc => ?_) (fun hc => ?_)
        · replace hw := hw.2 hc
          refine lv_iconst (v := (nI 0)) hx hb dL_law_67 (by decide) ?_
          refine lv_istore_n (lv' := [(2, .int (nI 0)), (1, .ref (a 0)), (0, .ref b)]) hx hb dL_law_68 rfl hl (by decide) rfl (fun ls hl => ?_)
          refine lv_iconst (v := (nI 0)) hx hb dL_law_69 (by decide) ?_
          refine lv_istore_n (lv' := [(3, .int (nI 0)), (2, .int (nI 0)), (1, .ref (a 0)), (0, .ref b)]) hx hb dL_law_70 rfl hl (by decide) rfl (fun ls hl => ?_)
          obtain ⟨n9, hw⟩ := hw
          exact cl_L_law_71 l D kI kC kB a hA C hAf hX hbl hL n9 h144 x145 (nI 0) (nI 0) hw H locs hP hD hS ls (lv_sub hl [3, 2, 1, 0] rfl)
        · replace hw := hw.1 hc
          refine lv_aload_n hx hb dL_law_45 rfl (lv_at hl 0 rfl) ?_
          refine kMBi (As := []) (rest := []) (q0 := 0) (ws' := fun u : (Nat → AdT) × XS => (bfl [cwX kI kB a u.1 u.2])) C (cx_readFormula l D kI kC kB a h144 x145 H.size  _ hw) ⟨rfl, rfl⟩ ce_X8_readFormula cv_X8_readFormula tw_262 ⟨(Nat.le_of_ble_eq_true rfl), (Nat.le_of_ble_eq_true rfl)⟩ hP hD hS hA (bfl_p1 [_] 0 rfl) (fun u => (bfl_p1 [_] 0 rfl)) rfl rfl rfl hl.1 rfl (Nat.le_of_ble_eq_true rfl) ⟨(Nat.le_of_ble_eq_true rfl), (Nat.le_of_ble_eq_true rfl)⟩ dL_law_46 (fun r146 u H locs hw hP hD hS => ?_)
          obtain ⟨h147, x148⟩ := u
          try dsimp only at hw
          replace hP : va_P D vwCl (bfl [cwX kI kB a h147 x148]) H := hP
          replace hD : va_D A (bfl [cwX kI kB a h147 x148]) := hD
          refine lv_bipush (v := (-100)) hx hb dL_law_49 (by decide) ?_
          refine lv_icmp_ne (tgt := 67) hx hb dL_law_51 (by decide) (fun hc => ?_) (fun hc => ?_)
          · replace hw := hw.2 hc
            refine lv_iconst (v := (nI 0)) hx hb dL_law_67 (by decide) ?_
            refine lv_istore_n (lv' := [(2, .int (nI 0)), (1, .ref (a 0)), (0, .ref b)]) hx hb dL_law_68 rfl hl (by decide) rfl (fun ls hl => ?_)
            refine lv_iconst (v := (nI 0)) hx hb dL_law_69 (by decide) ?_
            refine lv_istore_n (lv' := [(3, .int (nI 0)), (2, .int (nI 0)), (1, .ref (a 0)), (0, .ref b)]) hx hb dL_law_70 rfl hl (by decide) rfl (fun ls hl => ?_)
            obtain ⟨n9, hw⟩ := hw
            exact cl_L_law_71 l D kI kC kB a hA C hAf hX hbl hL n9 h147 x148 (nI 0) (nI 0) hw H locs hP hD hS ls (lv_sub hl [3, 2, 1, 0] rfl)
          · replace hw := hw.1 hc
            refine lv_aload_n hx hb dL_law_54 rfl (lv_at hl 0 rfl) ?_
            refine kMBi (As := []) (rest := []) (q0 := 0) (ws' := fun u : (Nat → AdT) × XS => (bfl [cwX kI kB a u.1 u.2])) C (cx_find l D kI kC kB a h147 x148 H.size  _ hw) ⟨rfl, rfl⟩ ce_X8_find cv_X8_find tw_516 ⟨(Nat.le_of_ble_eq_true rfl), (Nat.le_of_ble_eq_true rfl)⟩ hP hD hS hA (bfl_p1 [_] 0 rfl) (fun u => (bfl_p1 [_] 0 rfl)) rfl rfl rfl hl.1 rfl (Nat.le_of_ble_eq_true rfl) ⟨(Nat.le_of_ble_eq_true rfl), (Nat.le_of_ble_eq_true rfl)⟩ dL_law_55 (fun r149 u H locs hw hP hD hS => ?_)
            obtain ⟨h150, x151⟩ := u
            try dsimp only at hw
            replace hP : va_P D vwCl (bfl [cwX kI kB a h150 x151]) H := hP
            replace hD : va_D A (bfl [cwX kI kB a h150 x151]) := hD
            refine lv_bipush (v := (-100)) hx hb dL_law_58 (by decide) ?_
            refine lv_icmp_ne (tgt := 67) hx hb dL_law_60 (by decide) (fun hc => ?_) (fun hc => ?_)
            · replace hw := hw.2 hc
              refine lv_iconst (v := (nI 0)) hx hb dL_law_67 (by decide) ?_
              refine lv_istore_n (lv' := [(2, .int (nI 0)), (1, .ref (a 0)), (0, .ref b)]) hx hb dL_law_68 rfl hl (by decide) rfl (fun ls hl => ?_)
              refine lv_iconst (v := (nI 0)) hx hb dL_law_69 (by decide) ?_
              refine lv_istore_n (lv' := [(3, .int (nI 0)), (2, .int (nI 0)), (1, .ref (a 0)), (0, .ref b)]) hx hb dL_law_70 rfl hl (by decide) rfl (fun ls hl => ?_)
              obtain ⟨n9, hw⟩ := hw
              exact cl_L_law_71 l D kI kC kB a hA C hAf hX hbl hL n9 h150 x151 (nI 0) (nI 0) hw H locs hP hD hS ls (lv_sub hl [3, 2, 1, 0] rfl)
            · replace hw := hw.1 hc
              refine lv_iconst (v := (nI 1)) hx hb dL_law_63 (by decide) ?_
              refine lv_goto (tgt := 68) hx hb dL_law_64 (by decide) ?_
              refine lv_istore_n (lv' := [(2, .int (nI 1)), (1, .ref (a 0)), (0, .ref b)]) hx hb dL_law_68 rfl hl (by decide) rfl (fun ls hl => ?_)
              refine lv_iconst (v := (nI 0)) hx hb dL_law_69 (by decide) ?_
              refine lv_istore_n (lv' := [(3, .int (nI 0)), (2, .int (nI 1)), (1, .ref (a 0)), (0, .ref b)]) hx hb dL_law_70 rfl hl (by decide) rfl (fun ls hl => ?_)
              obtain ⟨n9, hw⟩ := hw
              exact cl_L_law_71 l D kI kC kB a hA C hAf hX hbl hL n9 h150 x151 (nI 1) (nI 0) hw H locs hP hD hS ls (lv_sub hl [3, 2, 1, 0] rfl)
