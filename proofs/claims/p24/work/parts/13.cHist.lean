/-! contracts, printed (gen.py) -/
theorem ce_X2_states : CE yX2_states cX2_states 1 (some .int) 0 := ⟨tw_478, tw_22, ⟨by decide, by decide⟩, ce_par (by decide +kernel)⟩
theorem cv_X2_states : CV yX2_states := ⟨tw_476, tw_477⟩
theorem ce_X2_record : CE yX2_record cX2_record 3 none 1 := ⟨tw_204, tw_22, ⟨by decide, by decide⟩, ce_par (by decide +kernel)⟩
theorem cv_X2_record : CV yX2_record := ⟨tw_202, tw_203⟩
theorem ce_X2_takeBack : CE yX2_takeBack cX2_takeBack 3 none 1 := ⟨tw_482, tw_22, ⟨by decide, by decide⟩, ce_par (by decide +kernel)⟩
theorem cv_X2_takeBack : CV yX2_takeBack := ⟨tw_480, tw_481⟩
theorem ce_X2_bookAt : CE yX2_bookAt cX2_bookAt 2 (some (.object "QuireSigns$Book")) 1 := ⟨tw_212, tw_22, ⟨by decide, by decide⟩, ce_par (by decide +kernel)⟩
theorem cv_X2_bookAt : CV yX2_bookAt := ⟨tw_211, tw_1⟩
theorem ce_X2_dropOldest : CE yX2_dropOldest cX2_dropOldest 3 none 0 := ⟨tw_208, tw_22, ⟨by decide, by decide⟩, ce_par (by decide +kernel)⟩
theorem cv_X2_dropOldest : CV yX2_dropOldest := ⟨tw_207, tw_0⟩
set_option maxHeartbeats 4000000 in
set_option maxRecDepth 100000 in
theorem c_X2_states (l : Launch) (D : va_G) (kI kC kB : ClassId) (a : AdT) (h_ : Nat → AdT) (z_ : HistT) (Post : Int32 → Prop) (hw : wp_X2_states z_ Post) : CR l D kI kC kB yX2_states cX2_states 1 (some .int) ({ frames := 0, cells := 0, slots := 0, locals := 0 } : Room) [.ref (a 0)] (cwHist kI kB a h_ z_) Post := by
  refine entR (by decide) (Nat.le_of_ble_eq_true rfl) ?_
  intro p e s m args below meth c ls C hP hl
  replace hl : lv_has ls 1 [(0, .ref (a 0))] := hl
  obtain ⟨hx, hb, hr, hml, hown, hts, hlocks, hK⟩ := id C
  refine lv_aload_n hx hb dX2_states_0 rfl (lv_at hl 0 rfl) ?_
  refine va_get (D := D) (ci := 2) (v := .int z_.2) (C := RX2) (T := TX2) (N := 2) hx hb hts inX2 hown hK.1 hP 0 rfl rfl 1 (by decide) (hts _ tw_109) (fun _ h9 => h9) rfl dX2_states_1 ?_
  exact retR C hw dX2_states_4
theorem entG {l : Launch} {D : va_G} {kI kC kB : ClassId} {y : MethodName} {b : ByteArray} {n : Nat} {r : Option FieldType} {rm : Room} {av : List Value} {w : va_W} {Qc : Array Value → State → Outcome → State → Prop} {free : Addr → Prop} (hy : plainName y.cls = true) (hn : (lg_sl av).length ≤ n)
    (body : ∀ (p : Program) (e : Env) (s : State) (m : MethodId) (args : Array Value) (below : List Frame) (meth : Method) (c : Code) (ls : Array Slot), CtxT p s m args meth c b n r y.cls D kI kC kB → va_P D vwCl w s.heap → lv_has ls n (lv_args 0 av) →
      W p l e rm s m args below meth c s.heap [] 0 0 (MQ below Qc args s 0 0 free) (F0 m 0 ls [])) : Met l y (WS y b n r) rm (va_Pc av (PR D kI kC kB w)) Qc 0 0 free := by
  refine Met.ofW (cc := b) (maxL := n) (ret := r) hy rfl ?_
  intro p e s m args below meth c s₁ B hml hv
  obtain ⟨rfl, hP, hK⟩ := hv
  have hts := atoms_spec (ws := WS y b n r) B.pre
  have hl := lv_entry av (n := n) hn
  rw [lg_entry_eq]
  generalize (lg_sl av ++ List.replicate (n - (lg_sl av).length) Slot.unset).toArray = ls at hl ⊢
  exact body p e s m _ below meth c ls ⟨B.exec, B.bytes, B.returns, hml, findClass_of_methodNamed B.named, fun w h => hts w (List.mem_cons_of_mem _ h), B.notSynchronized, hK⟩ hP hl
/-- one cell of a world told otherwise -/
theorem va_reP {D : va_G} {ws : va_W} {H : Heap} (hP : va_P D vwCl ws H) (i : Nat) {q : Nat} {x y : va_E} (hi : ws[i]? = some (q, x)) (h : va_at D vwCl (q, x) H → va_at D vwCl (q, y) H) : va_P D vwCl (ws.set i (q, y)) H := by
  intro k z hz
  by_cases hki : i = k
  · subst hki
    rw [List.getElem?_set_self', hi] at hz
    cases hz
    exact h (hP _ _ hi)
  · rw [List.getElem?_set_ne hki] at hz
    exact hP k z hz
theorem va_reD {A : Nat → Prop} {ws : va_W} (hD : va_D A ws) (i : Nat) {q : Nat} {x y : va_E} (hi : ws[i]? = some (q, x)) : va_D A (ws.set i (q, y)) := by
  have key : ∀ (k : Nat) (z : Nat × va_E), (ws.set i (q, y))[k]? = some z → ∃ z', ws[k]? = some z' ∧ z'.1 = z.1 := by
    intro k z hz
    by_cases hki : i = k
    · subst hki
      rw [List.getElem?_set_self', hi] at hz
      cases hz
      exact ⟨_, hi, rfl⟩
    · rw [List.getElem?_set_ne hki] at hz
      exact ⟨z, hz, rfl⟩
  refine ⟨fun k j p z hp hz e => ?_, fun k z hz => ?_⟩
  · obtain ⟨p', h1, e1⟩ := key k p hp
    obtain ⟨z', h2, e2⟩ := key j z hz
    exact hD.1 k j p' z' h1 h2 (by rw [e1, e2]; exact e)
  · obtain ⟨z', h1, e1⟩ := key k z hz
    rw [← e1]
    exact hD.2 k z' h1
theorem vp_cellq_congr (cA : ClassId) (n : Nat) (f g : Nat → Option Nat) (h : ∀ k, k < n → f k = g k) : vp_cell cA (n, .inr (.inr (.inr (.inr f)))) = vp_cell cA (n, .inr (.inr (.inr (.inr g)))) := by
  rw [vp_cell_q, vp_cell_q]
  unfold arrV
  congr 1
  apply Array.ext
  · simp
  · intro i h1 h2
    have hi : i < n := by simpa using h1
    simp [h i hi]
set_option maxHeartbeats 400000 in
set_option maxRecDepth 100000 in
/-- bookAt(k), k in range: that book -/
theorem c_X2_bookAt (l : Launch) (D : va_G) (kI kC kB : ClassId) (a : AdT) (h_ : Nat → AdT) (z_ : HistT) (k : Nat) (hk : k < 4) : Met l yX2_bookAt (WS yX2_bookAt cX2_bookAt 2 (some (.object "QuireSigns$Book"))) ({ frames := 0, cells := 0, slots := 0, locals := 0 } : Room) (va_Pc [.ref (a 0), .int (nI k)] (PR D kI kC kB (cwHist kI kB a h_ z_))) (va_Sr (fun j => j = k) (fun j => .ref (h_ j 0))) 0 0 (fun _ => False) := by
  refine entG (by decide) (Nat.le_of_ble_eq_true rfl) ?_
  intro p e s m args below meth c ls C hP hl
  replace hl : lv_has ls 2 [(0, .ref (a 0)), (1, .int (nI k))] := hl
  obtain ⟨hx, hb, hr, hml, hown, hts, hlocks, hK⟩ := id C
  refine lv_iload_n hx hb dX2_bookAt_0 rfl (lv_at hl 1 rfl) ?_
  refine lv_if_lt (tgt := 22) hx hb dX2_bookAt_1 (by decide) (fun hc => absurd hc (nI_pos (by omega))) (fun hc => ?_)
  refine lv_iload_n hx hb dX2_bookAt_4 rfl (lv_at hl 1 rfl) ?_
  refine lv_aload_n hx hb dX2_bookAt_5 rfl (lv_at hl 0 rfl) ?_
  refine va_get (D := D) (ci := 2) (v := .ref (a 1)) (C := RX2) (T := TX2) (N := 2) hx hb hts inX2 hown hK.1 hP 0 rfl rfl 0 (by decide) (hts _ tw_108) (fun _ h9 => h9) rfl dX2_bookAt_6 ?_
  refine va_alen (v := nI 4) hx hb hK.1 hP 1 2 rfl rfl rfl dX2_bookAt_9 ?_
  refine lv_icmp_ge (tgt := 22) hx hb dX2_bookAt_10 (by decide) (fun hc => absurd hc (nI_ge hk (by decide))) (fun hc => ?_)
  refine lv_aload_n hx hb dX2_bookAt_13 rfl (lv_at hl 0 rfl) ?_
  refine va_get (D := D) (ci := 2) (v := .ref (a 1)) (C := RX2) (T := TX2) (N := 2) hx hb hts inX2 hown hK.1 hP 0 rfl rfl 0 (by decide) (hts _ tw_108) (fun _ h9 => h9) rfl dX2_bookAt_14 ?_
  refine lv_iload_n hx hb dX2_bookAt_17 rfl (lv_at hl 1 rfl) ?_
  refine va_aldq hx hb hK.1 hP 1 2 rfl rfl (vp_in_nI hk (by decide)) dX2_bookAt_18 ?_
  refine W.eq (g2 := F0 m 19 ls [.ref (h_ k 0)]) (by rw [nI_clamp (by omega)]; rfl) ?_
  refine lv_goto (tgt := 23) hx hb dX2_bookAt_19 (by decide) ?_
  exact W.aret hx hb hr (Or.inl ⟨_, rfl⟩) (Or.inr ⟨_, rfl⟩) (fun t ht hW => ⟨k, rfl, rfl, ht⟩) (fun _ h => absurd h List.not_mem_nil) dX2_bookAt_23 hlocks
def hrotA (h : Nat → AdT) : Nat → AdT := fun k => if k = 3 then h 0 else h (k + 1)
set_option maxHeartbeats 400000 in
set_option maxRecDepth 100000 in
/-- dropOldest() of four states -/
theorem c_X2_dropOldest (l : Launch) (D : va_G) (kI kC kB : ClassId) (a : AdT) (h_ : Nat → AdT) (f_ : Nat → BookT) (sz : Nat) : CMv l D kI kC kB yX2_dropOldest cX2_dropOldest 3 none ({ frames := 0, cells := 0, slots := 0, locals := 0 } : Room) [.ref (a 0)] (cwHist kI kB a h_ (f_, nI 4)) sz (fun u : (Nat → AdT) × HistT => u = (hrotA h_, (hrot f_, nI 3))) (fun u => cwHist kI kB a u.1 u.2) := by
  refine entMv (by decide) (Nat.le_of_ble_eq_true rfl) ?_
  intro p e s m args below meth c ls A C hA hP hD hS hl
  obtain ⟨hx, hb, hr, hml, hown, hts, hlocks, hK⟩ := id C
  replace hl : lv_has ls 3 [(0, .ref (a 0))] := hl
  replace hP : va_P D vwCl (bfl [[(a 0, .inr (2, [.ref (a 1), .int (nI 4)])), (a 1, .inl (kB, 4, .inr (.inr (.inr (.inr (fun k => some (h_ k 0)))))))], cwBookV kI (h_ 0) (f_ 0), cwBookV kI (h_ 1) (f_ 1), cwBookV kI (h_ 2) (f_ 2), cwBookV kI (h_ 3) (f_ 3)]) s.heap := hP
  replace hD : va_D A (bfl [[(a 0, .inr (2, [.ref (a 1), .int (nI 4)])), (a 1, .inl (kB, 4, .inr (.inr (.inr (.inr (fun k => some (h_ k 0)))))))], cwBookV kI (h_ 0) (f_ 0), cwBookV kI (h_ 1) (f_ 1), cwBookV kI (h_ 2) (f_ 2), cwBookV kI (h_ 3) (f_ 3)]) := hD
  refine lv_iconst (v := nI 1) hx hb dX2_dropOldest_0 (by decide) ?_
  refine lv_istore_n (lv' := [(1, .int (nI 1)), (0, .ref (a 0))]) hx hb dX2_dropOldest_1 rfl hl (by decide) rfl (fun ls hl => ?_)
  refine lv_iload_n hx hb dX2_dropOldest_2 rfl (lv_at hl 0 rfl) ?_
  refine lv_aload_n hx hb dX2_dropOldest_3 rfl (lv_at hl 1 rfl) ?_
  refine va_get (D := D) (ci := 2) (v := .ref (a 1)) (C := RX2) (T := TX2) (N := 2) hx hb hts inX2 hown hK.1 hP 0 rfl rfl 0 (by decide) (hts _ tw_108) (fun _ h9 => h9) rfl dX2_dropOldest_4 ?_
  refine va_alen (v := nI 4) hx hb hK.1 hP 1 2 rfl rfl rfl dX2_dropOldest_7 ?_
  refine lv_icmp_ge (tgt := 47) hx hb dX2_dropOldest_8 (by decide) (fun hc => absurd hc (by decide)) (fun hc => ?_)
  refine lv_aload_n hx hb dX2_dropOldest_11 rfl (lv_at hl 1 rfl) ?_
  refine va_get (D := D) (ci := 2) (v := .ref (a 1)) (C := RX2) (T := TX2) (N := 2) hx hb hts inX2 hown hK.1 hP 0 rfl rfl 0 (by decide) (hts _ tw_108) (fun _ h9 => h9) rfl dX2_dropOldest_12 ?_
  refine lv_iload_n hx hb dX2_dropOldest_15 rfl (lv_at hl 0 rfl) ?_
  refine lv_iconst (v := 1) hx hb dX2_dropOldest_16 (by decide) ?_
  refine lv_isub hx hb dX2_dropOldest_17 ?_
  refine lv_topi (fun y ey => ?_)
  obtain rfl : y = nI 0 := by rw [ey]; decide
  refine va_aldq hx hb hK.1 hP 1 2 rfl rfl (vp_in_nI (by decide) (by decide)) dX2_dropOldest_18 ?_
  refine W.eq (g2 := F0 m 19 ls [.ref (h_ 0 0)]) (by rw [nI_clamp (by decide)]; rfl) ?_
  refine lv_astore_n (lv' := [(2, .ref (h_ 0 0)), (1, .int (nI 1)), (0, .ref (a 0))]) hx hb dX2_dropOldest_19 rfl hl (by decide) rfl (fun ls hl => ?_)
  refine lv_aload_n hx hb dX2_dropOldest_20 rfl (lv_at hl 2 rfl) ?_
  refine va_get (D := D) (ci := 2) (v := .ref (a 1)) (C := RX2) (T := TX2) (N := 2) hx hb hts inX2 hown hK.1 hP 0 rfl rfl 0 (by decide) (hts _ tw_108) (fun _ h9 => h9) rfl dX2_dropOldest_21 ?_
  refine lv_iload_n hx hb dX2_dropOldest_24 rfl (lv_at hl 1 rfl) ?_
  refine lv_iconst (v := 1) hx hb dX2_dropOldest_25 (by decide) ?_
  refine lv_isub hx hb dX2_dropOldest_26 ?_
  refine lv_topi (fun y ey => ?_)
  obtain rfl : y = nI 0 := by rw [ey]; decide
  refine lv_aload_n hx hb dX2_dropOldest_27 rfl (lv_at hl 2 rfl) ?_
  refine va_get (D := D) (ci := 2) (v := .ref (a 1)) (C := RX2) (T := TX2) (N := 2) hx hb hts inX2 hown hK.1 hP 0 rfl rfl 0 (by decide) (hts _ tw_108) (fun _ h9 => h9) rfl dX2_dropOldest_28 ?_
  refine lv_iload_n hx hb dX2_dropOldest_31 rfl (lv_at hl 1 rfl) ?_
  refine va_aldq hx hb hK.1 hP 1 2 rfl rfl (vp_in_nI (by decide) (by decide)) dX2_dropOldest_32 ?_
  refine W.eq (g2 := F0 m 33 ls [.ref (h_ 1 0), .int (nI 0), .ref (a 1)]) (by rw [nI_clamp (by decide)]; rfl) ?_
  refine va_astq (r := (RX1, TX1, 6)) hx hb hK.1 hP hD hS 1 2 12 1 rfl rfl rfl rfl (vp_in_nI (by decide) (by decide)) dX2_dropOldest_33 (fun H locs hP hD hS => ?_)
  rw [nI_clamp (by decide)] at hP hD
  replace hP : va_P D vwCl (bfl [[(a 0, .inr (2, [.ref (a 1), .int (nI 4)])), (a 1, .inl (kB, 4, .inr (.inr (.inr (.inr (va_up (fun k => some (h_ k 0)) 0 (some (h_ 1 0))))))))], cwBookV kI (h_ 0) (f_ 0), cwBookV kI (h_ 1) (f_ 1), cwBookV kI (h_ 2) (f_ 2), cwBookV kI (h_ 3) (f_ 3)]) H := hP
  replace hD : va_D A (bfl [[(a 0, .inr (2, [.ref (a 1), .int (nI 4)])), (a 1, .inl (kB, 4, .inr (.inr (.inr (.inr (va_up (fun k => some (h_ k 0)) 0 (some (h_ 1 0))))))))], cwBookV kI (h_ 0) (f_ 0), cwBookV kI (h_ 1) (f_ 1), cwBookV kI (h_ 2) (f_ 2), cwBookV kI (h_ 3) (f_ 3)]) := hD
  refine lv_aload_n hx hb dX2_dropOldest_34 rfl (lv_at hl 2 rfl) ?_
  refine va_get (D := D) (ci := 2) (v := .ref (a 1)) (C := RX2) (T := TX2) (N := 2) hx hb hts inX2 hown hK.1 hP 0 rfl rfl 0 (by decide) (hts _ tw_108) (fun _ h9 => h9) rfl dX2_dropOldest_35 ?_
  refine lv_iload_n hx hb dX2_dropOldest_38 rfl (lv_at hl 1 rfl) ?_
  refine lv_aload_n hx hb dX2_dropOldest_39 rfl (lv_at hl 0 rfl) ?_
  refine va_astq (r := (RX1, TX1, 6)) hx hb hK.1 hP hD hS 1 2 2 1 rfl rfl rfl rfl (vp_in_nI (by decide) (by decide)) dX2_dropOldest_40 (fun H locs hP hD hS => ?_)
  rw [nI_clamp (by decide)] at hP hD
  replace hP : va_P D vwCl (bfl [[(a 0, .inr (2, [.ref (a 1), .int (nI 4)])), (a 1, .inl (kB, 4, .inr (.inr (.inr (.inr (va_up (va_up (fun k => some (h_ k 0)) 0 (some (h_ 1 0))) 1 (some (h_ 0 0))))))))], cwBookV kI (h_ 0) (f_ 0), cwBookV kI (h_ 1) (f_ 1), cwBookV kI (h_ 2) (f_ 2), cwBookV kI (h_ 3) (f_ 3)]) H := hP
  replace hD : va_D A (bfl [[(a 0, .inr (2, [.ref (a 1), .int (nI 4)])), (a 1, .inl (kB, 4, .inr (.inr (.inr (.inr (va_up (va_up (fun k => some (h_ k 0)) 0 (some (h_ 1 0))) 1 (some (h_ 0 0))))))))], cwBookV kI (h_ 0) (f_ 0), cwBookV kI (h_ 1) (f_ 1), cwBookV kI (h_ 2) (f_ 2), cwBookV kI (h_ 3) (f_ 3)]) := hD
  refine lv_iinc (v := nI 2) (lv' := [(1, .int (nI 2)), (2, .ref (h_ 0 0)), (0, .ref (a 0))]) hx hb dX2_dropOldest_41 hl (k := 1) rfl (by decide) (by decide) rfl (fun ls hl => ?_)
  refine lv_goto (tgt := 2) hx hb dX2_dropOldest_44 (by decide) ?_
  refine lv_iload_n hx hb dX2_dropOldest_2 rfl (lv_at hl 0 rfl) ?_
  refine lv_aload_n hx hb dX2_dropOldest_3 rfl (lv_at hl 2 rfl) ?_
  refine va_get (D := D) (ci := 2) (v := .ref (a 1)) (C := RX2) (T := TX2) (N := 2) hx hb hts inX2 hown hK.1 hP 0 rfl rfl 0 (by decide) (hts _ tw_108) (fun _ h9 => h9) rfl dX2_dropOldest_4 ?_
  refine va_alen (v := nI 4) hx hb hK.1 hP 1 2 rfl rfl rfl dX2_dropOldest_7 ?_
  refine lv_icmp_ge (tgt := 47) hx hb dX2_dropOldest_8 (by decide) (fun hc => absurd hc (by decide)) (fun hc => ?_)
  refine lv_aload_n hx hb dX2_dropOldest_11 rfl (lv_at hl 2 rfl) ?_
  refine va_get (D := D) (ci := 2) (v := .ref (a 1)) (C := RX2) (T := TX2) (N := 2) hx hb hts inX2 hown hK.1 hP 0 rfl rfl 0 (by decide) (hts _ tw_108) (fun _ h9 => h9) rfl dX2_dropOldest_12 ?_
  refine lv_iload_n hx hb dX2_dropOldest_15 rfl (lv_at hl 0 rfl) ?_
  refine lv_iconst (v := 1) hx hb dX2_dropOldest_16 (by decide) ?_
  refine lv_isub hx hb dX2_dropOldest_17 ?_
  refine lv_topi (fun y ey => ?_)
  obtain rfl : y = nI 1 := by rw [ey]; decide
  refine va_aldq hx hb hK.1 hP 1 2 rfl rfl (vp_in_nI (by decide) (by decide)) dX2_dropOldest_18 ?_
  refine W.eq (g2 := F0 m 19 ls [.ref (h_ 0 0)]) (by rw [nI_clamp (by decide)]; rfl) ?_
  refine lv_astore_n (lv' := [(2, .ref (h_ 0 0)), (1, .int (nI 2)), (0, .ref (a 0))]) hx hb dX2_dropOldest_19 rfl hl (by decide) rfl (fun ls hl => ?_)
  refine lv_aload_n hx hb dX2_dropOldest_20 rfl (lv_at hl 2 rfl) ?_
  refine va_get (D := D) (ci := 2) (v := .ref (a 1)) (C := RX2) (T := TX2) (N := 2) hx hb hts inX2 hown hK.1 hP 0 rfl rfl 0 (by decide) (hts _ tw_108) (fun _ h9 => h9) rfl dX2_dropOldest_21 ?_
  refine lv_iload_n hx hb dX2_dropOldest_24 rfl (lv_at hl 1 rfl) ?_
  refine lv_iconst (v := 1) hx hb dX2_dropOldest_25 (by decide) ?_
  refine lv_isub hx hb dX2_dropOldest_26 ?_
  refine lv_topi (fun y ey => ?_)
  obtain rfl : y = nI 1 := by rw [ey]; decide
  refine lv_aload_n hx hb dX2_dropOldest_27 rfl (lv_at hl 2 rfl) ?_
  refine va_get (D := D) (ci := 2) (v := .ref (a 1)) (C := RX2) (T := TX2) (N := 2) hx hb hts inX2 hown hK.1 hP 0 rfl rfl 0 (by decide) (hts _ tw_108) (fun _ h9 => h9) rfl dX2_dropOldest_28 ?_
  refine lv_iload_n hx hb dX2_dropOldest_31 rfl (lv_at hl 1 rfl) ?_
  refine va_aldq hx hb hK.1 hP 1 2 rfl rfl (vp_in_nI (by decide) (by decide)) dX2_dropOldest_32 ?_
  refine W.eq (g2 := F0 m 33 ls [.ref (h_ 2 0), .int (nI 1), .ref (a 1)]) (by rw [nI_clamp (by decide)]; rfl) ?_
  refine va_astq (r := (RX1, TX1, 6)) hx hb hK.1 hP hD hS 1 2 22 1 rfl rfl rfl rfl (vp_in_nI (by decide) (by decide)) dX2_dropOldest_33 (fun H locs hP hD hS => ?_)
  rw [nI_clamp (by decide)] at hP hD
  replace hP : va_P D vwCl (bfl [[(a 0, .inr (2, [.ref (a 1), .int (nI 4)])), (a 1, .inl (kB, 4, .inr (.inr (.inr (.inr (va_up (va_up (va_up (fun k => some (h_ k 0)) 0 (some (h_ 1 0))) 1 (some (h_ 0 0))) 1 (some (h_ 2 0))))))))], cwBookV kI (h_ 0) (f_ 0), cwBookV kI (h_ 1) (f_ 1), cwBookV kI (h_ 2) (f_ 2), cwBookV kI (h_ 3) (f_ 3)]) H := hP
  replace hD : va_D A (bfl [[(a 0, .inr (2, [.ref (a 1), .int (nI 4)])), (a 1, .inl (kB, 4, .inr (.inr (.inr (.inr (va_up (va_up (va_up (fun k => some (h_ k 0)) 0 (some (h_ 1 0))) 1 (some (h_ 0 0))) 1 (some (h_ 2 0))))))))], cwBookV kI (h_ 0) (f_ 0), cwBookV kI (h_ 1) (f_ 1), cwBookV kI (h_ 2) (f_ 2), cwBookV kI (h_ 3) (f_ 3)]) := hD
  refine lv_aload_n hx hb dX2_dropOldest_34 rfl (lv_at hl 2 rfl) ?_
  refine va_get (D := D) (ci := 2) (v := .ref (a 1)) (C := RX2) (T := TX2) (N := 2) hx hb hts inX2 hown hK.1 hP 0 rfl rfl 0 (by decide) (hts _ tw_108) (fun _ h9 => h9) rfl dX2_dropOldest_35 ?_
  refine lv_iload_n hx hb dX2_dropOldest_38 rfl (lv_at hl 1 rfl) ?_
  refine lv_aload_n hx hb dX2_dropOldest_39 rfl (lv_at hl 0 rfl) ?_
  refine va_astq (r := (RX1, TX1, 6)) hx hb hK.1 hP hD hS 1 2 2 1 rfl rfl rfl rfl (vp_in_nI (by decide) (by decide)) dX2_dropOldest_40 (fun H locs hP hD hS => ?_)
  rw [nI_clamp (by decide)] at hP hD
  replace hP : va_P D vwCl (bfl [[(a 0, .inr (2, [.ref (a 1), .int (nI 4)])), (a 1, .inl (kB, 4, .inr (.inr (.inr (.inr (va_up (va_up (va_up (va_up (fun k => some (h_ k 0)) 0 (some (h_ 1 0))) 1 (some (h_ 0 0))) 1 (some (h_ 2 0))) 2 (some (h_ 0 0))))))))], cwBookV kI (h_ 0) (f_ 0), cwBookV kI (h_ 1) (f_ 1), cwBookV kI (h_ 2) (f_ 2), cwBookV kI (h_ 3) (f_ 3)]) H := hP
  replace hD : va_D A (bfl [[(a 0, .inr (2, [.ref (a 1), .int (nI 4)])), (a 1, .inl (kB, 4, .inr (.inr (.inr (.inr (va_up (va_up (va_up (va_up (fun k => some (h_ k 0)) 0 (some (h_ 1 0))) 1 (some (h_ 0 0))) 1 (some (h_ 2 0))) 2 (some (h_ 0 0))))))))], cwBookV kI (h_ 0) (f_ 0), cwBookV kI (h_ 1) (f_ 1), cwBookV kI (h_ 2) (f_ 2), cwBookV kI (h_ 3) (f_ 3)]) := hD
  refine lv_iinc (v := nI 3) (lv' := [(1, .int (nI 3)), (2, .ref (h_ 0 0)), (0, .ref (a 0))]) hx hb dX2_dropOldest_41 hl (k := 1) rfl (by decide) (by decide) rfl (fun ls hl => ?_)
  refine lv_goto (tgt := 2) hx hb dX2_dropOldest_44 (by decide) ?_
  refine lv_iload_n hx hb dX2_dropOldest_2 rfl (lv_at hl 0 rfl) ?_
  refine lv_aload_n hx hb dX2_dropOldest_3 rfl (lv_at hl 2 rfl) ?_
  refine va_get (D := D) (ci := 2) (v := .ref (a 1)) (C := RX2) (T := TX2) (N := 2) hx hb hts inX2 hown hK.1 hP 0 rfl rfl 0 (by decide) (hts _ tw_108) (fun _ h9 => h9) rfl dX2_dropOldest_4 ?_
  refine va_alen (v := nI 4) hx hb hK.1 hP 1 2 rfl rfl rfl dX2_dropOldest_7 ?_
  refine lv_icmp_ge (tgt := 47) hx hb dX2_dropOldest_8 (by decide) (fun hc => absurd hc (by decide)) (fun hc => ?_)
  refine lv_aload_n hx hb dX2_dropOldest_11 rfl (lv_at hl 2 rfl) ?_
  refine va_get (D := D) (ci := 2) (v := .ref (a 1)) (C := RX2) (T := TX2) (N := 2) hx hb hts inX2 hown hK.1 hP 0 rfl rfl 0 (by decide) (hts _ tw_108) (fun _ h9 => h9) rfl dX2_dropOldest_12 ?_
  refine lv_iload_n hx hb dX2_dropOldest_15 rfl (lv_at hl 0 rfl) ?_
  refine lv_iconst (v := 1) hx hb dX2_dropOldest_16 (by decide) ?_
  refine lv_isub hx hb dX2_dropOldest_17 ?_
  refine lv_topi (fun y ey => ?_)
  obtain rfl : y = nI 2 := by rw [ey]; decide
  refine va_aldq hx hb hK.1 hP 1 2 rfl rfl (vp_in_nI (by decide) (by decide)) dX2_dropOldest_18 ?_
  refine W.eq (g2 := F0 m 19 ls [.ref (h_ 0 0)]) (by rw [nI_clamp (by decide)]; rfl) ?_
  refine lv_astore_n (lv' := [(2, .ref (h_ 0 0)), (1, .int (nI 3)), (0, .ref (a 0))]) hx hb dX2_dropOldest_19 rfl hl (by decide) rfl (fun ls hl => ?_)
  refine lv_aload_n hx hb dX2_dropOldest_20 rfl (lv_at hl 2 rfl) ?_
  refine va_get (D := D) (ci := 2) (v := .ref (a 1)) (C := RX2) (T := TX2) (N := 2) hx hb hts inX2 hown hK.1 hP 0 rfl rfl 0 (by decide) (hts _ tw_108) (fun _ h9 => h9) rfl dX2_dropOldest_21 ?_
  refine lv_iload_n hx hb dX2_dropOldest_24 rfl (lv_at hl 1 rfl) ?_
  refine lv_iconst (v := 1) hx hb dX2_dropOldest_25 (by decide) ?_
  refine lv_isub hx hb dX2_dropOldest_26 ?_
  refine lv_topi (fun y ey => ?_)
  obtain rfl : y = nI 2 := by rw [ey]; decide
  refine lv_aload_n hx hb dX2_dropOldest_27 rfl (lv_at hl 2 rfl) ?_
  refine va_get (D := D) (ci := 2) (v := .ref (a 1)) (C := RX2) (T := TX2) (N := 2) hx hb hts inX2 hown hK.1 hP 0 rfl rfl 0 (by decide) (hts _ tw_108) (fun _ h9 => h9) rfl dX2_dropOldest_28 ?_
  refine lv_iload_n hx hb dX2_dropOldest_31 rfl (lv_at hl 1 rfl) ?_
  refine va_aldq hx hb hK.1 hP 1 2 rfl rfl (vp_in_nI (by decide) (by decide)) dX2_dropOldest_32 ?_
  refine W.eq (g2 := F0 m 33 ls [.ref (h_ 3 0), .int (nI 2), .ref (a 1)]) (by rw [nI_clamp (by decide)]; rfl) ?_
  refine va_astq (r := (RX1, TX1, 6)) hx hb hK.1 hP hD hS 1 2 32 1 rfl rfl rfl rfl (vp_in_nI (by decide) (by decide)) dX2_dropOldest_33 (fun H locs hP hD hS => ?_)
  rw [nI_clamp (by decide)] at hP hD
  replace hP : va_P D vwCl (bfl [[(a 0, .inr (2, [.ref (a 1), .int (nI 4)])), (a 1, .inl (kB, 4, .inr (.inr (.inr (.inr (va_up (va_up (va_up (va_up (va_up (fun k => some (h_ k 0)) 0 (some (h_ 1 0))) 1 (some (h_ 0 0))) 1 (some (h_ 2 0))) 2 (some (h_ 0 0))) 2 (some (h_ 3 0))))))))], cwBookV kI (h_ 0) (f_ 0), cwBookV kI (h_ 1) (f_ 1), cwBookV kI (h_ 2) (f_ 2), cwBookV kI (h_ 3) (f_ 3)]) H := hP
  replace hD : va_D A (bfl [[(a 0, .inr (2, [.ref (a 1), .int (nI 4)])), (a 1, .inl (kB, 4, .inr (.inr (.inr (.inr (va_up (va_up (va_up (va_up (va_up (fun k => some (h_ k 0)) 0 (some (h_ 1 0))) 1 (some (h_ 0 0))) 1 (some (h_ 2 0))) 2 (some (h_ 0 0))) 2 (some (h_ 3 0))))))))], cwBookV kI (h_ 0) (f_ 0), cwBookV kI (h_ 1) (f_ 1), cwBookV kI (h_ 2) (f_ 2), cwBookV kI (h_ 3) (f_ 3)]) := hD
  refine lv_aload_n hx hb dX2_dropOldest_34 rfl (lv_at hl 2 rfl) ?_
  refine va_get (D := D) (ci := 2) (v := .ref (a 1)) (C := RX2) (T := TX2) (N := 2) hx hb hts inX2 hown hK.1 hP 0 rfl rfl 0 (by decide) (hts _ tw_108) (fun _ h9 => h9) rfl dX2_dropOldest_35 ?_
  refine lv_iload_n hx hb dX2_dropOldest_38 rfl (lv_at hl 1 rfl) ?_
  refine lv_aload_n hx hb dX2_dropOldest_39 rfl (lv_at hl 0 rfl) ?_
  refine va_astq (r := (RX1, TX1, 6)) hx hb hK.1 hP hD hS 1 2 2 1 rfl rfl rfl rfl (vp_in_nI (by decide) (by decide)) dX2_dropOldest_40 (fun H locs hP hD hS => ?_)
  rw [nI_clamp (by decide)] at hP hD
  replace hP : va_P D vwCl (bfl [[(a 0, .inr (2, [.ref (a 1), .int (nI 4)])), (a 1, .inl (kB, 4, .inr (.inr (.inr (.inr (va_up (va_up (va_up (va_up (va_up (va_up (fun k => some (h_ k 0)) 0 (some (h_ 1 0))) 1 (some (h_ 0 0))) 1 (some (h_ 2 0))) 2 (some (h_ 0 0))) 2 (some (h_ 3 0))) 3 (some (h_ 0 0))))))))], cwBookV kI (h_ 0) (f_ 0), cwBookV kI (h_ 1) (f_ 1), cwBookV kI (h_ 2) (f_ 2), cwBookV kI (h_ 3) (f_ 3)]) H := hP
  replace hD : va_D A (bfl [[(a 0, .inr (2, [.ref (a 1), .int (nI 4)])), (a 1, .inl (kB, 4, .inr (.inr (.inr (.inr (va_up (va_up (va_up (va_up (va_up (va_up (fun k => some (h_ k 0)) 0 (some (h_ 1 0))) 1 (some (h_ 0 0))) 1 (some (h_ 2 0))) 2 (some (h_ 0 0))) 2 (some (h_ 3 0))) 3 (some (h_ 0 0))))))))], cwBookV kI (h_ 0) (f_ 0), cwBookV kI (h_ 1) (f_ 1), cwBookV kI (h_ 2) (f_ 2), cwBookV kI (h_ 3) (f_ 3)]) := hD
  refine lv_iinc (v := nI 4) (lv' := [(1, .int (nI 4)), (2, .ref (h_ 0 0)), (0, .ref (a 0))]) hx hb dX2_dropOldest_41 hl (k := 1) rfl (by decide) (by decide) rfl (fun ls hl => ?_)
  refine lv_goto (tgt := 2) hx hb dX2_dropOldest_44 (by decide) ?_
  refine lv_iload_n hx hb dX2_dropOldest_2 rfl (lv_at hl 0 rfl) ?_
  refine lv_aload_n hx hb dX2_dropOldest_3 rfl (lv_at hl 2 rfl) ?_
  refine va_get (D := D) (ci := 2) (v := .ref (a 1)) (C := RX2) (T := TX2) (N := 2) hx hb hts inX2 hown hK.1 hP 0 rfl rfl 0 (by decide) (hts _ tw_108) (fun _ h9 => h9) rfl dX2_dropOldest_4 ?_
  refine va_alen (v := nI 4) hx hb hK.1 hP 1 2 rfl rfl rfl dX2_dropOldest_7 ?_
  refine lv_icmp_ge (tgt := 47) hx hb dX2_dropOldest_8 (by decide) (fun hc => ?_) (fun hc => absurd (by decide) hc)
  refine lv_aload_n hx hb dX2_dropOldest_47 rfl (lv_at hl 2 rfl) ?_
  refine lv_dup hx hb dX2_dropOldest_48 rfl ?_
  refine va_get (D := D) (ci := 2) (v := .int (nI 4)) (C := RX2) (T := TX2) (N := 2) hx hb hts inX2 hown hK.1 hP 0 rfl rfl 1 (by decide) (hts _ tw_109) (fun _ h9 => h9) rfl dX2_dropOldest_49 ?_
  refine lv_iconst (v := 1) hx hb dX2_dropOldest_52 (by decide) ?_
  refine lv_isub hx hb dX2_dropOldest_53 ?_
  refine lv_topi (fun y ey => ?_)
  obtain rfl : y = nI 3 := by rw [ey]; decide
  refine va_put (D := D) (ci := 2) (v := .int (nI 3)) (ty := .int) (C := RX2) (T := TX2) (N := 2) hx hb hts inX2 tyX2 tyX2_ok nmX2 hown hK.1 hP hD hS 0 rfl rfl 1 (by decide) (hts _ tw_109) (fun _ h9 => h9) rfl (tyX2_ok 1 (by decide)) rfl rfl (Nat.le_of_ble_eq_true rfl) dX2_dropOldest_54 (fun H locs hP hD hS => ?_)
  replace hP : va_P D vwCl (bfl [[(a 0, .inr (2, [.ref (a 1), .int (nI 3)])), (a 1, .inl (kB, 4, .inr (.inr (.inr (.inr (va_up (va_up (va_up (va_up (va_up (va_up (fun k => some (h_ k 0)) 0 (some (h_ 1 0))) 1 (some (h_ 0 0))) 1 (some (h_ 2 0))) 2 (some (h_ 0 0))) 2 (some (h_ 3 0))) 3 (some (h_ 0 0))))))))], cwBookV kI (h_ 0) (f_ 0), cwBookV kI (h_ 1) (f_ 1), cwBookV kI (h_ 2) (f_ 2), cwBookV kI (h_ 3) (f_ 3)]) H := hP
  replace hD : va_D A (bfl [[(a 0, .inr (2, [.ref (a 1), .int (nI 3)])), (a 1, .inl (kB, 4, .inr (.inr (.inr (.inr (va_up (va_up (va_up (va_up (va_up (va_up (fun k => some (h_ k 0)) 0 (some (h_ 1 0))) 1 (some (h_ 0 0))) 1 (some (h_ 2 0))) 2 (some (h_ 0 0))) 2 (some (h_ 3 0))) 3 (some (h_ 0 0))))))))], cwBookV kI (h_ 0) (f_ 0), cwBookV kI (h_ 1) (f_ 1), cwBookV kI (h_ 2) (f_ 2), cwBookV kI (h_ 3) (f_ 3)]) := hD
  have he : vp_cell kB (4, .inr (.inr (.inr (.inr (va_up (va_up (va_up (va_up (va_up (va_up (fun k => some (h_ k 0)) 0 (some (h_ 1 0))) 1 (some (h_ 0 0))) 1 (some (h_ 2 0))) 2 (some (h_ 0 0))) 2 (some (h_ 3 0))) 3 (some (h_ 0 0))))))) = vp_cell kB (4, .inr (.inr (.inr (.inr (fun k => some (hrotA h_ k 0)))))) := vp_cellq_congr kB 4 _ _ (fun k hk => by rcases (show k = 0 ∨ k = 1 ∨ k = 2 ∨ k = 3 by omega) with rfl | rfl | rfl | rfl <;> rfl)
  replace hP := va_reP hP 1 (y := .inl (kB, 4, .inr (.inr (.inr (.inr (fun k => some (hrotA h_ k 0))))))) rfl (fun h => h.trans (congrArg some he))
  replace hD := va_reD hD 1 (y := .inl (kB, 4, .inr (.inr (.inr (.inr (fun k => some (hrotA h_ k 0))))))) rfl
  replace hP := hP.sub (ws' := cwHist kI kB a (hrotA h_) (hrot f_, nI 3)) [0, 1, 12, 13, 14, 15, 16, 17, 18, 19, 20, 21, 22, 23, 24, 25, 26, 27, 28, 29, 30, 31, 32, 33, 34, 35, 36, 37, 38, 39, 40, 41, 2, 3, 4, 5, 6, 7, 8, 9, 10, 11] rfl
  replace hD := hD.sub (ws' := cwHist kI kB a (hrotA h_) (hrot f_, nI 3)) [0, 1, 12, 13, 14, 15, 16, 17, 18, 19, 20, 21, 22, 23, 24, 25, 26, 27, 28, 29, 30, 31, 32, 33, 34, 35, 36, 37, 38, 39, 40, 41, 2, 3, 4, 5, 6, 7, 8, 9, 10, 11] rfl rfl
  exact retMv C (hrotA h_, (hrot f_, nI 3)) rfl hP hD hS dX2_dropOldest_57
set_option maxHeartbeats 400000 in
set_option maxRecDepth 100000 in
theorem cj_X2_record_16_0 (l : Launch) (D : va_G) (kI kC kB : ClassId) (a : AdT) (h_ : Nat → AdT) (b : AdT) (f_ : Nat → BookT) (al sg : Int32) (r1 r2 r3 r4 : RowT) (Post : HistT → Prop) {p : Program} {e : Env} {s : State} {m : MethodId} {args : Array Value} {below : List Frame} {meth : Method} {c : Code} {A : Nat → Prop} (hA : ∀ q : Nat, s.heap.size ≤ q → A q) (C : CtxT p s m args meth c cX2_record 3 none yX2_record.cls D kI kC kB) (hw : wp_bookBecome (f_ 0) (al, sg, r1, r2, r3, r4) (fun b => Post (hset f_ 0 b, nI 1))) : ∀ (H : Heap) (locs : List Loc), va_P D vwCl (cwHist kI kB a h_ (f_, nI 0) ++ (cwBook kI b al sg r1 r2 r3 r4)) H → va_D A (cwHist kI kB a h_ (f_, nI 0) ++ (cwBook kI b al sg r1 r2 r3 r4)) → va_S A s.heap H locs → ∀ (ls : Array Slot), lv_has ls 3 [(0, .ref (a 0)), (1, .ref (b 0))] → W p l e ({ frames := 3, cells := 0, slots := 0, locals := 65 } : Room) s m args below meth c H locs 0 0 (MQ below (va_Qv (fun u : (Nat → AdT) × HistT => Post u.2) (BB D A (fun u : (Nat → AdT) × HistT => cwHist kI kB a u.1 u.2 ++ (cwBook kI b al sg r1 r2 r3 r4))) A) args s 0 0 A) (F0 m 16 ls []) := by
  obtain ⟨hx, hb, hr, hml, hown, hts, hlocks, hK⟩ := id C
  intro H locs hP hD hS ls hl
  refine lv_aload_n hx hb dX2_record_16 rfl (lv_at hl 0 rfl) ?_
  refine lv_aload_n hx hb dX2_record_17 rfl (lv_at hl 0 rfl) ?_
  refine va_get (D := D) (ci := 2) (v := .int (nI 0)) (C := RX2) (T := TX2) (N := 2) hx hb hts inX2 hown hK.1 hP 0 rfl rfl 1 (by decide) (hts _ tw_109) (fun _ h9 => h9) rfl dX2_record_18 ?_
  refine va_csr (runV (As := [.int (nI 0)]) (rest := []) C (c_X2_bookAt l D kI kC kB a h_ (f_, nI 0) 0 (by decide)) ⟨rfl, rfl⟩ ce_X2_bookAt cv_X2_bookAt tw_209 ⟨Nat.le_of_ble_eq_true rfl, Nat.le_of_ble_eq_true rfl⟩ PR_blind (va_recv hK.1 hP (ci := 2) (q0 := 0) rfl rfl) (fun U h1 h2 => ⟨by rw [h1]; exact hP.sub [0, 1, 2, 3, 4, 5, 6, 7, 8, 9, 10, 11, 12, 13, 14, 15, 16, 17, 18, 19, 20, 21, 22, 23, 24, 25, 26, 27, 28, 29, 30, 31, 32, 33, 34, 35, 36, 37, 38, 39, 40, 41] rfl, hK.warm h2⟩) hl.1 rfl (Nat.le_of_ble_eq_true rfl) dX2_record_21 ⟨Nat.zero_le _, Nat.zero_le _⟩).run (fun j hj => ?_)
  subst hj
  refine lv_astore_n (lv' := [(2, .ref (h_ 0 0)), (0, .ref (a 0)), (1, .ref (b 0))]) hx hb dX2_record_24 rfl hl (by decide) rfl (fun ls hl => ?_)
  refine lv_aload_n hx hb dX2_record_25 rfl (lv_at hl 0 rfl) ?_
  refine lv_ifnull hx hb dX2_record_26 ?_
  refine lv_aload_n hx hb dX2_record_29 rfl (lv_at hl 0 rfl) ?_
  refine lv_aload_n hx hb dX2_record_30 rfl (lv_at hl 2 rfl) ?_
  rw [hist_split] at hP hD
  refine kMBv (q0 := 0) (As := [.ref (b 0)]) (rest := []) (ws' := fun u : Int32 × Int32 × RowT × RowT × RowT × RowT => bfl [[(a 0, .inr (2, [.ref (a 1), .int (nI 0)])), (a 1, .inl (kB, 4, .inr (.inr (.inr (.inr (fun k => some (h_ k 0)))))))], cwBookV kI (h_ 0) u, cwBookV kI (h_ 1) (f_ 1), cwBookV kI (h_ 2) (f_ 2), cwBookV kI (h_ 3) (f_ 3), (cwBook kI b al sg r1 r2 r3 r4)]) C (c_X1_become l D kI kC kB (h_ 0) b (f_ 0).1 (f_ 0).2.1 (f_ 0).2.2.1 (f_ 0).2.2.2.1 (f_ 0).2.2.2.2.1 (f_ 0).2.2.2.2.2 al sg r1 r2 r3 r4 H.size _ hw) ⟨rfl, rfl⟩ ce_X1_become cv_X1_become tw_213 ⟨Nat.le_of_ble_eq_true rfl, Nat.le_of_ble_eq_true rfl⟩ hP hD hS hA (bfl_p2 [_, _, _, _, _, _] 1 4 rfl rfl) (fun u => bfl_p2 [_, _, _, _, _, _] 1 4 rfl rfl) rfl rfl rfl hl.1 rfl (Nat.le_of_ble_eq_true rfl) ⟨Nat.zero_le _, Nat.zero_le _⟩ dX2_record_31 (fun u H locs hw hP hD hS => ?_)
  obtain ⟨u1, u2, u3, u4, u5, u6⟩ := u
  replace hP : va_P D vwCl (cwHist kI kB a h_ ((hset f_ 0 (u1, u2, u3, u4, u5, u6)), nI 0) ++ (cwBook kI b al sg r1 r2 r3 r4)) H := by rw [hist_split]; exact hP
  replace hD : va_D A (cwHist kI kB a h_ ((hset f_ 0 (u1, u2, u3, u4, u5, u6)), nI 0) ++ (cwBook kI b al sg r1 r2 r3 r4)) := by rw [hist_split]; exact hD
  refine lv_aload_n hx hb dX2_record_34 rfl (lv_at hl 1 rfl) ?_
  refine lv_dup hx hb dX2_record_35 rfl ?_
  refine va_get (D := D) (ci := 2) (v := .int (nI 0)) (C := RX2) (T := TX2) (N := 2) hx hb hts inX2 hown hK.1 hP 0 rfl rfl 1 (by decide) (hts _ tw_109) (fun _ h9 => h9) rfl dX2_record_36 ?_
  refine lv_iconst (v := 1) hx hb dX2_record_39 (by decide) ?_
  refine lv_iadd hx hb dX2_record_40 ?_
  refine lv_topi (fun y ey => ?_)
  obtain rfl : y = nI 1 := by rw [ey]; decide
  refine va_put (D := D) (ci := 2) (v := .int (nI 1)) (ty := .int) (C := RX2) (T := TX2) (N := 2) hx hb hts inX2 tyX2 tyX2_ok nmX2 hown hK.1 hP hD hS 0 rfl rfl 1 (by decide) (hts _ tw_109) (fun _ h9 => h9) rfl (tyX2_ok 1 (by decide)) rfl rfl (Nat.le_of_ble_eq_true rfl) dX2_record_41 (fun H locs hP hD hS => ?_)
  replace hP : va_P D vwCl (cwHist kI kB a h_ ((hset f_ 0 (u1, u2, u3, u4, u5, u6)), nI 1) ++ (cwBook kI b al sg r1 r2 r3 r4)) H := hP
  replace hD : va_D A (cwHist kI kB a h_ ((hset f_ 0 (u1, u2, u3, u4, u5, u6)), nI 1) ++ (cwBook kI b al sg r1 r2 r3 r4)) := hD
  exact retMv C (h_, ((hset f_ 0 (u1, u2, u3, u4, u5, u6)), nI 1)) hw hP hD hS dX2_record_44
set_option maxHeartbeats 400000 in
set_option maxRecDepth 100000 in
theorem cj_X2_record_16_1 (l : Launch) (D : va_G) (kI kC kB : ClassId) (a : AdT) (h_ : Nat → AdT) (b : AdT) (f_ : Nat → BookT) (al sg : Int32) (r1 r2 r3 r4 : RowT) (Post : HistT → Prop) {p : Program} {e : Env} {s : State} {m : MethodId} {args : Array Value} {below : List Frame} {meth : Method} {c : Code} {A : Nat → Prop} (hA : ∀ q : Nat, s.heap.size ≤ q → A q) (C : CtxT p s m args meth c cX2_record 3 none yX2_record.cls D kI kC kB) (hw : wp_bookBecome (f_ 1) (al, sg, r1, r2, r3, r4) (fun b => Post (hset f_ 1 b, nI 2))) : ∀ (H : Heap) (locs : List Loc), va_P D vwCl (cwHist kI kB a h_ (f_, nI 1) ++ (cwBook kI b al sg r1 r2 r3 r4)) H → va_D A (cwHist kI kB a h_ (f_, nI 1) ++ (cwBook kI b al sg r1 r2 r3 r4)) → va_S A s.heap H locs → ∀ (ls : Array Slot), lv_has ls 3 [(0, .ref (a 0)), (1, .ref (b 0))] → W p l e ({ frames := 3, cells := 0, slots := 0, locals := 65 } : Room) s m args below meth c H locs 0 0 (MQ below (va_Qv (fun u : (Nat → AdT) × HistT => Post u.2) (BB D A (fun u : (Nat → AdT) × HistT => cwHist kI kB a u.1 u.2 ++ (cwBook kI b al sg r1 r2 r3 r4))) A) args s 0 0 A) (F0 m 16 ls []) := by
  obtain ⟨hx, hb, hr, hml, hown, hts, hlocks, hK⟩ := id C
  intro H locs hP hD hS ls hl
  refine lv_aload_n hx hb dX2_record_16 rfl (lv_at hl 0 rfl) ?_
  refine lv_aload_n hx hb dX2_record_17 rfl (lv_at hl 0 rfl) ?_
  refine va_get (D := D) (ci := 2) (v := .int (nI 1)) (C := RX2) (T := TX2) (N := 2) hx hb hts inX2 hown hK.1 hP 0 rfl rfl 1 (by decide) (hts _ tw_109) (fun _ h9 => h9) rfl dX2_record_18 ?_
  refine va_csr (runV (As := [.int (nI 1)]) (rest := []) C (c_X2_bookAt l D kI kC kB a h_ (f_, nI 1) 1 (by decide)) ⟨rfl, rfl⟩ ce_X2_bookAt cv_X2_bookAt tw_209 ⟨Nat.le_of_ble_eq_true rfl, Nat.le_of_ble_eq_true rfl⟩ PR_blind (va_recv hK.1 hP (ci := 2) (q0 := 0) rfl rfl) (fun U h1 h2 => ⟨by rw [h1]; exact hP.sub [0, 1, 2, 3, 4, 5, 6, 7, 8, 9, 10, 11, 12, 13, 14, 15, 16, 17, 18, 19, 20, 21, 22, 23, 24, 25, 26, 27, 28, 29, 30, 31, 32, 33, 34, 35, 36, 37, 38, 39, 40, 41] rfl, hK.warm h2⟩) hl.1 rfl (Nat.le_of_ble_eq_true rfl) dX2_record_21 ⟨Nat.zero_le _, Nat.zero_le _⟩).run (fun j hj => ?_)
  subst hj
  refine lv_astore_n (lv' := [(2, .ref (h_ 1 0)), (0, .ref (a 0)), (1, .ref (b 0))]) hx hb dX2_record_24 rfl hl (by decide) rfl (fun ls hl => ?_)
  refine lv_aload_n hx hb dX2_record_25 rfl (lv_at hl 0 rfl) ?_
  refine lv_ifnull hx hb dX2_record_26 ?_
  refine lv_aload_n hx hb dX2_record_29 rfl (lv_at hl 0 rfl) ?_
  refine lv_aload_n hx hb dX2_record_30 rfl (lv_at hl 2 rfl) ?_
  rw [hist_split] at hP hD
  refine kMBv (q0 := 0) (As := [.ref (b 0)]) (rest := []) (ws' := fun u : Int32 × Int32 × RowT × RowT × RowT × RowT => bfl [[(a 0, .inr (2, [.ref (a 1), .int (nI 1)])), (a 1, .inl (kB, 4, .inr (.inr (.inr (.inr (fun k => some (h_ k 0)))))))], cwBookV kI (h_ 0) (f_ 0), cwBookV kI (h_ 1) u, cwBookV kI (h_ 2) (f_ 2), cwBookV kI (h_ 3) (f_ 3), (cwBook kI b al sg r1 r2 r3 r4)]) C (c_X1_become l D kI kC kB (h_ 1) b (f_ 1).1 (f_ 1).2.1 (f_ 1).2.2.1 (f_ 1).2.2.2.1 (f_ 1).2.2.2.2.1 (f_ 1).2.2.2.2.2 al sg r1 r2 r3 r4 H.size _ hw) ⟨rfl, rfl⟩ ce_X1_become cv_X1_become tw_213 ⟨Nat.le_of_ble_eq_true rfl, Nat.le_of_ble_eq_true rfl⟩ hP hD hS hA (bfl_p2 [_, _, _, _, _, _] 2 4 rfl rfl) (fun u => bfl_p2 [_, _, _, _, _, _] 2 4 rfl rfl) rfl rfl rfl hl.1 rfl (Nat.le_of_ble_eq_true rfl) ⟨Nat.zero_le _, Nat.zero_le _⟩ dX2_record_31 (fun u H locs hw hP hD hS => ?_)
  obtain ⟨u1, u2, u3, u4, u5, u6⟩ := u
  replace hP : va_P D vwCl (cwHist kI kB a h_ ((hset f_ 1 (u1, u2, u3, u4, u5, u6)), nI 1) ++ (cwBook kI b al sg r1 r2 r3 r4)) H := by rw [hist_split]; exact hP
  replace hD : va_D A (cwHist kI kB a h_ ((hset f_ 1 (u1, u2, u3, u4, u5, u6)), nI 1) ++ (cwBook kI b al sg r1 r2 r3 r4)) := by rw [hist_split]; exact hD
  refine lv_aload_n hx hb dX2_record_34 rfl (lv_at hl 1 rfl) ?_
  refine lv_dup hx hb dX2_record_35 rfl ?_
  refine va_get (D := D) (ci := 2) (v := .int (nI 1)) (C := RX2) (T := TX2) (N := 2) hx hb hts inX2 hown hK.1 hP 0 rfl rfl 1 (by decide) (hts _ tw_109) (fun _ h9 => h9) rfl dX2_record_36 ?_
  refine lv_iconst (v := 1) hx hb dX2_record_39 (by decide) ?_
  refine lv_iadd hx hb dX2_record_40 ?_
  refine lv_topi (fun y ey => ?_)
  obtain rfl : y = nI 2 := by rw [ey]; decide
  refine va_put (D := D) (ci := 2) (v := .int (nI 2)) (ty := .int) (C := RX2) (T := TX2) (N := 2) hx hb hts inX2 tyX2 tyX2_ok nmX2 hown hK.1 hP hD hS 0 rfl rfl 1 (by decide) (hts _ tw_109) (fun _ h9 => h9) rfl (tyX2_ok 1 (by decide)) rfl rfl (Nat.le_of_ble_eq_true rfl) dX2_record_41 (fun H locs hP hD hS => ?_)
  replace hP : va_P D vwCl (cwHist kI kB a h_ ((hset f_ 1 (u1, u2, u3, u4, u5, u6)), nI 2) ++ (cwBook kI b al sg r1 r2 r3 r4)) H := hP
  replace hD : va_D A (cwHist kI kB a h_ ((hset f_ 1 (u1, u2, u3, u4, u5, u6)), nI 2) ++ (cwBook kI b al sg r1 r2 r3 r4)) := hD
  exact retMv C (h_, ((hset f_ 1 (u1, u2, u3, u4, u5, u6)), nI 2)) hw hP hD hS dX2_record_44
set_option maxHeartbeats 400000 in
set_option maxRecDepth 100000 in
theorem cj_X2_record_16_2 (l : Launch) (D : va_G) (kI kC kB : ClassId) (a : AdT) (h_ : Nat → AdT) (b : AdT) (f_ : Nat → BookT) (al sg : Int32) (r1 r2 r3 r4 : RowT) (Post : HistT → Prop) {p : Program} {e : Env} {s : State} {m : MethodId} {args : Array Value} {below : List Frame} {meth : Method} {c : Code} {A : Nat → Prop} (hA : ∀ q : Nat, s.heap.size ≤ q → A q) (C : CtxT p s m args meth c cX2_record 3 none yX2_record.cls D kI kC kB) (hw : wp_bookBecome (f_ 2) (al, sg, r1, r2, r3, r4) (fun b => Post (hset f_ 2 b, nI 3))) : ∀ (H : Heap) (locs : List Loc), va_P D vwCl (cwHist kI kB a h_ (f_, nI 2) ++ (cwBook kI b al sg r1 r2 r3 r4)) H → va_D A (cwHist kI kB a h_ (f_, nI 2) ++ (cwBook kI b al sg r1 r2 r3 r4)) → va_S A s.heap H locs → ∀ (ls : Array Slot), lv_has ls 3 [(0, .ref (a 0)), (1, .ref (b 0))] → W p l e ({ frames := 3, cells := 0, slots := 0, locals := 65 } : Room) s m args below meth c H locs 0 0 (MQ below (va_Qv (fun u : (Nat → AdT) × HistT => Post u.2) (BB D A (fun u : (Nat → AdT) × HistT => cwHist kI kB a u.1 u.2 ++ (cwBook kI b al sg r1 r2 r3 r4))) A) args s 0 0 A) (F0 m 16 ls []) := by
  obtain ⟨hx, hb, hr, hml, hown, hts, hlocks, hK⟩ := id C
  intro H locs hP hD hS ls hl
  refine lv_aload_n hx hb dX2_record_16 rfl (lv_at hl 0 rfl) ?_
  refine lv_aload_n hx hb dX2_record_17 rfl (lv_at hl 0 rfl) ?_
  refine va_get (D := D) (ci := 2) (v := .int (nI 2)) (C := RX2) (T := TX2) (N := 2) hx hb hts inX2 hown hK.1 hP 0 rfl rfl 1 (by decide) (hts _ tw_109) (fun _ h9 => h9) rfl dX2_record_18 ?_
  refine va_csr (runV (As := [.int (nI 2)]) (rest := []) C (c_X2_bookAt l D kI kC kB a h_ (f_, nI 2) 2 (by decide)) ⟨rfl, rfl⟩ ce_X2_bookAt cv_X2_bookAt tw_209 ⟨Nat.le_of_ble_eq_true rfl, Nat.le_of_ble_eq_true rfl⟩ PR_blind (va_recv hK.1 hP (ci := 2) (q0 := 0) rfl rfl) (fun U h1 h2 => ⟨by rw [h1]; exact hP.sub [0, 1, 2, 3, 4, 5, 6, 7, 8, 9, 10, 11, 12, 13, 14, 15, 16, 17, 18, 19, 20, 21, 22, 23, 24, 25, 26, 27, 28, 29, 30, 31, 32, 33, 34, 35, 36, 37, 38, 39, 40, 41] rfl, hK.warm h2⟩) hl.1 rfl (Nat.le_of_ble_eq_true rfl) dX2_record_21 ⟨Nat.zero_le _, Nat.zero_le _⟩).run (fun j hj => ?_)
  subst hj
  refine lv_astore_n (lv' := [(2, .ref (h_ 2 0)), (0, .ref (a 0)), (1, .ref (b 0))]) hx hb dX2_record_24 rfl hl (by decide) rfl (fun ls hl => ?_)
  refine lv_aload_n hx hb dX2_record_25 rfl (lv_at hl 0 rfl) ?_
  refine lv_ifnull hx hb dX2_record_26 ?_
  refine lv_aload_n hx hb dX2_record_29 rfl (lv_at hl 0 rfl) ?_
  refine lv_aload_n hx hb dX2_record_30 rfl (lv_at hl 2 rfl) ?_
  rw [hist_split] at hP hD
  refine kMBv (q0 := 0) (As := [.ref (b 0)]) (rest := []) (ws' := fun u : Int32 × Int32 × RowT × RowT × RowT × RowT => bfl [[(a 0, .inr (2, [.ref (a 1), .int (nI 2)])), (a 1, .inl (kB, 4, .inr (.inr (.inr (.inr (fun k => some (h_ k 0)))))))], cwBookV kI (h_ 0) (f_ 0), cwBookV kI (h_ 1) (f_ 1), cwBookV kI (h_ 2) u, cwBookV kI (h_ 3) (f_ 3), (cwBook kI b al sg r1 r2 r3 r4)]) C (c_X1_become l D kI kC kB (h_ 2) b (f_ 2).1 (f_ 2).2.1 (f_ 2).2.2.1 (f_ 2).2.2.2.1 (f_ 2).2.2.2.2.1 (f_ 2).2.2.2.2.2 al sg r1 r2 r3 r4 H.size _ hw) ⟨rfl, rfl⟩ ce_X1_become cv_X1_become tw_213 ⟨Nat.le_of_ble_eq_true rfl, Nat.le_of_ble_eq_true rfl⟩ hP hD hS hA (bfl_p2 [_, _, _, _, _, _] 3 4 rfl rfl) (fun u => bfl_p2 [_, _, _, _, _, _] 3 4 rfl rfl) rfl rfl rfl hl.1 rfl (Nat.le_of_ble_eq_true rfl) ⟨Nat.zero_le _, Nat.zero_le _⟩ dX2_record_31 (fun u H locs hw hP hD hS => ?_)
  obtain ⟨u1, u2, u3, u4, u5, u6⟩ := u
  replace hP : va_P D vwCl (cwHist kI kB a h_ ((hset f_ 2 (u1, u2, u3, u4, u5, u6)), nI 2) ++ (cwBook kI b al sg r1 r2 r3 r4)) H := by rw [hist_split]; exact hP
  replace hD : va_D A (cwHist kI kB a h_ ((hset f_ 2 (u1, u2, u3, u4, u5, u6)), nI 2) ++ (cwBook kI b al sg r1 r2 r3 r4)) := by rw [hist_split]; exact hD
  refine lv_aload_n hx hb dX2_record_34 rfl (lv_at hl 1 rfl) ?_
  refine lv_dup hx hb dX2_record_35 rfl ?_
  refine va_get (D := D) (ci := 2) (v := .int (nI 2)) (C := RX2) (T := TX2) (N := 2) hx hb hts inX2 hown hK.1 hP 0 rfl rfl 1 (by decide) (hts _ tw_109) (fun _ h9 => h9) rfl dX2_record_36 ?_
  refine lv_iconst (v := 1) hx hb dX2_record_39 (by decide) ?_
  refine lv_iadd hx hb dX2_record_40 ?_
  refine lv_topi (fun y ey => ?_)
  obtain rfl : y = nI 3 := by rw [ey]; decide
  refine va_put (D := D) (ci := 2) (v := .int (nI 3)) (ty := .int) (C := RX2) (T := TX2) (N := 2) hx hb hts inX2 tyX2 tyX2_ok nmX2 hown hK.1 hP hD hS 0 rfl rfl 1 (by decide) (hts _ tw_109) (fun _ h9 => h9) rfl (tyX2_ok 1 (by decide)) rfl rfl (Nat.le_of_ble_eq_true rfl) dX2_record_41 (fun H locs hP hD hS => ?_)
  replace hP : va_P D vwCl (cwHist kI kB a h_ ((hset f_ 2 (u1, u2, u3, u4, u5, u6)), nI 3) ++ (cwBook kI b al sg r1 r2 r3 r4)) H := hP
  replace hD : va_D A (cwHist kI kB a h_ ((hset f_ 2 (u1, u2, u3, u4, u5, u6)), nI 3) ++ (cwBook kI b al sg r1 r2 r3 r4)) := hD
  exact retMv C (h_, ((hset f_ 2 (u1, u2, u3, u4, u5, u6)), nI 3)) hw hP hD hS dX2_record_44
set_option maxHeartbeats 400000 in
set_option maxRecDepth 100000 in
theorem cj_X2_record_16_3 (l : Launch) (D : va_G) (kI kC kB : ClassId) (a : AdT) (h_ : Nat → AdT) (b : AdT) (f_ : Nat → BookT) (al sg : Int32) (r1 r2 r3 r4 : RowT) (Post : HistT → Prop) {p : Program} {e : Env} {s : State} {m : MethodId} {args : Array Value} {below : List Frame} {meth : Method} {c : Code} {A : Nat → Prop} (hA : ∀ q : Nat, s.heap.size ≤ q → A q) (C : CtxT p s m args meth c cX2_record 3 none yX2_record.cls D kI kC kB) (hw : wp_bookBecome (f_ 3) (al, sg, r1, r2, r3, r4) (fun b => Post (hset f_ 3 b, nI 4))) : ∀ (H : Heap) (locs : List Loc), va_P D vwCl (cwHist kI kB a h_ (f_, nI 3) ++ (cwBook kI b al sg r1 r2 r3 r4)) H → va_D A (cwHist kI kB a h_ (f_, nI 3) ++ (cwBook kI b al sg r1 r2 r3 r4)) → va_S A s.heap H locs → ∀ (ls : Array Slot), lv_has ls 3 [(0, .ref (a 0)), (1, .ref (b 0))] → W p l e ({ frames := 3, cells := 0, slots := 0, locals := 65 } : Room) s m args below meth c H locs 0 0 (MQ below (va_Qv (fun u : (Nat → AdT) × HistT => Post u.2) (BB D A (fun u : (Nat → AdT) × HistT => cwHist kI kB a u.1 u.2 ++ (cwBook kI b al sg r1 r2 r3 r4))) A) args s 0 0 A) (F0 m 16 ls []) := by
  obtain ⟨hx, hb, hr, hml, hown, hts, hlocks, hK⟩ := id C
  intro H locs hP hD hS ls hl
  refine lv_aload_n hx hb dX2_record_16 rfl (lv_at hl 0 rfl) ?_
  refine lv_aload_n hx hb dX2_record_17 rfl (lv_at hl 0 rfl) ?_
  refine va_get (D := D) (ci := 2) (v := .int (nI 3)) (C := RX2) (T := TX2) (N := 2) hx hb hts inX2 hown hK.1 hP 0 rfl rfl 1 (by decide) (hts _ tw_109) (fun _ h9 => h9) rfl dX2_record_18 ?_
  refine va_csr (runV (As := [.int (nI 3)]) (rest := []) C (c_X2_bookAt l D kI kC kB a h_ (f_, nI 3) 3 (by decide)) ⟨rfl, rfl⟩ ce_X2_bookAt cv_X2_bookAt tw_209 ⟨Nat.le_of_ble_eq_true rfl, Nat.le_of_ble_eq_true rfl⟩ PR_blind (va_recv hK.1 hP (ci := 2) (q0 := 0) rfl rfl) (fun U h1 h2 => ⟨by rw [h1]; exact hP.sub [0, 1, 2, 3, 4, 5, 6, 7, 8, 9, 10, 11, 12, 13, 14, 15, 16, 17, 18, 19, 20, 21, 22, 23, 24, 25, 26, 27, 28, 29, 30, 31, 32, 33, 34, 35, 36, 37, 38, 39, 40, 41] rfl, hK.warm h2⟩) hl.1 rfl (Nat.le_of_ble_eq_true rfl) dX2_record_21 ⟨Nat.zero_le _, Nat.zero_le _⟩).run (fun j hj => ?_)
  subst hj
  refine lv_astore_n (lv' := [(2, .ref (h_ 3 0)), (0, .ref (a 0)), (1, .ref (b 0))]) hx hb dX2_record_24 rfl hl (by decide) rfl (fun ls hl => ?_)
  refine lv_aload_n hx hb dX2_record_25 rfl (lv_at hl 0 rfl) ?_
  refine lv_ifnull hx hb dX2_record_26 ?_
  refine lv_aload_n hx hb dX2_record_29 rfl (lv_at hl 0 rfl) ?_
  refine lv_aload_n hx hb dX2_record_30 rfl (lv_at hl 2 rfl) ?_
  rw [hist_split] at hP hD
  refine kMBv (q0 := 0) (As := [.ref (b 0)]) (rest := []) (ws' := fun u : Int32 × Int32 × RowT × RowT × RowT × RowT => bfl [[(a 0, .inr (2, [.ref (a 1), .int (nI 3)])), (a 1, .inl (kB, 4, .inr (.inr (.inr (.inr (fun k => some (h_ k 0)))))))], cwBookV kI (h_ 0) (f_ 0), cwBookV kI (h_ 1) (f_ 1), cwBookV kI (h_ 2) (f_ 2), cwBookV kI (h_ 3) u, (cwBook kI b al sg r1 r2 r3 r4)]) C (c_X1_become l D kI kC kB (h_ 3) b (f_ 3).1 (f_ 3).2.1 (f_ 3).2.2.1 (f_ 3).2.2.2.1 (f_ 3).2.2.2.2.1 (f_ 3).2.2.2.2.2 al sg r1 r2 r3 r4 H.size _ hw) ⟨rfl, rfl⟩ ce_X1_become cv_X1_become tw_213 ⟨Nat.le_of_ble_eq_true rfl, Nat.le_of_ble_eq_true rfl⟩ hP hD hS hA (bfl_p2 [_, _, _, _, _, _] 4 4 rfl rfl) (fun u => bfl_p2 [_, _, _, _, _, _] 4 4 rfl rfl) rfl rfl rfl hl.1 rfl (Nat.le_of_ble_eq_true rfl) ⟨Nat.zero_le _, Nat.zero_le _⟩ dX2_record_31 (fun u H locs hw hP hD hS => ?_)
  obtain ⟨u1, u2, u3, u4, u5, u6⟩ := u
  replace hP : va_P D vwCl (cwHist kI kB a h_ ((hset f_ 3 (u1, u2, u3, u4, u5, u6)), nI 3) ++ (cwBook kI b al sg r1 r2 r3 r4)) H := by rw [hist_split]; exact hP
  replace hD : va_D A (cwHist kI kB a h_ ((hset f_ 3 (u1, u2, u3, u4, u5, u6)), nI 3) ++ (cwBook kI b al sg r1 r2 r3 r4)) := by rw [hist_split]; exact hD
  refine lv_aload_n hx hb dX2_record_34 rfl (lv_at hl 1 rfl) ?_
  refine lv_dup hx hb dX2_record_35 rfl ?_
  refine va_get (D := D) (ci := 2) (v := .int (nI 3)) (C := RX2) (T := TX2) (N := 2) hx hb hts inX2 hown hK.1 hP 0 rfl rfl 1 (by decide) (hts _ tw_109) (fun _ h9 => h9) rfl dX2_record_36 ?_
  refine lv_iconst (v := 1) hx hb dX2_record_39 (by decide) ?_
  refine lv_iadd hx hb dX2_record_40 ?_
  refine lv_topi (fun y ey => ?_)
  obtain rfl : y = nI 4 := by rw [ey]; decide
  refine va_put (D := D) (ci := 2) (v := .int (nI 4)) (ty := .int) (C := RX2) (T := TX2) (N := 2) hx hb hts inX2 tyX2 tyX2_ok nmX2 hown hK.1 hP hD hS 0 rfl rfl 1 (by decide) (hts _ tw_109) (fun _ h9 => h9) rfl (tyX2_ok 1 (by decide)) rfl rfl (Nat.le_of_ble_eq_true rfl) dX2_record_41 (fun H locs hP hD hS => ?_)
  replace hP : va_P D vwCl (cwHist kI kB a h_ ((hset f_ 3 (u1, u2, u3, u4, u5, u6)), nI 4) ++ (cwBook kI b al sg r1 r2 r3 r4)) H := hP
  replace hD : va_D A (cwHist kI kB a h_ ((hset f_ 3 (u1, u2, u3, u4, u5, u6)), nI 4) ++ (cwBook kI b al sg r1 r2 r3 r4)) := hD
  exact retMv C (h_, ((hset f_ 3 (u1, u2, u3, u4, u5, u6)), nI 4)) hw hP hD hS dX2_record_44
set_option maxHeartbeats 400000 in
set_option maxRecDepth 100000 in
theorem c_X2_record (l : Launch) (D : va_G) (kI kC kB : ClassId) (a : AdT) (h_ : Nat → AdT) (b : AdT) (z_ : HistT) (al sg : Int32) (r1 r2 r3 r4 : RowT) (sz : Nat) (Post : HistT → Prop) (hw : wp_X2_record z_ al sg r1 r2 r3 r4 Post) : CMv l D kI kC kB yX2_record cX2_record 3 none ({ frames := 3, cells := 0, slots := 0, locals := 65 } : Room) [.ref (a 0), .ref (b 0)] (cwHist kI kB a h_ z_ ++ (cwBook kI b al sg r1 r2 r3 r4)) sz (fun u : (Nat → AdT) × HistT => Post u.2) (fun u : (Nat → AdT) × HistT => cwHist kI kB a u.1 u.2 ++ (cwBook kI b al sg r1 r2 r3 r4)) := by
  refine entMv (by decide) (Nat.le_of_ble_eq_true rfl) ?_
  intro p e s m args below meth c ls A C hA hP hD hS hl
  obtain ⟨hx, hb, hr, hml, hown, hts, hlocks, hK⟩ := id C
  replace hl : lv_has ls 3 [(0, .ref (a 0)), (1, .ref (b 0))] := hl
  obtain ⟨f_, st_⟩ := z_
  obtain ⟨k, hk, hv, hw1, hw2⟩ := hw
  obtain rfl : st_ = nI k := hv
  refine lv_aload_n hx hb dX2_record_0 rfl (lv_at hl 0 rfl) ?_
  refine va_get (D := D) (ci := 2) (v := .int (nI k)) (C := RX2) (T := TX2) (N := 2) hx hb hts inX2 hown hK.1 hP 0 rfl rfl 1 (by decide) (hts _ tw_109) (fun _ h9 => h9) rfl dX2_record_1 ?_
  refine lv_aload_n hx hb dX2_record_4 rfl (lv_at hl 0 rfl) ?_
  refine va_get (D := D) (ci := 2) (v := .ref (a 1)) (C := RX2) (T := TX2) (N := 2) hx hb hts inX2 hown hK.1 hP 0 rfl rfl 0 (by decide) (hts _ tw_108) (fun _ h9 => h9) rfl dX2_record_5 ?_
  refine va_alen (v := nI 4) hx hb hK.1 hP 1 2 rfl rfl rfl dX2_record_8 ?_
  refine lv_icmp_lt (tgt := 16) hx hb dX2_record_9 (by decide) (fun hc => ?_) (fun hc => ?_)
  · have hk4 : k < 4 := by
      rcases Nat.lt_or_ge k 4 with q | q
      · exact q
      · exact absurd hc (nI_nlt q (by omega))
    have hw := hw1 hk4
    rcases (show k = 0 ∨ k = 1 ∨ k = 2 ∨ k = 3 by omega) with rfl | rfl | rfl | rfl
    · exact cj_X2_record_16_0 l D kI kC kB a h_ b f_ al sg r1 r2 r3 r4 Post hA C hw _ _ hP hD hS ls hl
    · exact cj_X2_record_16_1 l D kI kC kB a h_ b f_ al sg r1 r2 r3 r4 Post hA C hw _ _ hP hD hS ls hl
    · exact cj_X2_record_16_2 l D kI kC kB a h_ b f_ al sg r1 r2 r3 r4 Post hA C hw _ _ hP hD hS ls hl
    · exact cj_X2_record_16_3 l D kI kC kB a h_ b f_ al sg r1 r2 r3 r4 Post hA C hw _ _ hP hD hS ls hl
  · have hk4 : k = 4 := by
      rcases Nat.lt_or_ge k 4 with q | q
      · exact absurd (nI_lt q (by decide)) hc
      · omega
    subst hk4
    have hw := hw2 rfl
    refine lv_aload_n hx hb dX2_record_12 rfl (lv_at hl 0 rfl) ?_
    refine kMBv (q0 := 0) (As := []) (rest := []) (ws' := fun u : (Nat → AdT) × HistT => bfl [cwHist kI kB a u.1 u.2, (cwBook kI b al sg r1 r2 r3 r4)]) C (c_X2_dropOldest l D kI kC kB a h_ f_ s.heap.size) ⟨rfl, rfl⟩ ce_X2_dropOldest cv_X2_dropOldest tw_205 ⟨Nat.le_of_ble_eq_true rfl, Nat.le_of_ble_eq_true rfl⟩ hP hD hS hA (bfl_p1 [_, _] 0 rfl) (fun u => bfl_p1 [_, _] 0 rfl) rfl rfl rfl hl.1 rfl (Nat.le_of_ble_eq_true rfl) ⟨Nat.zero_le _, Nat.zero_le _⟩ dX2_record_13 (fun u H locs hu hP hD hS => ?_)
    subst hu
    replace hP : va_P D vwCl (cwHist kI kB a (hrotA h_) (hrot f_, nI 3) ++ (cwBook kI b al sg r1 r2 r3 r4)) H := hP
    replace hD : va_D A (cwHist kI kB a (hrotA h_) (hrot f_, nI 3) ++ (cwBook kI b al sg r1 r2 r3 r4)) := hD
    exact cj_X2_record_16_3 l D kI kC kB a (hrotA h_) b (hrot f_) al sg r1 r2 r3 r4 Post hA C hw _ _ hP hD hS ls hl
set_option maxHeartbeats 400000 in
set_option maxRecDepth 100000 in
theorem c_X2_takeBack (l : Launch) (D : va_G) (kI kC kB : ClassId) (a : AdT) (h_ : Nat → AdT) (b : AdT) (z_ : HistT) (al sg : Int32) (r1 r2 r3 r4 : RowT) (sz : Nat) (Post : HistT → Int32 → Int32 → RowT → RowT → RowT → RowT → Prop) (hw : wp_X2_takeBack z_ al sg r1 r2 r3 r4 Post) : CMv l D kI kC kB yX2_takeBack cX2_takeBack 3 none ({ frames := 3, cells := 0, slots := 0, locals := 65 } : Room) [.ref (a 0), .ref (b 0)] (cwHist kI kB a h_ z_ ++ (cwBook kI b al sg r1 r2 r3 r4)) sz (fun u : HistT × Int32 × Int32 × RowT × RowT × RowT × RowT => Post u.1 u.2.1 u.2.2.1 u.2.2.2.1 u.2.2.2.2.1 u.2.2.2.2.2.1 u.2.2.2.2.2.2) (fun u : HistT × Int32 × Int32 × RowT × RowT × RowT × RowT => cwHist kI kB a h_ u.1 ++ cwBook kI b u.2.1 u.2.2.1 u.2.2.2.1 u.2.2.2.2.1 u.2.2.2.2.2.1 u.2.2.2.2.2.2) := by
  refine entMv (by decide) (Nat.le_of_ble_eq_true rfl) ?_
  intro p e s m args below meth c ls A C hA hP hD hS hl
  obtain ⟨hx, hb, hr, hml, hown, hts, hlocks, hK⟩ := id C
  replace hl : lv_has ls 3 [(0, .ref (a 0)), (1, .ref (b 0))] := hl
  obtain ⟨f_, st_⟩ := z_
  obtain ⟨k, hk, hv, hw⟩ := hw
  obtain rfl : st_ = nI (k + 1) := hv
  refine lv_aload_n hx hb dX2_takeBack_0 rfl (lv_at hl 0 rfl) ?_
  refine lv_aload_n hx hb dX2_takeBack_1 rfl (lv_at hl 0 rfl) ?_
  refine va_get (D := D) (ci := 2) (v := .int (nI (k + 1))) (C := RX2) (T := TX2) (N := 2) hx hb hts inX2 hown hK.1 hP 0 rfl rfl 1 (by decide) (hts _ tw_109) (fun _ h9 => h9) rfl dX2_takeBack_2 ?_
  refine lv_iconst (v := 1) hx hb dX2_takeBack_5 (by decide) ?_
  refine lv_isub hx hb dX2_takeBack_6 ?_
  refine lv_topi (fun y ey => ?_)
  obtain rfl : y = nI k := by rw [ey, nI_pred]
  rcases (show k = 0 ∨ k = 1 ∨ k = 2 ∨ k = 3 by omega) with rfl | rfl | rfl | rfl
  · refine va_csr (runV (As := [.int (nI 0)]) (rest := []) C (c_X2_bookAt l D kI kC kB a h_ (f_, nI 1) 0 (by decide)) ⟨rfl, rfl⟩ ce_X2_bookAt cv_X2_bookAt tw_209 ⟨Nat.le_of_ble_eq_true rfl, Nat.le_of_ble_eq_true rfl⟩ PR_blind (va_recv hK.1 hP (ci := 2) (q0 := 0) rfl rfl) (fun U h1 h2 => ⟨by rw [h1]; exact hP.sub [0, 1, 2, 3, 4, 5, 6, 7, 8, 9, 10, 11, 12, 13, 14, 15, 16, 17, 18, 19, 20, 21, 22, 23, 24, 25, 26, 27, 28, 29, 30, 31, 32, 33, 34, 35, 36, 37, 38, 39, 40, 41] rfl, hK.warm h2⟩) hl.1 rfl (Nat.le_of_ble_eq_true rfl) dX2_takeBack_7 ⟨Nat.zero_le _, Nat.zero_le _⟩).run (fun j hj => ?_)
    subst hj
    refine lv_astore_n (lv' := [(2, .ref (h_ 0 0)), (0, .ref (a 0)), (1, .ref (b 0))]) hx hb dX2_takeBack_10 rfl hl (by decide) rfl (fun ls hl => ?_)
    refine lv_aload_n hx hb dX2_takeBack_11 rfl (lv_at hl 0 rfl) ?_
    refine lv_ifnull hx hb dX2_takeBack_12 ?_
    refine lv_aload_n hx hb dX2_takeBack_15 rfl (lv_at hl 2 rfl) ?_
    refine lv_aload_n hx hb dX2_takeBack_16 rfl (lv_at hl 0 rfl) ?_
    rw [hist_split] at hP hD
    refine kMBv (q0 := 0) (As := [.ref (h_ 0 0)]) (rest := []) (ws' := fun u : Int32 × Int32 × RowT × RowT × RowT × RowT => bfl [[(a 0, .inr (2, [.ref (a 1), .int (nI 1)])), (a 1, .inl (kB, 4, .inr (.inr (.inr (.inr (fun k => some (h_ k 0)))))))], cwBookV kI (h_ 0) (f_ 0), cwBookV kI (h_ 1) (f_ 1), cwBookV kI (h_ 2) (f_ 2), cwBookV kI (h_ 3) (f_ 3), cwBookV kI b u]) C (c_X1_become l D kI kC kB b (h_ 0) al sg r1 r2 r3 r4 (f_ 0).1 (f_ 0).2.1 (f_ 0).2.2.1 (f_ 0).2.2.2.1 (f_ 0).2.2.2.2.1 (f_ 0).2.2.2.2.2 s.heap.size _ hw) ⟨rfl, rfl⟩ ce_X1_become cv_X1_become tw_213 ⟨Nat.le_of_ble_eq_true rfl, Nat.le_of_ble_eq_true rfl⟩ hP hD hS hA (bfl_p2 [_, _, _, _, _, _] 5 1 rfl rfl) (fun u => bfl_p2 [_, _, _, _, _, _] 5 1 rfl rfl) rfl rfl rfl hl.1 rfl (Nat.le_of_ble_eq_true rfl) ⟨Nat.zero_le _, Nat.zero_le _⟩ dX2_takeBack_17 (fun u H locs hw hP hD hS => ?_)
    obtain ⟨u1, u2, u3, u4, u5, u6⟩ := u
    replace hP : va_P D vwCl (cwHist kI kB a h_ (f_, nI 1) ++ cwBook kI b u1 u2 u3 u4 u5 u6) H := by rw [hist_split]; exact hP
    replace hD : va_D A (cwHist kI kB a h_ (f_, nI 1) ++ cwBook kI b u1 u2 u3 u4 u5 u6) := by rw [hist_split]; exact hD
    refine lv_aload_n hx hb dX2_takeBack_20 rfl (lv_at hl 1 rfl) ?_
    refine lv_dup hx hb dX2_takeBack_21 rfl ?_
    refine va_get (D := D) (ci := 2) (v := .int (nI 1)) (C := RX2) (T := TX2) (N := 2) hx hb hts inX2 hown hK.1 hP 0 rfl rfl 1 (by decide) (hts _ tw_109) (fun _ h9 => h9) rfl dX2_takeBack_22 ?_
    refine lv_iconst (v := 1) hx hb dX2_takeBack_25 (by decide) ?_
    refine lv_isub hx hb dX2_takeBack_26 ?_
    refine lv_topi (fun y ey2 => ?_)
    obtain rfl : y = nI 0 := by rw [ey2]; decide
    refine va_put (D := D) (ci := 2) (v := .int (nI 0)) (ty := .int) (C := RX2) (T := TX2) (N := 2) hx hb hts inX2 tyX2 tyX2_ok nmX2 hown hK.1 hP hD hS 0 rfl rfl 1 (by decide) (hts _ tw_109) (fun _ h9 => h9) rfl (tyX2_ok 1 (by decide)) rfl rfl (Nat.le_of_ble_eq_true rfl) dX2_takeBack_27 (fun H locs hP hD hS => ?_)
    replace hP : va_P D vwCl (cwHist kI kB a h_ (f_, nI 0) ++ cwBook kI b u1 u2 u3 u4 u5 u6) H := hP
    replace hD : va_D A (cwHist kI kB a h_ (f_, nI 0) ++ cwBook kI b u1 u2 u3 u4 u5 u6) := hD
    exact retMv C ((f_, nI 0), u1, u2, u3, u4, u5, u6) hw hP hD hS dX2_takeBack_30
  · refine va_csr (runV (As := [.int (nI 1)]) (rest := []) C (c_X2_bookAt l D kI kC kB a h_ (f_, nI 2) 1 (by decide)) ⟨rfl, rfl⟩ ce_X2_bookAt cv_X2_bookAt tw_209 ⟨Nat.le_of_ble_eq_true rfl, Nat.le_of_ble_eq_true rfl⟩ PR_blind (va_recv hK.1 hP (ci := 2) (q0 := 0) rfl rfl) (fun U h1 h2 => ⟨by rw [h1]; exact hP.sub [0, 1, 2, 3, 4, 5, 6, 7, 8, 9, 10, 11, 12, 13, 14, 15, 16, 17, 18, 19, 20, 21, 22, 23, 24, 25, 26, 27, 28, 29, 30, 31, 32, 33, 34, 35, 36, 37, 38, 39, 40, 41] rfl, hK.warm h2⟩) hl.1 rfl (Nat.le_of_ble_eq_true rfl) dX2_takeBack_7 ⟨Nat.zero_le _, Nat.zero_le _⟩).run (fun j hj => ?_)
    subst hj
    refine lv_astore_n (lv' := [(2, .ref (h_ 1 0)), (0, .ref (a 0)), (1, .ref (b 0))]) hx hb dX2_takeBack_10 rfl hl (by decide) rfl (fun ls hl => ?_)
    refine lv_aload_n hx hb dX2_takeBack_11 rfl (lv_at hl 0 rfl) ?_
    refine lv_ifnull hx hb dX2_takeBack_12 ?_
    refine lv_aload_n hx hb dX2_takeBack_15 rfl (lv_at hl 2 rfl) ?_
    refine lv_aload_n hx hb dX2_takeBack_16 rfl (lv_at hl 0 rfl) ?_
    rw [hist_split] at hP hD
    refine kMBv (q0 := 0) (As := [.ref (h_ 1 0)]) (rest := []) (ws' := fun u : Int32 × Int32 × RowT × RowT × RowT × RowT => bfl [[(a 0, .inr (2, [.ref (a 1), .int (nI 2)])), (a 1, .inl (kB, 4, .inr (.inr (.inr (.inr (fun k => some (h_ k 0)))))))], cwBookV kI (h_ 0) (f_ 0), cwBookV kI (h_ 1) (f_ 1), cwBookV kI (h_ 2) (f_ 2), cwBookV kI (h_ 3) (f_ 3), cwBookV kI b u]) C (c_X1_become l D kI kC kB b (h_ 1) al sg r1 r2 r3 r4 (f_ 1).1 (f_ 1).2.1 (f_ 1).2.2.1 (f_ 1).2.2.2.1 (f_ 1).2.2.2.2.1 (f_ 1).2.2.2.2.2 s.heap.size _ hw) ⟨rfl, rfl⟩ ce_X1_become cv_X1_become tw_213 ⟨Nat.le_of_ble_eq_true rfl, Nat.le_of_ble_eq_true rfl⟩ hP hD hS hA (bfl_p2 [_, _, _, _, _, _] 5 2 rfl rfl) (fun u => bfl_p2 [_, _, _, _, _, _] 5 2 rfl rfl) rfl rfl rfl hl.1 rfl (Nat.le_of_ble_eq_true rfl) ⟨Nat.zero_le _, Nat.zero_le _⟩ dX2_takeBack_17 (fun u H locs hw hP hD hS => ?_)
    obtain ⟨u1, u2, u3, u4, u5, u6⟩ := u
    replace hP : va_P D vwCl (cwHist kI kB a h_ (f_, nI 2) ++ cwBook kI b u1 u2 u3 u4 u5 u6) H := by rw [hist_split]; exact hP
    replace hD : va_D A (cwHist kI kB a h_ (f_, nI 2) ++ cwBook kI b u1 u2 u3 u4 u5 u6) := by rw [hist_split]; exact hD
    refine lv_aload_n hx hb dX2_takeBack_20 rfl (lv_at hl 1 rfl) ?_
    refine lv_dup hx hb dX2_takeBack_21 rfl ?_
    refine va_get (D := D) (ci := 2) (v := .int (nI 2)) (C := RX2) (T := TX2) (N := 2) hx hb hts inX2 hown hK.1 hP 0 rfl rfl 1 (by decide) (hts _ tw_109) (fun _ h9 => h9) rfl dX2_takeBack_22 ?_
    refine lv_iconst (v := 1) hx hb dX2_takeBack_25 (by decide) ?_
    refine lv_isub hx hb dX2_takeBack_26 ?_
    refine lv_topi (fun y ey2 => ?_)
    obtain rfl : y = nI 1 := by rw [ey2]; decide
    refine va_put (D := D) (ci := 2) (v := .int (nI 1)) (ty := .int) (C := RX2) (T := TX2) (N := 2) hx hb hts inX2 tyX2 tyX2_ok nmX2 hown hK.1 hP hD hS 0 rfl rfl 1 (by decide) (hts _ tw_109) (fun _ h9 => h9) rfl (tyX2_ok 1 (by decide)) rfl rfl (Nat.le_of_ble_eq_true rfl) dX2_takeBack_27 (fun H locs hP hD hS => ?_)
    replace hP : va_P D vwCl (cwHist kI kB a h_ (f_, nI 1) ++ cwBook kI b u1 u2 u3 u4 u5 u6) H := hP
    replace hD : va_D A (cwHist kI kB a h_ (f_, nI 1) ++ cwBook kI b u1 u2 u3 u4 u5 u6) := hD
    exact retMv C ((f_, nI 1), u1, u2, u3, u4, u5, u6) hw hP hD hS dX2_takeBack_30
  · refine va_csr (runV (As := [.int (nI 2)]) (rest := []) C (c_X2_bookAt l D kI kC kB a h_ (f_, nI 3) 2 (by decide)) ⟨rfl, rfl⟩ ce_X2_bookAt cv_X2_bookAt tw_209 ⟨Nat.le_of_ble_eq_true rfl, Nat.le_of_ble_eq_true rfl⟩ PR_blind (va_recv hK.1 hP (ci := 2) (q0 := 0) rfl rfl) (fun U h1 h2 => ⟨by rw [h1]; exact hP.sub [0, 1, 2, 3, 4, 5, 6, 7, 8, 9, 10, 11, 12, 13, 14, 15, 16, 17, 18, 19, 20, 21, 22, 23, 24, 25, 26, 27, 28, 29, 30, 31, 32, 33, 34, 35, 36, 37, 38, 39, 40, 41] rfl, hK.warm h2⟩) hl.1 rfl (Nat.le_of_ble_eq_true rfl) dX2_takeBack_7 ⟨Nat.zero_le _, Nat.zero_le _⟩).run (fun j hj => ?_)
    subst hj
    refine lv_astore_n (lv' := [(2, .ref (h_ 2 0)), (0, .ref (a 0)), (1, .ref (b 0))]) hx hb dX2_takeBack_10 rfl hl (by decide) rfl (fun ls hl => ?_)
    refine lv_aload_n hx hb dX2_takeBack_11 rfl (lv_at hl 0 rfl) ?_
    refine lv_ifnull hx hb dX2_takeBack_12 ?_
    refine lv_aload_n hx hb dX2_takeBack_15 rfl (lv_at hl 2 rfl) ?_
    refine lv_aload_n hx hb dX2_takeBack_16 rfl (lv_at hl 0 rfl) ?_
    rw [hist_split] at hP hD
    refine kMBv (q0 := 0) (As := [.ref (h_ 2 0)]) (rest := []) (ws' := fun u : Int32 × Int32 × RowT × RowT × RowT × RowT => bfl [[(a 0, .inr (2, [.ref (a 1), .int (nI 3)])), (a 1, .inl (kB, 4, .inr (.inr (.inr (.inr (fun k => some (h_ k 0)))))))], cwBookV kI (h_ 0) (f_ 0), cwBookV kI (h_ 1) (f_ 1), cwBookV kI (h_ 2) (f_ 2), cwBookV kI (h_ 3) (f_ 3), cwBookV kI b u]) C (c_X1_become l D kI kC kB b (h_ 2) al sg r1 r2 r3 r4 (f_ 2).1 (f_ 2).2.1 (f_ 2).2.2.1 (f_ 2).2.2.2.1 (f_ 2).2.2.2.2.1 (f_ 2).2.2.2.2.2 s.heap.size _ hw) ⟨rfl, rfl⟩ ce_X1_become cv_X1_become tw_213 ⟨Nat.le_of_ble_eq_true rfl, Nat.le_of_ble_eq_true rfl⟩ hP hD hS hA (bfl_p2 [_, _, _, _, _, _] 5 3 rfl rfl) (fun u => bfl_p2 [_, _, _, _, _, _] 5 3 rfl rfl) rfl rfl rfl hl.1 rfl (Nat.le_of_ble_eq_true rfl) ⟨Nat.zero_le _, Nat.zero_le _⟩ dX2_takeBack_17 (fun u H locs hw hP hD hS => ?_)
    obtain ⟨u1, u2, u3, u4, u5, u6⟩ := u
    replace hP : va_P D vwCl (cwHist kI kB a h_ (f_, nI 3) ++ cwBook kI b u1 u2 u3 u4 u5 u6) H := by rw [hist_split]; exact hP
    replace hD : va_D A (cwHist kI kB a h_ (f_, nI 3) ++ cwBook kI b u1 u2 u3 u4 u5 u6) := by rw [hist_split]; exact hD
    refine lv_aload_n hx hb dX2_takeBack_20 rfl (lv_at hl 1 rfl) ?_
    refine lv_dup hx hb dX2_takeBack_21 rfl ?_
    refine va_get (D := D) (ci := 2) (v := .int (nI 3)) (C := RX2) (T := TX2) (N := 2) hx hb hts inX2 hown hK.1 hP 0 rfl rfl 1 (by decide) (hts _ tw_109) (fun _ h9 => h9) rfl dX2_takeBack_22 ?_
    refine lv_iconst (v := 1) hx hb dX2_takeBack_25 (by decide) ?_
    refine lv_isub hx hb dX2_takeBack_26 ?_
    refine lv_topi (fun y ey2 => ?_)
    obtain rfl : y = nI 2 := by rw [ey2]; decide
    refine va_put (D := D) (ci := 2) (v := .int (nI 2)) (ty := .int) (C := RX2) (T := TX2) (N := 2) hx hb hts inX2 tyX2 tyX2_ok nmX2 hown hK.1 hP hD hS 0 rfl rfl 1 (by decide) (hts _ tw_109) (fun _ h9 => h9) rfl (tyX2_ok 1 (by decide)) rfl rfl (Nat.le_of_ble_eq_true rfl) dX2_takeBack_27 (fun H locs hP hD hS => ?_)
    replace hP : va_P D vwCl (cwHist kI kB a h_ (f_, nI 2) ++ cwBook kI b u1 u2 u3 u4 u5 u6) H := hP
    replace hD : va_D A (cwHist kI kB a h_ (f_, nI 2) ++ cwBook kI b u1 u2 u3 u4 u5 u6) := hD
    exact retMv C ((f_, nI 2), u1, u2, u3, u4, u5, u6) hw hP hD hS dX2_takeBack_30
  · refine va_csr (runV (As := [.int (nI 3)]) (rest := []) C (c_X2_bookAt l D kI kC kB a h_ (f_, nI 4) 3 (by decide)) ⟨rfl, rfl⟩ ce_X2_bookAt cv_X2_bookAt tw_209 ⟨Nat.le_of_ble_eq_true rfl, Nat.le_of_ble_eq_true rfl⟩ PR_blind (va_recv hK.1 hP (ci := 2) (q0 := 0) rfl rfl) (fun U h1 h2 => ⟨by rw [h1]; exact hP.sub [0, 1, 2, 3, 4, 5, 6, 7, 8, 9, 10, 11, 12, 13, 14, 15, 16, 17, 18, 19, 20, 21, 22, 23, 24, 25, 26, 27, 28, 29, 30, 31, 32, 33, 34, 35, 36, 37, 38, 39, 40, 41] rfl, hK.warm h2⟩) hl.1 rfl (Nat.le_of_ble_eq_true rfl) dX2_takeBack_7 ⟨Nat.zero_le _, Nat.zero_le _⟩).run (fun j hj => ?_)
    subst hj
    refine lv_astore_n (lv' := [(2, .ref (h_ 3 0)), (0, .ref (a 0)), (1, .ref (b 0))]) hx hb dX2_takeBack_10 rfl hl (by decide) rfl (fun ls hl => ?_)
    refine lv_aload_n hx hb dX2_takeBack_11 rfl (lv_at hl 0 rfl) ?_
    refine lv_ifnull hx hb dX2_takeBack_12 ?_
    refine lv_aload_n hx hb dX2_takeBack_15 rfl (lv_at hl 2 rfl) ?_
    refine lv_aload_n hx hb dX2_takeBack_16 rfl (lv_at hl 0 rfl) ?_
    rw [hist_split] at hP hD
    refine kMBv (q0 := 0) (As := [.ref (h_ 3 0)]) (rest := []) (ws' := fun u : Int32 × Int32 × RowT × RowT × RowT × RowT => bfl [[(a 0, .inr (2, [.ref (a 1), .int (nI 4)])), (a 1, .inl (kB, 4, .inr (.inr (.inr (.inr (fun k => some (h_ k 0)))))))], cwBookV kI (h_ 0) (f_ 0), cwBookV kI (h_ 1) (f_ 1), cwBookV kI (h_ 2) (f_ 2), cwBookV kI (h_ 3) (f_ 3), cwBookV kI b u]) C (c_X1_become l D kI kC kB b (h_ 3) al sg r1 r2 r3 r4 (f_ 3).1 (f_ 3).2.1 (f_ 3).2.2.1 (f_ 3).2.2.2.1 (f_ 3).2.2.2.2.1 (f_ 3).2.2.2.2.2 s.heap.size _ hw) ⟨rfl, rfl⟩ ce_X1_become cv_X1_become tw_213 ⟨Nat.le_of_ble_eq_true rfl, Nat.le_of_ble_eq_true rfl⟩ hP hD hS hA (bfl_p2 [_, _, _, _, _, _] 5 4 rfl rfl) (fun u => bfl_p2 [_, _, _, _, _, _] 5 4 rfl rfl) rfl rfl rfl hl.1 rfl (Nat.le_of_ble_eq_true rfl) ⟨Nat.zero_le _, Nat.zero_le _⟩ dX2_takeBack_17 (fun u H locs hw hP hD hS => ?_)
    obtain ⟨u1, u2, u3, u4, u5, u6⟩ := u
    replace hP : va_P D vwCl (cwHist kI kB a h_ (f_, nI 4) ++ cwBook kI b u1 u2 u3 u4 u5 u6) H := by rw [hist_split]; exact hP
    replace hD : va_D A (cwHist kI kB a h_ (f_, nI 4) ++ cwBook kI b u1 u2 u3 u4 u5 u6) := by rw [hist_split]; exact hD
    refine lv_aload_n hx hb dX2_takeBack_20 rfl (lv_at hl 1 rfl) ?_
    refine lv_dup hx hb dX2_takeBack_21 rfl ?_
    refine va_get (D := D) (ci := 2) (v := .int (nI 4)) (C := RX2) (T := TX2) (N := 2) hx hb hts inX2 hown hK.1 hP 0 rfl rfl 1 (by decide) (hts _ tw_109) (fun _ h9 => h9) rfl dX2_takeBack_22 ?_
    refine lv_iconst (v := 1) hx hb dX2_takeBack_25 (by decide) ?_
    refine lv_isub hx hb dX2_takeBack_26 ?_
    refine lv_topi (fun y ey2 => ?_)
    obtain rfl : y = nI 3 := by rw [ey2]; decide
    refine va_put (D := D) (ci := 2) (v := .int (nI 3)) (ty := .int) (C := RX2) (T := TX2) (N := 2) hx hb hts inX2 tyX2 tyX2_ok nmX2 hown hK.1 hP hD hS 0 rfl rfl 1 (by decide) (hts _ tw_109) (fun _ h9 => h9) rfl (tyX2_ok 1 (by decide)) rfl rfl (Nat.le_of_ble_eq_true rfl) dX2_takeBack_27 (fun H locs hP hD hS => ?_)
    replace hP : va_P D vwCl (cwHist kI kB a h_ (f_, nI 3) ++ cwBook kI b u1 u2 u3 u4 u5 u6) H := hP
    replace hD : va_D A (cwHist kI kB a h_ (f_, nI 3) ++ cwBook kI b u1 u2 u3 u4 u5 u6) := hD
    exact retMv C ((f_, nI 3), u1, u2, u3, u4, u5, u6) hw hP hD hS dX2_takeBack_30
