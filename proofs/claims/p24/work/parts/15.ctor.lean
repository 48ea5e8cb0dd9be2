/-! contracts, printed (gen.py) -/
/-! constructors -/
theorem kI_eq {D : va_G} {kI kC kB cA : ClassId} {s : State} {tys : List (ClassId × FieldType)} (hK : kn D kI kC kB s) (h : va_K D vwCl (ty3 kI kC kB ++ [(cA, .int)]) s) : cA = kI := by
  have h1 := (h.2 3 (cA, .int) rfl).2
  have h2 := (hK.1.2 0 (kI, .int) rfl).2
  exact Option.some.inj (h1.symm.trans h2)
theorem kB_eq {D : va_G} {kI kC kB cA : ClassId} {s : State} (hK : kn D kI kC kB s) (h : va_K D vwCl (ty3 kI kC kB ++ [(cA, .object "QuireSigns$Book")]) s) : cA = kB := by
  obtain ⟨_, _, _, _, _, h1⟩ := (h.2 3 (cA, .object "QuireSigns$Book") rfl).2
  obtain ⟨_, _, _, _, _, h2⟩ := (hK.1.2 2 (kB, .object "QuireSigns$Book") rfl).2
  exact Option.some.inj (h1.symm.trans h2)
abbrev CMI {S : Type} (l : Launch) (D : va_G) (kI kC kB : ClassId) (y : MethodName) (b : ByteArray) (n : Nat) (rm : Room) (av : List Value) (w : va_W) (sz mc ms : Nat) (Post : S → Prop) (wf : S → va_W) : Prop :=
  Met l y (WS y b n none) rm (va_Pc av (PM D kI kC kB w sz)) (va_Qv Post (BB D (va_A w sz) wf) (va_A w sz)) mc ms (va_A w sz)
theorem entI {S : Type} {l : Launch} {D : va_G} {kI kC kB : ClassId} {y : MethodName} {b : ByteArray} {n mc ms : Nat} {rm : Room} {av : List Value} {w : va_W} {sz : Nat} {Post : S → Prop} {wf : S → va_W} (hy : plainName y.cls = true) (hyn : y.name = "<init>") (hn : (lg_sl av).length ≤ n)
    (body : ∀ (p : Program) (e : Env) (s : State) (m : MethodId) (args : Array Value) (below : List Frame) (meth : Method) (c : Code) (ls : Array Slot) (A : Nat → Prop), CtxT p s m args meth c b n none y.cls D kI kC kB → meth.name = "<init>" → (∀ q, s.heap.size ≤ q → A q) → va_P D vwCl w s.heap → va_D A w → va_S A s.heap s.heap [] → lv_has ls n (lv_args 0 av) →
      W p l e rm s m args below meth c s.heap [] 0 0 (MQ below (va_Qv Post (BB D A wf) A) args s mc ms A) (F0 m 0 ls [])) : CMI l D kI kC kB y b n rm av w sz mc ms Post wf := by
  refine Met.ofW (cc := b) (maxL := n) (ret := none) hy rfl ?_
  intro p e s m args below meth c s₁ B hml hv
  obtain ⟨rfl, hsz, hP, hK, hD0⟩ := hv
  subst hsz
  have hD := hD0.self (sz := s.heap.size)
  have hA : ∀ q : Nat, s.heap.size ≤ q → va_A w s.heap.size q := fun q h => Or.inr h
  generalize va_A w s.heap.size = A at hD hA ⊢
  have hts := atoms_spec (ws := WS y b n none) B.pre
  have hl := lv_entry av (n := n) hn
  rw [lg_entry_eq]
  generalize (lg_sl av ++ List.replicate (n - (lg_sl av).length) Slot.unset).toArray = ls at hl ⊢
  exact body p e s m _ below meth c ls A ⟨B.exec, B.bytes, B.returns, hml, findClass_of_methodNamed B.named, fun w h => hts w (List.mem_cons_of_mem _ h), B.notSynchronized, hK⟩ ((name_of_methodNamed B.named B.method).1.trans hyn) hA hP hD va_S.rf hl
section ctor
variable {p : Program} {l : Launch} {e : Env} {R : Room} {s : State} {m : MethodId} {args : Array Value} {below : List Frame} {meth : Method} {c : Code} {H H0 : Heap} {locs : List Loc} {cells slots mc ms : Nat} {Q : State → Prop} {D : va_G} {kI kC kB : ClassId} {A0 : Nat → Prop}
variable {y : MethodName} {bytes cc : ByteArray} {maxL nL k index pc : Nat} {r0 : Option FieldType} {rm : Room} {own host : String} {b : Addr} {As rest st0 : List Value} {ls : Array Slot}
theorem kMI {S : Type} {wr wc : va_W} {Post : S → Prop} {wf : S → va_W} (C : CtxT p s m args meth c cc nL r0 own D kI kC kB) (hM : CMI l D kI kC kB y bytes maxL rm (.ref b :: As) wc H.size mc ms Post wf) (hrm : rm.cells = mc ∧ rm.slots = ms) (ce : CE y bytes maxL none As.length) (hin : Cond.instanceMethod y ∈ gw) (hyn : y.name = "<init>") (hl : Cond.methodLink own index y ∈ gw) (hR : rm.frames + 1 ≤ R.frames ∧ 8 + (maxL + 11) + rm.locals ≤ R.locals)
    (hP : va_P D vwCl (wr ++ wc) H) (hD : va_D A0 (wr ++ wc)) (hS : va_S A0 H0 H locs) (hA : ∀ q, H0.size ≤ q → A0 q) (hls : ls.size = nL) (hst : st0 = As.reverse ++ Value.ref b :: rest) (hroom : (rest.map fun v => v.category).sum ≤ 8) (hf : cells + mc ≤ R.cells ∧ slots + ms ≤ R.slots) (hdg : decode cc pc = .ok (.invokespecial index, 3))
    (kk : ∀ (u : S) (H1 : Heap) (locs1 : List Loc), Post u → va_P D vwCl (wr ++ wf u) H1 → va_D A0 (wr ++ wf u) → va_S A0 H0 H1 locs1 → W p l e R s m args below meth c H1 locs1 (cells + mc) (slots + ms) Q (F0 m (pc + 3) ls rest)) : W p l e R s m args below meth c H locs cells slots Q (F0 m pc ls st0) := by
  have hK := C.2.2.2.2.2.2.2
  have hp : (wr ++ wc).Perm (wc ++ wr) := List.perm_append_comm
  have hF := va_free_p hp hD hS hA
  have hPc := va_P_cut hp hP
  have hts := C.2.2.2.2.2.1
  refine va_callv (va_runI ⟨C.1, C.2.1, C.2.2.2.1, C.2.2.2.2.1, hts⟩ hM ⟨callB_gw C hrm ce hl hR, hyn, hts _ hin⟩ ⟨PM_blind, fun U h1 h2 => ⟨rfl, by rw [h1], by rw [h1]; exact hPc, hK.warm h2, va_D_cut hp hD⟩⟩ rfl rfl hls hst (lv_room hroom) hdg hf) hS (fun q _ h => hF q h) hF (fun u t H1 locs1 ht hvm hw hB hz hk1 hS1 => ?_)
  obtain ⟨hP1, hD1⟩ := hB
  rw [ht] at hP1
  obtain ⟨hP2, hD2⟩ := vb_gen hp (List.perm_append_comm : (wr ++ wf u).Perm (wf u ++ wr)) hP hD hk1 hF hP1 hD1
  exact kk u H1 locs1 hw hP2 hD2 hS1
theorem kMIN {S : Type} {wr wc : va_W} {Post : S → Prop} {wf : S → va_W} (C : CtxT p s m args meth c cc nL r0 own D kI kC kB) (hM : CMI l D kI kC kB y bytes maxL rm (.ref b :: As) wc H.size mc ms Post wf) (hrm : rm.cells = mc ∧ rm.slots = ms) (ce : CE y bytes maxL none As.length) (hin : Cond.instanceMethod y ∈ gw) (hyn : y.name = "<init>") (hl : va_Nw (.methodLinkNest own index y host) s) (hR : rm.frames + 1 ≤ R.frames ∧ 8 + (maxL + 11) + rm.locals ≤ R.locals)
    (hP : va_P D vwCl (wr ++ wc) H) (hD : va_D A0 (wr ++ wc)) (hS : va_S A0 H0 H locs) (hA : ∀ q, H0.size ≤ q → A0 q) (hls : ls.size = nL) (hst : st0 = As.reverse ++ Value.ref b :: rest) (hroom : (rest.map fun v => v.category).sum ≤ 8) (hf : cells + mc ≤ R.cells ∧ slots + ms ≤ R.slots) (hdg : decode cc pc = .ok (.invokespecial index, 3))
    (kk : ∀ (u : S) (H1 : Heap) (locs1 : List Loc), Post u → va_P D vwCl (wr ++ wf u) H1 → va_D A0 (wr ++ wf u) → va_S A0 H0 H1 locs1 → W p l e R s m args below meth c H1 locs1 (cells + mc) (slots + ms) Q (F0 m (pc + 3) ls rest)) : W p l e R s m args below meth c H locs cells slots Q (F0 m pc ls st0) := by
  have hK := C.2.2.2.2.2.2.2
  have hp : (wr ++ wc).Perm (wc ++ wr) := List.perm_append_comm
  have hF := va_free_p hp hD hS hA
  have hPc := va_P_cut hp hP
  have hts := C.2.2.2.2.2.1
  obtain ⟨e1, e2, e3, e4⟩ := ce
  have hG : ∀ w ∈ WS y bytes maxL none, w ∈ gw ∧ ((w.onTables && w.keeps) = true ∨ ∃ ty, w = .arrayClass ty) := fun w h => (List.mem_cons.mp h).elim (fun q => by rw [q]; exact gw_good _ e1) (gw_good w)
  refine va_callv (va_runIN ⟨C.1, C.2.1, C.2.2.2.1, C.2.2.2.2.1, hts⟩ hM ⟨⟨⟨hrm.1, hrm.2, hR.1, hR.2, pay_in hts hG, List.mem_cons_self⟩, hts _ e1, hts _ e2, e3, e4, va_Nw.use rfl hl⟩, hyn, hts _ hin⟩ ⟨PM_blind, fun U h1 h2 => ⟨rfl, by rw [h1], by rw [h1]; exact hPc, hK.warm h2, va_D_cut hp hD⟩⟩ rfl rfl hls hst (lv_room hroom) hdg hf) hS (fun q _ h => hF q h) hF (fun u t H1 locs1 ht hvm hw hB hz hk1 hS1 => ?_)
  obtain ⟨hP1, hD1⟩ := hB
  rw [ht] at hP1
  obtain ⟨hP2, hD2⟩ := vb_gen hp (List.perm_append_comm : (wr ++ wf u).Perm (wf u ++ wr)) hP hD hk1 hF hP1 hD1
  exact kk u H1 locs1 hw hP2 hD2 hS1
theorem retI {S : Type} {Post : S → Prop} {wf : S → va_W} {A : Nat → Prop} (C : CtxT p s m args meth c cc nL none own D kI kC kB) (u : S) (hw : Post u) (hP : va_P D vwCl (wf u) H) (hD : va_D A (wf u)) (hS : va_S A s.heap H locs) (h1 : cells ≤ mc) (h2 : slots ≤ ms) (hdg : decode cc pc = .ok (.return_, 1)) : W p l e R s m args below meth c H locs cells slots (MQ below (va_Qv Post (BB D A wf) A) args s mc ms A) (F0 m pc ls []) :=
  W.widen (k := mc) (n := ms) h1 h2 (W.vret C.1 C.2.1 C.2.2.1 (fun t ht _ => ⟨⟨u, rfl, hw, by rw [ht]; exact hP, hD⟩, hS.F ht⟩) hS.2.2 hdg C.2.2.2.2.2.2.1)
end ctor
def row0 (n : Nat) : RowT := (n, (fun _ => 0), 0)
def book0 : BookT := (6291968, 1, row0 40, row0 40, row0 40, row0 12)
theorem ce_X4_init : CE yX4_init cX4_init 2 none 1 := ⟨tw_57, tw_20, ⟨by decide, by decide⟩, ce_par (by decide +kernel)⟩
theorem ce_X0_init : CE yX0_init cX0_init 2 none 1 := ⟨tw_47, tw_19, ⟨by decide, by decide⟩, ce_par (by decide +kernel)⟩
theorem ce_X1_init : CE yX1_init cX1_init 1 none 0 := ⟨tw_40, tw_18, ⟨by decide, by decide⟩, ce_par (by decide +kernel)⟩
theorem ce_X2_init : CE yX2_init cX2_init 2 none 0 := ⟨tw_103, tw_22, ⟨by decide, by decide⟩, ce_par (by decide +kernel)⟩
theorem ce_X6_init : CE yX6_init cX6_init 1 none 0 := ⟨tw_119, tw_23, ⟨by decide, by decide⟩, ce_par (by decide +kernel)⟩
theorem ce_X7_init : CE yX7_init cX7_init 1 none 0 := ⟨tw_148, tw_24, ⟨by decide, by decide⟩, ce_par (by decide +kernel)⟩
theorem ce_X8_init : CE yX8_init cX8_init 1 none 0 := ⟨tw_32, tw_17, ⟨by decide, by decide⟩, ce_par (by decide +kernel)⟩
set_option maxHeartbeats 1000000 in
set_option maxRecDepth 100000 in
theorem c_X0_init (l : Launch) (D : va_G) (kI kC kB : ClassId) (h0 : Nat) (sz : Nat) (v : Int32) : CMI l D kI kC kB yX0_init cX0_init 2 ({ frames := 1, cells := 0, slots := 0, locals := 12 } : Room) [.ref h0, .int v] [(h0, .inr (0, [.int 0]))] sz 0 0 (fun a : AdT => a 0 = h0) (fun a => cwAlph a v) := by
  refine entI (by decide) (by decide) (Nat.le_of_ble_eq_true rfl) ?_
  intro p e s m args below meth c ls A C hin hA hP hD hS hl
  replace hl : lv_has ls 2 [(0, .ref h0), (1, .int v)] := hl
  obtain ⟨hx, hb, hr, hml, hown, hts, hlocks, hK⟩ := id C
  refine lv_aload_n hx hb dX0_init_0 rfl (lv_at hl 0 rfl) ?_
  refine W.objInit hx hb hown (hts _ tw_48) (hts _ tw_34) (hts _ tw_35) rfl (by rw [hml]; exact hl.1) rfl dX0_init_1 (Nat.le_of_ble_eq_true rfl) (Nat.le_of_ble_eq_true rfl) ?_
  refine W.eq (g2 := F0 m 4 ls []) rfl ?_
  refine lv_aload_n hx hb dX0_init_4 rfl (lv_at hl 0 rfl) ?_
  refine lv_iload_n hx hb dX0_init_5 rfl (lv_at hl 1 rfl) ?_
  refine va_put (D := D) (ci := 0) (v := .int v) (ty := .int) (C := RX0) (T := TX0) (N := 1) hx hb hts inX0 tyX0 tyX0_ok nmX0 hown hK.1 hP hD hS 0 rfl rfl 0 (by decide) (hts _ tw_49) (fun _ h9 => h9) rfl (tyX0_ok 0 (by decide)) rfl rfl (Nat.le_of_ble_eq_true rfl) dX0_init_6 (fun H locs hP hD hS => ?_)
  exact retI C (fun _ => h0) rfl hP hD hS (Nat.le_refl _) (Nat.le_refl _) dX0_init_9
set_option maxHeartbeats 1000000 in
set_option maxRecDepth 100000 in
theorem c_X4_init (l : Launch) (D : va_G) (kI kC kB : ClassId) (h0 : Nat) (sz : Nat) (n : Nat) (hn : n ≤ 1000) : CMI l D kI kC kB yX4_init cX4_init 2 ({ frames := 1, cells := 1, slots := n, locals := 21 } : Room) [.ref h0, .int (nI n)] [(h0, .inr (3, [.null, .int 0]))] sz 1 n (fun a : AdT => a 0 = h0) (fun a => cwRow kI a (row0 n)) := by
  refine entI (by decide) (by decide) (Nat.le_of_ble_eq_true rfl) ?_
  intro p e s m args below meth c ls A C hin hA hP hD hS hl
  replace hl : lv_has ls 2 [(0, .ref h0), (1, .int (nI n))] := hl
  obtain ⟨hx, hb, hr, hml, hown, hts, hlocks, hK⟩ := id C
  refine lv_aload_n hx hb dX4_init_0 rfl (lv_at hl 0 rfl) ?_
  refine W.objInit hx hb hown (hts _ tw_58) (hts _ tw_34) (hts _ tw_35) rfl (by rw [hml]; exact hl.1) rfl dX4_init_1 (Nat.le_of_ble_eq_true rfl) (Nat.le_of_ble_eq_true rfl) ?_
  refine W.eq (g2 := F0 m 4 ls []) rfl ?_
  refine lv_aload_n hx hb dX4_init_4 rfl (lv_at hl 0 rfl) ?_
  refine lv_iload_n hx hb dX4_init_5 rfl (lv_at hl 1 rfl) ?_
  refine lv_iconst (v := 0) hx hb dX4_init_6 (by decide) ?_
  refine va_mmax hx hb (by rw [C.2.2.2.1]; exact hl.1.symm) hown (hts _ tw_59) (hts _ tw_60) (hts _ tw_21) (hts _ tw_61) (Nat.le_of_ble_eq_true rfl) (Nat.le_of_ble_eq_true rfl) (Nat.zero_le _) (Nat.zero_le _) dX4_init_7 ?_
  refine W.eq (g2 := F0 m 10 ls [.int (nI n), .ref h0]) (by rw [if_neg (nI_pos (by omega))]) ?_
  refine va_newa (atype := .int) (a0 := (n, .inl (fun _ => 0))) hx hb (hts _ tw_69) rfl hK.1 hP hD hS hA (fun _ => rfl) (nI_pos (by omega)) (nI_clamp (by omega)) (by show n * 4 ≤ 536870912; omega) (by show 0 + 1 ≤ 1; omega) (by show 0 + n ≤ n; omega) dX4_init_10 (fun q cA H hK2 hP hD hS => ?_)
  obtain rfl := kI_eq (tys := []) hK hK2
  refine va_putF (D := D) (ci := 3) (v := .ref q) (ty := .array .int) (C := RX4) (T := TX4) (N := 2) hx hb hts inX4 tyX4 tyX4_ok nmX4 hown hK.1 hP hD hS 0 rfl rfl 0 (by decide) (hts _ tw_62) (fun _ h9 => h9) rfl hin rfl (tyX4_ok 0 (by decide)) rfl rfl (Nat.le_of_ble_eq_true rfl) dX4_init_12 (fun H locs hP hD hS => ?_)
  exact retI C (fun k => if k = 0 then h0 else q) rfl hP hD hS (by omega) (by omega) dX4_init_15
set_option maxHeartbeats 1000000 in
set_option maxRecDepth 100000 in
theorem c_X1_init (l : Launch) (D : va_G) (kI kC kB : ClassId) (h0 : Nat) (sz : Nat) : CMI l D kI kC kB yX1_init cX1_init 1 ({ frames := 2, cells := 9, slots := 141, locals := 42 } : Room) [.ref h0] [(h0, .inr (1, [.null, .int 0, .null, .null, .null, .null]))] sz 9 141 (fun a : AdT => a 0 = h0) (fun a => cwBookV kI a book0) := by
  refine entI (by decide) (by decide) (Nat.le_of_ble_eq_true rfl) ?_
  intro p e s m args below meth c ls A C hin hA hP hD hS hl
  replace hl : lv_has ls 1 [(0, .ref h0)] := hl
  obtain ⟨hx, hb, hr, hml, hown, hts, hlocks, hK⟩ := id C
  refine lv_aload_n hx hb dX1_init_0 rfl (lv_at hl 0 rfl) ?_
  refine W.objInit hx hb hown (hts _ tw_41) (hts _ tw_34) (hts _ tw_35) rfl (by rw [hml]; exact hl.1) rfl dX1_init_1 (Nat.le_of_ble_eq_true rfl) (Nat.le_of_ble_eq_true rfl) ?_
  refine W.eq (g2 := F0 m 4 ls []) rfl ?_
  refine lv_aload_n hx hb dX1_init_4 rfl (lv_at hl 0 rfl) ?_
  refine va_new (ci := 0) (fs := [.int 0]) (C := RX0) (T := TX0) (N := 1) hx hb hts inX0 tyX0 tyX0_ok hown (hts _ tw_42) (hts _ tw_43) (hts _ tw_19) hK.1 hP hD hS hA rfl (fun j hj => by rcases (show j = 0 by omega) with rfl <;> rfl) (Nat.le_of_ble_eq_true rfl) (Nat.le_of_ble_eq_true rfl) dX1_init_5 (fun q1 H hP hD hS => ?_)
  refine lv_dup hx hb dX1_init_8 rfl ?_
  refine lv_ldc (v := 6291968) hx hb hown (hts _ tw_44) dX1_init_9 ?_
  refine kMI (wr := [(h0, .inr (1, [.null, .int 0, .null, .null, .null, .null]))]) (As := [.int 6291968]) (rest := [.ref q1, .ref h0]) C (c_X0_init l D kI kC kB q1 H.size 6291968) ⟨rfl, rfl⟩ ce_X0_init tw_46 rfl tw_45 ⟨(Nat.le_of_ble_eq_true rfl), (Nat.le_of_ble_eq_true rfl)⟩ hP hD hS hA hl.1 rfl (Nat.le_of_ble_eq_true rfl) ⟨(Nat.le_of_ble_eq_true rfl), (Nat.le_of_ble_eq_true rfl)⟩ dX1_init_11 (fun a1 H locs ha1 hP2 hD2 hS2 => ?_)
  subst ha1
  have hP := hP2
  have hD := hD2
  have hS := hS2
  clear hP2 hD2 hS2
  refine va_putF (D := D) (ci := 1) (v := .ref (a1 0)) (ty := .object "QuireSigns$Alphabet") (C := RX1) (T := TX1) (N := 6) hx hb hts inX1 tyX1 tyX1_ok nmX1 hown hK.1 hP hD hS 0 rfl rfl 0 (by decide) (hts _ tw_70) (fun _ h9 => h9) rfl hin rfl (tyX1_ok 0 (by decide)) rfl rfl (Nat.le_of_ble_eq_true rfl) dX1_init_14 (fun H locs hP hD hS => ?_)
  replace hP : va_P D vwCl (([(h0, .inr (1, [.ref (a1 0), .int 0, .null, .null, .null, .null]))] ++ cwAlph a1 6291968)) H := hP
  replace hD : va_D A (([(h0, .inr (1, [.ref (a1 0), .int 0, .null, .null, .null, .null]))] ++ cwAlph a1 6291968)) := hD
  refine lv_aload_n hx hb dX1_init_17 rfl (lv_at hl 0 rfl) ?_
  refine lv_iconst (v := 1) hx hb dX1_init_18 (by decide) ?_
  refine va_put (D := D) (ci := 1) (v := .int 1) (ty := .int) (C := RX1) (T := TX1) (N := 6) hx hb hts inX1 tyX1 tyX1_ok nmX1 hown hK.1 hP hD hS 0 rfl rfl 1 (by decide) (hts _ tw_74) (fun _ h9 => h9) rfl (tyX1_ok 1 (by decide)) rfl rfl (Nat.le_of_ble_eq_true rfl) dX1_init_19 (fun H locs hP hD hS => ?_)
  replace hP : va_P D vwCl (([(h0, .inr (1, [.ref (a1 0), .int 1, .null, .null, .null, .null]))] ++ cwAlph a1 6291968)) H := hP
  replace hD : va_D A (([(h0, .inr (1, [.ref (a1 0), .int 1, .null, .null, .null, .null]))] ++ cwAlph a1 6291968)) := hD
  refine lv_aload_n hx hb dX1_init_22 rfl (lv_at hl 0 rfl) ?_
  refine va_new (ci := 3) (fs := [.null, .int 0]) (C := RX4) (T := TX4) (N := 2) hx hb hts inX4 tyX4 tyX4_ok hown (hts _ tw_53) (hts _ tw_54) (hts _ tw_20) hK.1 hP hD hS hA rfl (fun j hj => by rcases (show j = 0 ∨ j = 1 by omega) with rfl | rfl <;> rfl) (Nat.le_of_ble_eq_true rfl) (Nat.le_of_ble_eq_true rfl) dX1_init_23 (fun q2 H hP hD hS => ?_)
  refine lv_dup hx hb dX1_init_26 rfl ?_
  refine lv_bipush (v := nI 40) hx hb dX1_init_27 (by decide) ?_
  refine kMI (wr := ([(h0, .inr (1, [.ref (a1 0), .int 1, .null, .null, .null, .null]))] ++ cwAlph a1 6291968)) (As := [.int (nI 40)]) (rest := [.ref q2, .ref h0]) C (c_X4_init l D kI kC kB q2 H.size 40 (by decide)) ⟨rfl, rfl⟩ ce_X4_init tw_56 rfl tw_55 ⟨(Nat.le_of_ble_eq_true rfl), (Nat.le_of_ble_eq_true rfl)⟩ hP hD hS hA hl.1 rfl (Nat.le_of_ble_eq_true rfl) ⟨(Nat.le_of_ble_eq_true rfl), (Nat.le_of_ble_eq_true rfl)⟩ dX1_init_29 (fun a2 H locs ha2 hP2 hD2 hS2 => ?_)
  subst ha2
  have hP := hP2
  have hD := hD2
  have hS := hS2
  clear hP2 hD2 hS2
  refine va_putF (D := D) (ci := 1) (v := .ref (a2 0)) (ty := .object "QuireSigns$Row") (C := RX1) (T := TX1) (N := 6) hx hb hts inX1 tyX1 tyX1_ok nmX1 hown hK.1 hP hD hS 0 rfl rfl 2 (by decide) (hts _ tw_76) (fun _ h9 => h9) rfl hin rfl (tyX1_ok 2 (by decide)) rfl rfl (Nat.le_of_ble_eq_true rfl) dX1_init_32 (fun H locs hP hD hS => ?_)
  replace hP : va_P D vwCl ((([(h0, .inr (1, [.ref (a1 0), .int 1, .ref (a2 0), .null, .null, .null]))] ++ cwAlph a1 6291968) ++ cwRow kI a2 (row0 40))) H := hP
  replace hD : va_D A ((([(h0, .inr (1, [.ref (a1 0), .int 1, .ref (a2 0), .null, .null, .null]))] ++ cwAlph a1 6291968) ++ cwRow kI a2 (row0 40))) := hD
  refine lv_aload_n hx hb dX1_init_35 rfl (lv_at hl 0 rfl) ?_
  refine va_new (ci := 3) (fs := [.null, .int 0]) (C := RX4) (T := TX4) (N := 2) hx hb hts inX4 tyX4 tyX4_ok hown (hts _ tw_53) (hts _ tw_54) (hts _ tw_20) hK.1 hP hD hS hA rfl (fun j hj => by rcases (show j = 0 ∨ j = 1 by omega) with rfl | rfl <;> rfl) (Nat.le_of_ble_eq_true rfl) (Nat.le_of_ble_eq_true rfl) dX1_init_36 (fun q3 H hP hD hS => ?_)
  refine lv_dup hx hb dX1_init_39 rfl ?_
  refine lv_bipush (v := nI 40) hx hb dX1_init_40 (by decide) ?_
  refine kMI (wr := (([(h0, .inr (1, [.ref (a1 0), .int 1, .ref (a2 0), .null, .null, .null]))] ++ cwAlph a1 6291968) ++ cwRow kI a2 (row0 40))) (As := [.int (nI 40)]) (rest := [.ref q3, .ref h0]) C (c_X4_init l D kI kC kB q3 H.size 40 (by decide)) ⟨rfl, rfl⟩ ce_X4_init tw_56 rfl tw_55 ⟨(Nat.le_of_ble_eq_true rfl), (Nat.le_of_ble_eq_true rfl)⟩ hP hD hS hA hl.1 rfl (Nat.le_of_ble_eq_true rfl) ⟨(Nat.le_of_ble_eq_true rfl), (Nat.le_of_ble_eq_true rfl)⟩ dX1_init_42 (fun a3 H locs ha3 hP2 hD2 hS2 => ?_)
  subst ha3
  have hP := hP2
  have hD := hD2
  have hS := hS2
  clear hP2 hD2 hS2
  refine va_putF (D := D) (ci := 1) (v := .ref (a3 0)) (ty := .object "QuireSigns$Row") (C := RX1) (T := TX1) (N := 6) hx hb hts inX1 tyX1 tyX1_ok nmX1 hown hK.1 hP hD hS 0 rfl rfl 3 (by decide) (hts _ tw_80) (fun _ h9 => h9) rfl hin rfl (tyX1_ok 3 (by decide)) rfl rfl (Nat.le_of_ble_eq_true rfl) dX1_init_45 (fun H locs hP hD hS => ?_)
  replace hP : va_P D vwCl (((([(h0, .inr (1, [.ref (a1 0), .int 1, .ref (a2 0), .ref (a3 0), .null, .null]))] ++ cwAlph a1 6291968) ++ cwRow kI a2 (row0 40)) ++ cwRow kI a3 (row0 40))) H := hP
  replace hD : va_D A (((([(h0, .inr (1, [.ref (a1 0), .int 1, .ref (a2 0), .ref (a3 0), .null, .null]))] ++ cwAlph a1 6291968) ++ cwRow kI a2 (row0 40)) ++ cwRow kI a3 (row0 40))) := hD
  refine lv_aload_n hx hb dX1_init_48 rfl (lv_at hl 0 rfl) ?_
  refine va_new (ci := 3) (fs := [.null, .int 0]) (C := RX4) (T := TX4) (N := 2) hx hb hts inX4 tyX4 tyX4_ok hown (hts _ tw_53) (hts _ tw_54) (hts _ tw_20) hK.1 hP hD hS hA rfl (fun j hj => by rcases (show j = 0 ∨ j = 1 by omega) with rfl | rfl <;> rfl) (Nat.le_of_ble_eq_true rfl) (Nat.le_of_ble_eq_true rfl) dX1_init_49 (fun q4 H hP hD hS => ?_)
  refine lv_dup hx hb dX1_init_52 rfl ?_
  refine lv_bipush (v := nI 40) hx hb dX1_init_53 (by decide) ?_
  refine kMI (wr := ((([(h0, .inr (1, [.ref (a1 0), .int 1, .ref (a2 0), .ref (a3 0), .null, .null]))] ++ cwAlph a1 6291968) ++ cwRow kI a2 (row0 40)) ++ cwRow kI a3 (row0 40))) (As := [.int (nI 40)]) (rest := [.ref q4, .ref h0]) C (c_X4_init l D kI kC kB q4 H.size 40 (by decide)) ⟨rfl, rfl⟩ ce_X4_init tw_56 rfl tw_55 ⟨(Nat.le_of_ble_eq_true rfl), (Nat.le_of_ble_eq_true rfl)⟩ hP hD hS hA hl.1 rfl (Nat.le_of_ble_eq_true rfl) ⟨(Nat.le_of_ble_eq_true rfl), (Nat.le_of_ble_eq_true rfl)⟩ dX1_init_55 (fun a4 H locs ha4 hP2 hD2 hS2 => ?_)
  subst ha4
  have hP := hP2
  have hD := hD2
  have hS := hS2
  clear hP2 hD2 hS2
  refine va_putF (D := D) (ci := 1) (v := .ref (a4 0)) (ty := .object "QuireSigns$Row") (C := RX1) (T := TX1) (N := 6) hx hb hts inX1 tyX1 tyX1_ok nmX1 hown hK.1 hP hD hS 0 rfl rfl 4 (by decide) (hts _ tw_83) (fun _ h9 => h9) rfl hin rfl (tyX1_ok 4 (by decide)) rfl rfl (Nat.le_of_ble_eq_true rfl) dX1_init_58 (fun H locs hP hD hS => ?_)
  replace hP : va_P D vwCl ((((([(h0, .inr (1, [.ref (a1 0), .int 1, .ref (a2 0), .ref (a3 0), .ref (a4 0), .null]))] ++ cwAlph a1 6291968) ++ cwRow kI a2 (row0 40)) ++ cwRow kI a3 (row0 40)) ++ cwRow kI a4 (row0 40))) H := hP
  replace hD : va_D A ((((([(h0, .inr (1, [.ref (a1 0), .int 1, .ref (a2 0), .ref (a3 0), .ref (a4 0), .null]))] ++ cwAlph a1 6291968) ++ cwRow kI a2 (row0 40)) ++ cwRow kI a3 (row0 40)) ++ cwRow kI a4 (row0 40))) := hD
  refine lv_aload_n hx hb dX1_init_61 rfl (lv_at hl 0 rfl) ?_
  refine va_new (ci := 3) (fs := [.null, .int 0]) (C := RX4) (T := TX4) (N := 2) hx hb hts inX4 tyX4 tyX4_ok hown (hts _ tw_53) (hts _ tw_54) (hts _ tw_20) hK.1 hP hD hS hA rfl (fun j hj => by rcases (show j = 0 ∨ j = 1 by omega) with rfl | rfl <;> rfl) (Nat.le_of_ble_eq_true rfl) (Nat.le_of_ble_eq_true rfl) dX1_init_62 (fun q5 H hP hD hS => ?_)
  refine lv_dup hx hb dX1_init_65 rfl ?_
  refine lv_bipush (v := nI 12) hx hb dX1_init_66 (by decide) ?_
  refine kMI (wr := (((([(h0, .inr (1, [.ref (a1 0), .int 1, .ref (a2 0), .ref (a3 0), .ref (a4 0), .null]))] ++ cwAlph a1 6291968) ++ cwRow kI a2 (row0 40)) ++ cwRow kI a3 (row0 40)) ++ cwRow kI a4 (row0 40))) (As := [.int (nI 12)]) (rest := [.ref q5, .ref h0]) C (c_X4_init l D kI kC kB q5 H.size 12 (by decide)) ⟨rfl, rfl⟩ ce_X4_init tw_56 rfl tw_55 ⟨(Nat.le_of_ble_eq_true rfl), (Nat.le_of_ble_eq_true rfl)⟩ hP hD hS hA hl.1 rfl (Nat.le_of_ble_eq_true rfl) ⟨(Nat.le_of_ble_eq_true rfl), (Nat.le_of_ble_eq_true rfl)⟩ dX1_init_68 (fun a5 H locs ha5 hP2 hD2 hS2 => ?_)
  subst ha5
  have hP := hP2
  have hD := hD2
  have hS := hS2
  clear hP2 hD2 hS2
  refine va_putF (D := D) (ci := 1) (v := .ref (a5 0)) (ty := .object "QuireSigns$Row") (C := RX1) (T := TX1) (N := 6) hx hb hts inX1 tyX1 tyX1_ok nmX1 hown hK.1 hP hD hS 0 rfl rfl 5 (by decide) (hts _ tw_84) (fun _ h9 => h9) rfl hin rfl (tyX1_ok 5 (by decide)) rfl rfl (Nat.le_of_ble_eq_true rfl) dX1_init_71 (fun H locs hP hD hS => ?_)
  replace hP : va_P D vwCl (((((([(h0, .inr (1, [.ref (a1 0), .int 1, .ref (a2 0), .ref (a3 0), .ref (a4 0), .ref (a5 0)]))] ++ cwAlph a1 6291968) ++ cwRow kI a2 (row0 40)) ++ cwRow kI a3 (row0 40)) ++ cwRow kI a4 (row0 40)) ++ cwRow kI a5 (row0 12))) H := hP
  replace hD : va_D A (((((([(h0, .inr (1, [.ref (a1 0), .int 1, .ref (a2 0), .ref (a3 0), .ref (a4 0), .ref (a5 0)]))] ++ cwAlph a1 6291968) ++ cwRow kI a2 (row0 40)) ++ cwRow kI a3 (row0 40)) ++ cwRow kI a4 (row0 40)) ++ cwRow kI a5 (row0 12))) := hD
  replace hP : va_P D vwCl (cwBookV kI (fun k => if k = 0 then h0 else if k = 1 then a1 0 else if k < 4 then a2 (k - 2) else if k < 6 then a3 (k - 4) else if k < 8 then a4 (k - 6) else a5 (k - 8)) book0) H := hP
  replace hD : va_D A (cwBookV kI (fun k => if k = 0 then h0 else if k = 1 then a1 0 else if k < 4 then a2 (k - 2) else if k < 6 then a3 (k - 4) else if k < 8 then a4 (k - 6) else a5 (k - 8)) book0) := hD
  exact retI C (fun k => if k = 0 then h0 else if k = 1 then a1 0 else if k < 4 then a2 (k - 2) else if k < 6 then a3 (k - 4) else if k < 8 then a4 (k - 6) else a5 (k - 8)) rfl hP hD hS (Nat.le_of_ble_eq_true rfl) (Nat.le_of_ble_eq_true rfl) dX1_init_74
set_option maxHeartbeats 1000000 in
set_option maxRecDepth 100000 in
theorem c_X6_init (l : Launch) (D : va_G) (kI kC kB : ClassId) (h0 : Nat) (sz : Nat) : CMI l D kI kC kB yX6_init cX6_init 1 ({ frames := 2, cells := 9, slots := 129, locals := 42 } : Room) [.ref h0] [(h0, .inr (4, [.null, .null, .null, .null, .null, .int 0]))] sz 9 129 (fun a : AdT => a 0 = h0) (fun a => cwText kI a (row0 60) (row0 20) (row0 20) (row0 20) 0 ++ cwAlph (fun i => a (i + 9)) 0) := by
  refine entI (by decide) (by decide) (Nat.le_of_ble_eq_true rfl) ?_
  intro p e s m args below meth c ls A C hin hA hP hD hS hl
  replace hl : lv_has ls 1 [(0, .ref h0)] := hl
  obtain ⟨hx, hb, hr, hml, hown, hts, hlocks, hK⟩ := id C
  refine lv_aload_n hx hb dX6_init_0 rfl (lv_at hl 0 rfl) ?_
  refine W.objInit hx hb hown (hts _ tw_120) (hts _ tw_34) (hts _ tw_35) rfl (by rw [hml]; exact hl.1) rfl dX6_init_1 (Nat.le_of_ble_eq_true rfl) (Nat.le_of_ble_eq_true rfl) ?_
  refine W.eq (g2 := F0 m 4 ls []) rfl ?_
  refine lv_aload_n hx hb dX6_init_4 rfl (lv_at hl 0 rfl) ?_
  refine va_new (ci := 3) (fs := [.null, .int 0]) (C := RX4) (T := TX4) (N := 2) hx hb hts inX4 tyX4 tyX4_ok hown (hts _ tw_121) (hts _ tw_54) (hts _ tw_20) hK.1 hP hD hS hA rfl (fun j hj => by rcases (show j = 0 ∨ j = 1 by omega) with rfl | rfl <;> rfl) (Nat.le_of_ble_eq_true rfl) (Nat.le_of_ble_eq_true rfl) dX6_init_5 (fun q1 H hP hD hS => ?_)
  refine lv_dup hx hb dX6_init_8 rfl ?_
  refine lv_bipush (v := nI 60) hx hb dX6_init_9 (by decide) ?_
  refine kMI (wr := [(h0, .inr (4, [.null, .null, .null, .null, .null, .int 0]))]) (As := [.int (nI 60)]) (rest := [.ref q1, .ref h0]) C (c_X4_init l D kI kC kB q1 H.size 60 (by decide)) ⟨rfl, rfl⟩ ce_X4_init tw_56 rfl tw_122 ⟨(Nat.le_of_ble_eq_true rfl), (Nat.le_of_ble_eq_true rfl)⟩ hP hD hS hA hl.1 rfl (Nat.le_of_ble_eq_true rfl) ⟨(Nat.le_of_ble_eq_true rfl), (Nat.le_of_ble_eq_true rfl)⟩ dX6_init_11 (fun a1 H locs ha1 hP2 hD2 hS2 => ?_)
  subst ha1
  have hP := hP2
  have hD := hD2
  have hS := hS2
  clear hP2 hD2 hS2
  refine va_putF (D := D) (ci := 4) (v := .ref (a1 0)) (ty := .object "QuireSigns$Row") (C := RX6) (T := TX6) (N := 6) hx hb hts inX6 tyX6 tyX6_ok nmX6 hown hK.1 hP hD hS 0 rfl rfl 0 (by decide) (hts _ tw_125) (fun _ h9 => h9) rfl hin rfl (tyX6_ok 0 (by decide)) rfl rfl (Nat.le_of_ble_eq_true rfl) dX6_init_14 (fun H locs hP hD hS => ?_)
  replace hP : va_P D vwCl (([(h0, .inr (4, [.ref (a1 0), .null, .null, .null, .null, .int 0]))] ++ cwRow kI a1 (row0 60))) H := hP
  replace hD : va_D A (([(h0, .inr (4, [.ref (a1 0), .null, .null, .null, .null, .int 0]))] ++ cwRow kI a1 (row0 60))) := hD
  refine lv_aload_n hx hb dX6_init_17 rfl (lv_at hl 0 rfl) ?_
  refine va_new (ci := 3) (fs := [.null, .int 0]) (C := RX4) (T := TX4) (N := 2) hx hb hts inX4 tyX4 tyX4_ok hown (hts _ tw_121) (hts _ tw_54) (hts _ tw_20) hK.1 hP hD hS hA rfl (fun j hj => by rcases (show j = 0 ∨ j = 1 by omega) with rfl | rfl <;> rfl) (Nat.le_of_ble_eq_true rfl) (Nat.le_of_ble_eq_true rfl) dX6_init_18 (fun q2 H hP hD hS => ?_)
  refine lv_dup hx hb dX6_init_21 rfl ?_
  refine lv_bipush (v := nI 20) hx hb dX6_init_22 (by decide) ?_
  refine kMI (wr := ([(h0, .inr (4, [.ref (a1 0), .null, .null, .null, .null, .int 0]))] ++ cwRow kI a1 (row0 60))) (As := [.int (nI 20)]) (rest := [.ref q2, .ref h0]) C (c_X4_init l D kI kC kB q2 H.size 20 (by decide)) ⟨rfl, rfl⟩ ce_X4_init tw_56 rfl tw_122 ⟨(Nat.le_of_ble_eq_true rfl), (Nat.le_of_ble_eq_true rfl)⟩ hP hD hS hA hl.1 rfl (Nat.le_of_ble_eq_true rfl) ⟨(Nat.le_of_ble_eq_true rfl), (Nat.le_of_ble_eq_true rfl)⟩ dX6_init_24 (fun a2 H locs ha2 hP2 hD2 hS2 => ?_)
  subst ha2
  have hP := hP2
  have hD := hD2
  have hS := hS2
  clear hP2 hD2 hS2
  refine va_putF (D := D) (ci := 4) (v := .ref (a2 0)) (ty := .object "QuireSigns$Row") (C := RX6) (T := TX6) (N := 6) hx hb hts inX6 tyX6 tyX6_ok nmX6 hown hK.1 hP hD hS 0 rfl rfl 1 (by decide) (hts _ tw_126) (fun _ h9 => h9) rfl hin rfl (tyX6_ok 1 (by decide)) rfl rfl (Nat.le_of_ble_eq_true rfl) dX6_init_27 (fun H locs hP hD hS => ?_)
  replace hP : va_P D vwCl ((([(h0, .inr (4, [.ref (a1 0), .ref (a2 0), .null, .null, .null, .int 0]))] ++ cwRow kI a1 (row0 60)) ++ cwRow kI a2 (row0 20))) H := hP
  replace hD : va_D A ((([(h0, .inr (4, [.ref (a1 0), .ref (a2 0), .null, .null, .null, .int 0]))] ++ cwRow kI a1 (row0 60)) ++ cwRow kI a2 (row0 20))) := hD
  refine lv_aload_n hx hb dX6_init_30 rfl (lv_at hl 0 rfl) ?_
  refine va_new (ci := 3) (fs := [.null, .int 0]) (C := RX4) (T := TX4) (N := 2) hx hb hts inX4 tyX4 tyX4_ok hown (hts _ tw_121) (hts _ tw_54) (hts _ tw_20) hK.1 hP hD hS hA rfl (fun j hj => by rcases (show j = 0 ∨ j = 1 by omega) with rfl | rfl <;> rfl) (Nat.le_of_ble_eq_true rfl) (Nat.le_of_ble_eq_true rfl) dX6_init_31 (fun q3 H hP hD hS => ?_)
  refine lv_dup hx hb dX6_init_34 rfl ?_
  refine lv_bipush (v := nI 20) hx hb dX6_init_35 (by decide) ?_
  refine kMI (wr := (([(h0, .inr (4, [.ref (a1 0), .ref (a2 0), .null, .null, .null, .int 0]))] ++ cwRow kI a1 (row0 60)) ++ cwRow kI a2 (row0 20))) (As := [.int (nI 20)]) (rest := [.ref q3, .ref h0]) C (c_X4_init l D kI kC kB q3 H.size 20 (by decide)) ⟨rfl, rfl⟩ ce_X4_init tw_56 rfl tw_122 ⟨(Nat.le_of_ble_eq_true rfl), (Nat.le_of_ble_eq_true rfl)⟩ hP hD hS hA hl.1 rfl (Nat.le_of_ble_eq_true rfl) ⟨(Nat.le_of_ble_eq_true rfl), (Nat.le_of_ble_eq_true rfl)⟩ dX6_init_37 (fun a3 H locs ha3 hP2 hD2 hS2 => ?_)
  subst ha3
  have hP := hP2
  have hD := hD2
  have hS := hS2
  clear hP2 hD2 hS2
  refine va_putF (D := D) (ci := 4) (v := .ref (a3 0)) (ty := .object "QuireSigns$Row") (C := RX6) (T := TX6) (N := 6) hx hb hts inX6 tyX6 tyX6_ok nmX6 hown hK.1 hP hD hS 0 rfl rfl 2 (by decide) (hts _ tw_127) (fun _ h9 => h9) rfl hin rfl (tyX6_ok 2 (by decide)) rfl rfl (Nat.le_of_ble_eq_true rfl) dX6_init_40 (fun H locs hP hD hS => ?_)
  replace hP : va_P D vwCl (((([(h0, .inr (4, [.ref (a1 0), .ref (a2 0), .ref (a3 0), .null, .null, .int 0]))] ++ cwRow kI a1 (row0 60)) ++ cwRow kI a2 (row0 20)) ++ cwRow kI a3 (row0 20))) H := hP
  replace hD : va_D A (((([(h0, .inr (4, [.ref (a1 0), .ref (a2 0), .ref (a3 0), .null, .null, .int 0]))] ++ cwRow kI a1 (row0 60)) ++ cwRow kI a2 (row0 20)) ++ cwRow kI a3 (row0 20))) := hD
  refine lv_aload_n hx hb dX6_init_43 rfl (lv_at hl 0 rfl) ?_
  refine va_new (ci := 3) (fs := [.null, .int 0]) (C := RX4) (T := TX4) (N := 2) hx hb hts inX4 tyX4 tyX4_ok hown (hts _ tw_121) (hts _ tw_54) (hts _ tw_20) hK.1 hP hD hS hA rfl (fun j hj => by rcases (show j = 0 ∨ j = 1 by omega) with rfl | rfl <;> rfl) (Nat.le_of_ble_eq_true rfl) (Nat.le_of_ble_eq_true rfl) dX6_init_44 (fun q4 H hP hD hS => ?_)
  refine lv_dup hx hb dX6_init_47 rfl ?_
  refine lv_bipush (v := nI 20) hx hb dX6_init_48 (by decide) ?_
  refine kMI (wr := ((([(h0, .inr (4, [.ref (a1 0), .ref (a2 0), .ref (a3 0), .null, .null, .int 0]))] ++ cwRow kI a1 (row0 60)) ++ cwRow kI a2 (row0 20)) ++ cwRow kI a3 (row0 20))) (As := [.int (nI 20)]) (rest := [.ref q4, .ref h0]) C (c_X4_init l D kI kC kB q4 H.size 20 (by decide)) ⟨rfl, rfl⟩ ce_X4_init tw_56 rfl tw_122 ⟨(Nat.le_of_ble_eq_true rfl), (Nat.le_of_ble_eq_true rfl)⟩ hP hD hS hA hl.1 rfl (Nat.le_of_ble_eq_true rfl) ⟨(Nat.le_of_ble_eq_true rfl), (Nat.le_of_ble_eq_true rfl)⟩ dX6_init_50 (fun a4 H locs ha4 hP2 hD2 hS2 => ?_)
  subst ha4
  have hP := hP2
  have hD := hD2
  have hS := hS2
  clear hP2 hD2 hS2
  refine va_putF (D := D) (ci := 4) (v := .ref (a4 0)) (ty := .object "QuireSigns$Row") (C := RX6) (T := TX6) (N := 6) hx hb hts inX6 tyX6 tyX6_ok nmX6 hown hK.1 hP hD hS 0 rfl rfl 3 (by decide) (hts _ tw_128) (fun _ h9 => h9) rfl hin rfl (tyX6_ok 3 (by decide)) rfl rfl (Nat.le_of_ble_eq_true rfl) dX6_init_53 (fun H locs hP hD hS => ?_)
  replace hP : va_P D vwCl ((((([(h0, .inr (4, [.ref (a1 0), .ref (a2 0), .ref (a3 0), .ref (a4 0), .null, .int 0]))] ++ cwRow kI a1 (row0 60)) ++ cwRow kI a2 (row0 20)) ++ cwRow kI a3 (row0 20)) ++ cwRow kI a4 (row0 20))) H := hP
  replace hD : va_D A ((((([(h0, .inr (4, [.ref (a1 0), .ref (a2 0), .ref (a3 0), .ref (a4 0), .null, .int 0]))] ++ cwRow kI a1 (row0 60)) ++ cwRow kI a2 (row0 20)) ++ cwRow kI a3 (row0 20)) ++ cwRow kI a4 (row0 20))) := hD
  refine lv_aload_n hx hb dX6_init_56 rfl (lv_at hl 0 rfl) ?_
  refine va_new (ci := 0) (fs := [.int 0]) (C := RX0) (T := TX0) (N := 1) hx hb hts inX0 tyX0 tyX0_ok hown (hts _ tw_123) (hts _ tw_43) (hts _ tw_19) hK.1 hP hD hS hA rfl (fun j hj => by rcases (show j = 0 by omega) with rfl <;> rfl) (Nat.le_of_ble_eq_true rfl) (Nat.le_of_ble_eq_true rfl) dX6_init_57 (fun q5 H hP hD hS => ?_)
  refine lv_dup hx hb dX6_init_60 rfl ?_
  refine lv_iconst (v := 0) hx hb dX6_init_61 (by decide) ?_
  refine kMI (wr := (((([(h0, .inr (4, [.ref (a1 0), .ref (a2 0), .ref (a3 0), .ref (a4 0), .null, .int 0]))] ++ cwRow kI a1 (row0 60)) ++ cwRow kI a2 (row0 20)) ++ cwRow kI a3 (row0 20)) ++ cwRow kI a4 (row0 20))) (As := [.int 0]) (rest := [.ref q5, .ref h0]) C (c_X0_init l D kI kC kB q5 H.size 0) ⟨rfl, rfl⟩ ce_X0_init tw_46 rfl tw_124 ⟨(Nat.le_of_ble_eq_true rfl), (Nat.le_of_ble_eq_true rfl)⟩ hP hD hS hA hl.1 rfl (Nat.le_of_ble_eq_true rfl) ⟨(Nat.le_of_ble_eq_true rfl), (Nat.le_of_ble_eq_true rfl)⟩ dX6_init_62 (fun a5 H locs ha5 hP2 hD2 hS2 => ?_)
  subst ha5
  have hP := hP2
  have hD := hD2
  have hS := hS2
  clear hP2 hD2 hS2
  refine va_putF (D := D) (ci := 4) (v := .ref (a5 0)) (ty := .object "QuireSigns$Alphabet") (C := RX6) (T := TX6) (N := 6) hx hb hts inX6 tyX6 tyX6_ok nmX6 hown hK.1 hP hD hS 0 rfl rfl 4 (by decide) (hts _ tw_129) (fun _ h9 => h9) rfl hin rfl (tyX6_ok 4 (by decide)) rfl rfl (Nat.le_of_ble_eq_true rfl) dX6_init_65 (fun H locs hP hD hS => ?_)
  replace hP : va_P D vwCl (((((([(h0, .inr (4, [.ref (a1 0), .ref (a2 0), .ref (a3 0), .ref (a4 0), .ref (a5 0), .int 0]))] ++ cwRow kI a1 (row0 60)) ++ cwRow kI a2 (row0 20)) ++ cwRow kI a3 (row0 20)) ++ cwRow kI a4 (row0 20)) ++ cwAlph a5 0)) H := hP
  replace hD : va_D A (((((([(h0, .inr (4, [.ref (a1 0), .ref (a2 0), .ref (a3 0), .ref (a4 0), .ref (a5 0), .int 0]))] ++ cwRow kI a1 (row0 60)) ++ cwRow kI a2 (row0 20)) ++ cwRow kI a3 (row0 20)) ++ cwRow kI a4 (row0 20)) ++ cwAlph a5 0)) := hD
  replace hP : va_P D vwCl (cwText kI (fun k => if k = 0 then h0 else if k < 3 then a1 (k - 1) else if k < 5 then a2 (k - 3) else if k < 7 then a3 (k - 5) else if k < 9 then a4 (k - 7) else a5 (k - 9)) (row0 60) (row0 20) (row0 20) (row0 20) 0 ++ cwAlph (fun i => (fun k => if k = 0 then h0 else if k < 3 then a1 (k - 1) else if k < 5 then a2 (k - 3) else if k < 7 then a3 (k - 5) else if k < 9 then a4 (k - 7) else a5 (k - 9)) (i + 9)) 0) H := hP
  replace hD : va_D A (cwText kI (fun k => if k = 0 then h0 else if k < 3 then a1 (k - 1) else if k < 5 then a2 (k - 3) else if k < 7 then a3 (k - 5) else if k < 9 then a4 (k - 7) else a5 (k - 9)) (row0 60) (row0 20) (row0 20) (row0 20) 0 ++ cwAlph (fun i => (fun k => if k = 0 then h0 else if k < 3 then a1 (k - 1) else if k < 5 then a2 (k - 3) else if k < 7 then a3 (k - 5) else if k < 9 then a4 (k - 7) else a5 (k - 9)) (i + 9)) 0) := hD
  exact retI C (fun k => if k = 0 then h0 else if k < 3 then a1 (k - 1) else if k < 5 then a2 (k - 3) else if k < 7 then a3 (k - 5) else if k < 9 then a4 (k - 7) else a5 (k - 9)) rfl hP hD hS (Nat.le_of_ble_eq_true rfl) (Nat.le_of_ble_eq_true rfl) dX6_init_68
set_option maxHeartbeats 1000000 in
set_option maxRecDepth 100000 in
theorem c_X7_init (l : Launch) (D : va_G) (kI kC kB : ClassId) (h0 : Nat) (sz : Nat) : CMI l D kI kC kB yX7_init cX7_init 1 ({ frames := 2, cells := 2, slots := 322, locals := 42 } : Room) [.ref h0] [(h0, .inr (5, [.null, .int 0]))] sz 2 322 (fun a : AdT => a 0 = h0) (fun a => cwWriter kI a (row0 320) 0) := by
  refine entI (by decide) (by decide) (Nat.le_of_ble_eq_true rfl) ?_
  intro p e s m args below meth c ls A C hin hA hP hD hS hl
  replace hl : lv_has ls 1 [(0, .ref h0)] := hl
  obtain ⟨hx, hb, hr, hml, hown, hts, hlocks, hK⟩ := id C
  refine lv_aload_n hx hb dX7_init_0 rfl (lv_at hl 0 rfl) ?_
  refine W.objInit hx hb hown (hts _ tw_149) (hts _ tw_34) (hts _ tw_35) rfl (by rw [hml]; exact hl.1) rfl dX7_init_1 (Nat.le_of_ble_eq_true rfl) (Nat.le_of_ble_eq_true rfl) ?_
  refine W.eq (g2 := F0 m 4 ls []) rfl ?_
  refine lv_aload_n hx hb dX7_init_4 rfl (lv_at hl 0 rfl) ?_
  refine va_new (ci := 3) (fs := [.null, .int 0]) (C := RX4) (T := TX4) (N := 2) hx hb hts inX4 tyX4 tyX4_ok hown (hts _ tw_150) (hts _ tw_54) (hts _ tw_20) hK.1 hP hD hS hA rfl (fun j hj => by rcases (show j = 0 ∨ j = 1 by omega) with rfl | rfl <;> rfl) (Nat.le_of_ble_eq_true rfl) (Nat.le_of_ble_eq_true rfl) dX7_init_5 (fun q1 H hP hD hS => ?_)
  refine lv_dup hx hb dX7_init_8 rfl ?_
  refine lv_sipush (v := nI 320) hx hb dX7_init_9 (by decide) ?_
  refine kMI (wr := [(h0, .inr (5, [.null, .int 0]))]) (As := [.int (nI 320)]) (rest := [.ref q1, .ref h0]) C (c_X4_init l D kI kC kB q1 H.size 320 (by decide)) ⟨rfl, rfl⟩ ce_X4_init tw_56 rfl tw_151 ⟨(Nat.le_of_ble_eq_true rfl), (Nat.le_of_ble_eq_true rfl)⟩ hP hD hS hA hl.1 rfl (Nat.le_of_ble_eq_true rfl) ⟨(Nat.le_of_ble_eq_true rfl), (Nat.le_of_ble_eq_true rfl)⟩ dX7_init_12 (fun a1 H locs ha1 hP2 hD2 hS2 => ?_)
  subst ha1
  have hP := hP2
  have hD := hD2
  have hS := hS2
  clear hP2 hD2 hS2
  refine va_putF (D := D) (ci := 5) (v := .ref (a1 0)) (ty := .object "QuireSigns$Row") (C := RX7) (T := TX7) (N := 2) hx hb hts inX7 tyX7 tyX7_ok nmX7 hown hK.1 hP hD hS 0 rfl rfl 0 (by decide) (hts _ tw_152) (fun _ h9 => h9) rfl hin rfl (tyX7_ok 0 (by decide)) rfl rfl (Nat.le_of_ble_eq_true rfl) dX7_init_15 (fun H locs hP hD hS => ?_)
  replace hP : va_P D vwCl (([(h0, .inr (5, [.ref (a1 0), .int 0]))] ++ cwRow kI a1 (row0 320))) H := hP
  replace hD : va_D A (([(h0, .inr (5, [.ref (a1 0), .int 0]))] ++ cwRow kI a1 (row0 320))) := hD
  replace hP : va_P D vwCl (cwWriter kI (fun k => if k = 0 then h0 else a1 (k - 1)) (row0 320) 0) H := hP
  replace hD : va_D A (cwWriter kI (fun k => if k = 0 then h0 else a1 (k - 1)) (row0 320) 0) := hD
  exact retI C (fun k => if k = 0 then h0 else a1 (k - 1)) rfl hP hD hS (Nat.le_of_ble_eq_true rfl) (Nat.le_of_ble_eq_true rfl) dX7_init_18
set_option maxHeartbeats 1000000 in
set_option maxRecDepth 100000 in
theorem c_X2_init (l : Launch) (D : va_G) (kI kC kB : ClassId) (h0 : Nat) (sz : Nat) : CMI l D kI kC kB yX2_init cX2_init 2 ({ frames := 3, cells := 41, slots := 592, locals := 62 } : Room) [.ref h0] [(h0, .inr (2, [.null, .int 0]))] sz 41 592 (fun a : AdT × (Nat → AdT) => a.1 0 = h0) (fun a => cwHist kI kB a.1 a.2 ((fun _ => book0), 0)) := by
  refine entI (by decide) (by decide) (Nat.le_of_ble_eq_true rfl) ?_
  intro p e s m args below meth c ls A C hin hA hP hD hS hl
  replace hl : lv_has ls 2 [(0, .ref h0)] := hl
  obtain ⟨hx, hb, hr, hml, hown, hts, hlocks, hK⟩ := id C
  refine lv_aload_n hx hb dX2_init_0 rfl (lv_at hl 0 rfl) ?_
  refine W.objInit hx hb hown (hts _ tw_104) (hts _ tw_34) (hts _ tw_35) rfl (by rw [hml]; exact hl.1) rfl dX2_init_1 (Nat.le_of_ble_eq_true rfl) (Nat.le_of_ble_eq_true rfl) ?_
  refine W.eq (g2 := F0 m 4 ls []) rfl ?_
  refine lv_aload_n hx hb dX2_init_4 rfl (lv_at hl 0 rfl) ?_
  refine lv_iconst (v := nI 4) hx hb dX2_init_5 (by decide) ?_
  refine va_newq (C := "QuireSigns$Book") hx hb hown (hts _ tw_105) hK.2.2 hK.1 hP hD hS hA (nI_pos (by decide)) (nI_clamp (by decide)) (by decide) (Nat.le_of_ble_eq_true rfl) (Nat.le_of_ble_eq_true rfl) dX2_init_6 (fun q cA H hK2 hP hD hS => ?_)
  obtain rfl := kB_eq hK hK2
  refine va_putF (D := D) (ci := 2) (v := .ref q) (ty := .array (.object "QuireSigns$Book")) (C := RX2) (T := TX2) (N := 2) hx hb hts inX2 tyX2 tyX2_ok nmX2 hown hK.1 hP hD hS 0 rfl rfl 0 (by decide) (hts _ tw_108) (fun _ h9 => h9) rfl hin rfl (tyX2_ok 0 (by decide)) rfl rfl (Nat.le_of_ble_eq_true rfl) dX2_init_9 (fun H locs hP hD hS => ?_)
  replace hP : va_P D vwCl ([(h0, .inr (2, [.ref q, .int 0])), (q, .inl (cA, 4, .inr (.inr (.inr (.inr (fun _ => none))))))]) H := hP
  replace hD : va_D A ([(h0, .inr (2, [.ref q, .int 0])), (q, .inl (cA, 4, .inr (.inr (.inr (.inr (fun _ => none))))))]) := hD
  refine lv_iconst (v := nI 0) hx hb dX2_init_12 (by decide) ?_
  refine lv_istore_n (lv' := [(1, .int (nI 0)), (0, .ref h0)]) hx hb dX2_init_13 rfl hl (by decide) rfl (fun ls hl => ?_)
  refine lv_iload_n hx hb dX2_init_14 rfl (lv_at hl 0 rfl) ?_
  refine lv_aload_n hx hb dX2_init_15 rfl (lv_at hl 1 rfl) ?_
  refine va_get (D := D) (ci := 2) (v := .ref q) (C := RX2) (T := TX2) (N := 2) hx hb hts inX2 hown hK.1 hP 0 rfl rfl 0 (by decide) (hts _ tw_108) (fun _ h9 => h9) rfl dX2_init_16 ?_
  refine va_alen (v := nI 4) hx hb hK.1 hP 1 2 rfl rfl rfl dX2_init_19 ?_
  refine lv_icmp_ge (tgt := 42) hx hb dX2_init_20 (by decide) (fun hc => absurd hc (by decide)) (fun hc => ?_)
  refine lv_aload_n hx hb dX2_init_23 rfl (lv_at hl 1 rfl) ?_
  refine va_get (D := D) (ci := 2) (v := .ref q) (C := RX2) (T := TX2) (N := 2) hx hb hts inX2 hown hK.1 hP 0 rfl rfl 0 (by decide) (hts _ tw_108) (fun _ h9 => h9) rfl dX2_init_24 ?_
  refine lv_iload_n hx hb dX2_init_27 rfl (lv_at hl 0 rfl) ?_
  refine va_new (ci := 1) (fs := [.null, .int 0, .null, .null, .null, .null]) (C := RX1) (T := TX1) (N := 6) hx hb hts inX1 tyX1 tyX1_ok hown (hts _ tw_105) (hts _ tw_37) (hts _ tw_18) hK.1 hP hD hS hA rfl (fun j hj => by rcases (show j = 0 ∨ j = 1 ∨ j = 2 ∨ j = 3 ∨ j = 4 ∨ j = 5 by omega) with rfl | rfl | rfl | rfl | rfl | rfl <;> rfl) (Nat.le_of_ble_eq_true rfl) (Nat.le_of_ble_eq_true rfl) dX2_init_28 (fun z H hP hD hS => ?_)
  refine lv_dup hx hb dX2_init_31 rfl ?_
  refine kMIN (wr := [(h0, .inr (2, [.ref q, .int 0])), (q, .inl (cA, 4, .inr (.inr (.inr (.inr (fun _ => none))))))]) (As := []) (rest := [.ref z, .int (nI 0), .ref q]) C (c_X1_init l D kI kC cA z H.size) ⟨rfl, rfl⟩ ce_X1_init tw_39 rfl (hK.2.1 _ nw_107) ⟨(Nat.le_of_ble_eq_true rfl), (Nat.le_of_ble_eq_true rfl)⟩ hP hD hS hA hl.1 rfl (Nat.le_of_ble_eq_true rfl) ⟨(Nat.le_of_ble_eq_true rfl), (Nat.le_of_ble_eq_true rfl)⟩ dX2_init_32 (fun b0 H locs hb0 hP2 hD2 hS2 => ?_)
  subst hb0
  have hP := hP2
  have hD := hD2
  have hS := hS2
  clear hP2 hD2 hS2
  refine va_astq (r := (RX1, TX1, 6)) hx hb hK.1 hP hD hS 1 2 2 1 rfl rfl rfl rfl (vp_in_nI (by decide) (by decide)) dX2_init_35 (fun H locs hP hD hS => ?_)
  rw [nI_clamp (by decide)] at hP hD
  replace hP : va_P D vwCl (([(h0, .inr (2, [.ref q, .int 0])), (q, .inl (cA, 4, .inr (.inr (.inr (.inr (va_up (fun _ => none) 0 (some (b0 0))))))))] ++ cwBookV kI b0 book0)) H := hP
  replace hD : va_D A (([(h0, .inr (2, [.ref q, .int 0])), (q, .inl (cA, 4, .inr (.inr (.inr (.inr (va_up (fun _ => none) 0 (some (b0 0))))))))] ++ cwBookV kI b0 book0)) := hD
  refine lv_iinc (v := nI 1) (lv' := [(1, .int (nI 1)), (0, .ref h0)]) hx hb dX2_init_36 hl (k := 0) rfl (by decide) (by decide) rfl (fun ls hl => ?_)
  refine lv_goto (tgt := 14) hx hb dX2_init_39 (by decide) ?_
  refine lv_iload_n hx hb dX2_init_14 rfl (lv_at hl 0 rfl) ?_
  refine lv_aload_n hx hb dX2_init_15 rfl (lv_at hl 1 rfl) ?_
  refine va_get (D := D) (ci := 2) (v := .ref q) (C := RX2) (T := TX2) (N := 2) hx hb hts inX2 hown hK.1 hP 0 rfl rfl 0 (by decide) (hts _ tw_108) (fun _ h9 => h9) rfl dX2_init_16 ?_
  refine va_alen (v := nI 4) hx hb hK.1 hP 1 2 rfl rfl rfl dX2_init_19 ?_
  refine lv_icmp_ge (tgt := 42) hx hb dX2_init_20 (by decide) (fun hc => absurd hc (by decide)) (fun hc => ?_)
  refine lv_aload_n hx hb dX2_init_23 rfl (lv_at hl 1 rfl) ?_
  refine va_get (D := D) (ci := 2) (v := .ref q) (C := RX2) (T := TX2) (N := 2) hx hb hts inX2 hown hK.1 hP 0 rfl rfl 0 (by decide) (hts _ tw_108) (fun _ h9 => h9) rfl dX2_init_24 ?_
  refine lv_iload_n hx hb dX2_init_27 rfl (lv_at hl 0 rfl) ?_
  refine va_new (ci := 1) (fs := [.null, .int 0, .null, .null, .null, .null]) (C := RX1) (T := TX1) (N := 6) hx hb hts inX1 tyX1 tyX1_ok hown (hts _ tw_105) (hts _ tw_37) (hts _ tw_18) hK.1 hP hD hS hA rfl (fun j hj => by rcases (show j = 0 ∨ j = 1 ∨ j = 2 ∨ j = 3 ∨ j = 4 ∨ j = 5 by omega) with rfl | rfl | rfl | rfl | rfl | rfl <;> rfl) (Nat.le_of_ble_eq_true rfl) (Nat.le_of_ble_eq_true rfl) dX2_init_28 (fun z H hP hD hS => ?_)
  refine lv_dup hx hb dX2_init_31 rfl ?_
  refine kMIN (wr := ([(h0, .inr (2, [.ref q, .int 0])), (q, .inl (cA, 4, .inr (.inr (.inr (.inr (va_up (fun _ => none) 0 (some (b0 0))))))))] ++ cwBookV kI b0 book0)) (As := []) (rest := [.ref z, .int (nI 1), .ref q]) C (c_X1_init l D kI kC cA z H.size) ⟨rfl, rfl⟩ ce_X1_init tw_39 rfl (hK.2.1 _ nw_107) ⟨(Nat.le_of_ble_eq_true rfl), (Nat.le_of_ble_eq_true rfl)⟩ hP hD hS hA hl.1 rfl (Nat.le_of_ble_eq_true rfl) ⟨(Nat.le_of_ble_eq_true rfl), (Nat.le_of_ble_eq_true rfl)⟩ dX2_init_32 (fun b1 H locs hb1 hP2 hD2 hS2 => ?_)
  subst hb1
  have hP := hP2
  have hD := hD2
  have hS := hS2
  clear hP2 hD2 hS2
  refine va_astq (r := (RX1, TX1, 6)) hx hb hK.1 hP hD hS 1 2 12 1 rfl rfl rfl rfl (vp_in_nI (by decide) (by decide)) dX2_init_35 (fun H locs hP hD hS => ?_)
  rw [nI_clamp (by decide)] at hP hD
  replace hP : va_P D vwCl ((([(h0, .inr (2, [.ref q, .int 0])), (q, .inl (cA, 4, .inr (.inr (.inr (.inr (va_up (va_up (fun _ => none) 0 (some (b0 0))) 1 (some (b1 0))))))))] ++ cwBookV kI b0 book0) ++ cwBookV kI b1 book0)) H := hP
  replace hD : va_D A ((([(h0, .inr (2, [.ref q, .int 0])), (q, .inl (cA, 4, .inr (.inr (.inr (.inr (va_up (va_up (fun _ => none) 0 (some (b0 0))) 1 (some (b1 0))))))))] ++ cwBookV kI b0 book0) ++ cwBookV kI b1 book0)) := hD
  refine lv_iinc (v := nI 2) (lv' := [(1, .int (nI 2)), (0, .ref h0)]) hx hb dX2_init_36 hl (k := 0) rfl (by decide) (by decide) rfl (fun ls hl => ?_)
  refine lv_goto (tgt := 14) hx hb dX2_init_39 (by decide) ?_
  refine lv_iload_n hx hb dX2_init_14 rfl (lv_at hl 0 rfl) ?_
  refine lv_aload_n hx hb dX2_init_15 rfl (lv_at hl 1 rfl) ?_
  refine va_get (D := D) (ci := 2) (v := .ref q) (C := RX2) (T := TX2) (N := 2) hx hb hts inX2 hown hK.1 hP 0 rfl rfl 0 (by decide) (hts _ tw_108) (fun _ h9 => h9) rfl dX2_init_16 ?_
  refine va_alen (v := nI 4) hx hb hK.1 hP 1 2 rfl rfl rfl dX2_init_19 ?_
  refine lv_icmp_ge (tgt := 42) hx hb dX2_init_20 (by decide) (fun hc => absurd hc (by decide)) (fun hc => ?_)
  refine lv_aload_n hx hb dX2_init_23 rfl (lv_at hl 1 rfl) ?_
  refine va_get (D := D) (ci := 2) (v := .ref q) (C := RX2) (T := TX2) (N := 2) hx hb hts inX2 hown hK.1 hP 0 rfl rfl 0 (by decide) (hts _ tw_108) (fun _ h9 => h9) rfl dX2_init_24 ?_
  refine lv_iload_n hx hb dX2_init_27 rfl (lv_at hl 0 rfl) ?_
  refine va_new (ci := 1) (fs := [.null, .int 0, .null, .null, .null, .null]) (C := RX1) (T := TX1) (N := 6) hx hb hts inX1 tyX1 tyX1_ok hown (hts _ tw_105) (hts _ tw_37) (hts _ tw_18) hK.1 hP hD hS hA rfl (fun j hj => by rcases (show j = 0 ∨ j = 1 ∨ j = 2 ∨ j = 3 ∨ j = 4 ∨ j = 5 by omega) with rfl | rfl | rfl | rfl | rfl | rfl <;> rfl) (Nat.le_of_ble_eq_true rfl) (Nat.le_of_ble_eq_true rfl) dX2_init_28 (fun z H hP hD hS => ?_)
  refine lv_dup hx hb dX2_init_31 rfl ?_
  refine kMIN (wr := (([(h0, .inr (2, [.ref q, .int 0])), (q, .inl (cA, 4, .inr (.inr (.inr (.inr (va_up (va_up (fun _ => none) 0 (some (b0 0))) 1 (some (b1 0))))))))] ++ cwBookV kI b0 book0) ++ cwBookV kI b1 book0)) (As := []) (rest := [.ref z, .int (nI 2), .ref q]) C (c_X1_init l D kI kC cA z H.size) ⟨rfl, rfl⟩ ce_X1_init tw_39 rfl (hK.2.1 _ nw_107) ⟨(Nat.le_of_ble_eq_true rfl), (Nat.le_of_ble_eq_true rfl)⟩ hP hD hS hA hl.1 rfl (Nat.le_of_ble_eq_true rfl) ⟨(Nat.le_of_ble_eq_true rfl), (Nat.le_of_ble_eq_true rfl)⟩ dX2_init_32 (fun b2 H locs hb2 hP2 hD2 hS2 => ?_)
  subst hb2
  have hP := hP2
  have hD := hD2
  have hS := hS2
  clear hP2 hD2 hS2
  refine va_astq (r := (RX1, TX1, 6)) hx hb hK.1 hP hD hS 1 2 22 1 rfl rfl rfl rfl (vp_in_nI (by decide) (by decide)) dX2_init_35 (fun H locs hP hD hS => ?_)
  rw [nI_clamp (by decide)] at hP hD
  replace hP : va_P D vwCl (((([(h0, .inr (2, [.ref q, .int 0])), (q, .inl (cA, 4, .inr (.inr (.inr (.inr (va_up (va_up (va_up (fun _ => none) 0 (some (b0 0))) 1 (some (b1 0))) 2 (some (b2 0))))))))] ++ cwBookV kI b0 book0) ++ cwBookV kI b1 book0) ++ cwBookV kI b2 book0)) H := hP
  replace hD : va_D A (((([(h0, .inr (2, [.ref q, .int 0])), (q, .inl (cA, 4, .inr (.inr (.inr (.inr (va_up (va_up (va_up (fun _ => none) 0 (some (b0 0))) 1 (some (b1 0))) 2 (some (b2 0))))))))] ++ cwBookV kI b0 book0) ++ cwBookV kI b1 book0) ++ cwBookV kI b2 book0)) := hD
  refine lv_iinc (v := nI 3) (lv' := [(1, .int (nI 3)), (0, .ref h0)]) hx hb dX2_init_36 hl (k := 0) rfl (by decide) (by decide) rfl (fun ls hl => ?_)
  refine lv_goto (tgt := 14) hx hb dX2_init_39 (by decide) ?_
  refine lv_iload_n hx hb dX2_init_14 rfl (lv_at hl 0 rfl) ?_
  refine lv_aload_n hx hb dX2_init_15 rfl (lv_at hl 1 rfl) ?_
  refine va_get (D := D) (ci := 2) (v := .ref q) (C := RX2) (T := TX2) (N := 2) hx hb hts inX2 hown hK.1 hP 0 rfl rfl 0 (by decide) (hts _ tw_108) (fun _ h9 => h9) rfl dX2_init_16 ?_
  refine va_alen (v := nI 4) hx hb hK.1 hP 1 2 rfl rfl rfl dX2_init_19 ?_
  refine lv_icmp_ge (tgt := 42) hx hb dX2_init_20 (by decide) (fun hc => absurd hc (by decide)) (fun hc => ?_)
  refine lv_aload_n hx hb dX2_init_23 rfl (lv_at hl 1 rfl) ?_
  refine va_get (D := D) (ci := 2) (v := .ref q) (C := RX2) (T := TX2) (N := 2) hx hb hts inX2 hown hK.1 hP 0 rfl rfl 0 (by decide) (hts _ tw_108) (fun _ h9 => h9) rfl dX2_init_24 ?_
  refine lv_iload_n hx hb dX2_init_27 rfl (lv_at hl 0 rfl) ?_
  refine va_new (ci := 1) (fs := [.null, .int 0, .null, .null, .null, .null]) (C := RX1) (T := TX1) (N := 6) hx hb hts inX1 tyX1 tyX1_ok hown (hts _ tw_105) (hts _ tw_37) (hts _ tw_18) hK.1 hP hD hS hA rfl (fun j hj => by rcases (show j = 0 ∨ j = 1 ∨ j = 2 ∨ j = 3 ∨ j = 4 ∨ j = 5 by omega) with rfl | rfl | rfl | rfl | rfl | rfl <;> rfl) (Nat.le_of_ble_eq_true rfl) (Nat.le_of_ble_eq_true rfl) dX2_init_28 (fun z H hP hD hS => ?_)
  refine lv_dup hx hb dX2_init_31 rfl ?_
  refine kMIN (wr := ((([(h0, .inr (2, [.ref q, .int 0])), (q, .inl (cA, 4, .inr (.inr (.inr (.inr (va_up (va_up (va_up (fun _ => none) 0 (some (b0 0))) 1 (some (b1 0))) 2 (some (b2 0))))))))] ++ cwBookV kI b0 book0) ++ cwBookV kI b1 book0) ++ cwBookV kI b2 book0)) (As := []) (rest := [.ref z, .int (nI 3), .ref q]) C (c_X1_init l D kI kC cA z H.size) ⟨rfl, rfl⟩ ce_X1_init tw_39 rfl (hK.2.1 _ nw_107) ⟨(Nat.le_of_ble_eq_true rfl), (Nat.le_of_ble_eq_true rfl)⟩ hP hD hS hA hl.1 rfl (Nat.le_of_ble_eq_true rfl) ⟨(Nat.le_of_ble_eq_true rfl), (Nat.le_of_ble_eq_true rfl)⟩ dX2_init_32 (fun b3 H locs hb3 hP2 hD2 hS2 => ?_)
  subst hb3
  have hP := hP2
  have hD := hD2
  have hS := hS2
  clear hP2 hD2 hS2
  refine va_astq (r := (RX1, TX1, 6)) hx hb hK.1 hP hD hS 1 2 32 1 rfl rfl rfl rfl (vp_in_nI (by decide) (by decide)) dX2_init_35 (fun H locs hP hD hS => ?_)
  rw [nI_clamp (by decide)] at hP hD
  replace hP : va_P D vwCl ((((([(h0, .inr (2, [.ref q, .int 0])), (q, .inl (cA, 4, .inr (.inr (.inr (.inr (va_up (va_up (va_up (va_up (fun _ => none) 0 (some (b0 0))) 1 (some (b1 0))) 2 (some (b2 0))) 3 (some (b3 0))))))))] ++ cwBookV kI b0 book0) ++ cwBookV kI b1 book0) ++ cwBookV kI b2 book0) ++ cwBookV kI b3 book0)) H := hP
  replace hD : va_D A ((((([(h0, .inr (2, [.ref q, .int 0])), (q, .inl (cA, 4, .inr (.inr (.inr (.inr (va_up (va_up (va_up (va_up (fun _ => none) 0 (some (b0 0))) 1 (some (b1 0))) 2 (some (b2 0))) 3 (some (b3 0))))))))] ++ cwBookV kI b0 book0) ++ cwBookV kI b1 book0) ++ cwBookV kI b2 book0) ++ cwBookV kI b3 book0)) := hD
  refine lv_iinc (v := nI 4) (lv' := [(1, .int (nI 4)), (0, .ref h0)]) hx hb dX2_init_36 hl (k := 0) rfl (by decide) (by decide) rfl (fun ls hl => ?_)
  refine lv_goto (tgt := 14) hx hb dX2_init_39 (by decide) ?_
  refine lv_iload_n hx hb dX2_init_14 rfl (lv_at hl 0 rfl) ?_
  refine lv_aload_n hx hb dX2_init_15 rfl (lv_at hl 1 rfl) ?_
  refine va_get (D := D) (ci := 2) (v := .ref q) (C := RX2) (T := TX2) (N := 2) hx hb hts inX2 hown hK.1 hP 0 rfl rfl 0 (by decide) (hts _ tw_108) (fun _ h9 => h9) rfl dX2_init_16 ?_
  refine va_alen (v := nI 4) hx hb hK.1 hP 1 2 rfl rfl rfl dX2_init_19 ?_
  refine lv_icmp_ge (tgt := 42) hx hb dX2_init_20 (by decide) (fun hc => ?_) (fun hc => absurd (by decide) hc)
  have he : vp_cell cA (4, .inr (.inr (.inr (.inr (va_up (va_up (va_up (va_up (fun _ => none) 0 (some (b0 0))) 1 (some (b1 0))) 2 (some (b2 0))) 3 (some (b3 0))))))) = vp_cell cA (4, .inr (.inr (.inr (.inr (fun k => some (((fun k => if k = 0 then b0 else if k = 1 then b1 else if k = 2 then b2 else b3) : Nat → AdT) k 0)))))) := vp_cellq_congr cA 4 _ _ (fun k hk => by rcases (show k = 0 ∨ k = 1 ∨ k = 2 ∨ k = 3 by omega) with rfl | rfl | rfl | rfl <;> rfl)
  replace hP := va_reP hP 1 (y := .inl (cA, 4, .inr (.inr (.inr (.inr (fun k => some (((fun k => if k = 0 then b0 else if k = 1 then b1 else if k = 2 then b2 else b3) : Nat → AdT) k 0))))))) rfl (fun h => h.trans (congrArg some he))
  replace hD := va_reD hD 1 (y := .inl (cA, 4, .inr (.inr (.inr (.inr (fun k => some (((fun k => if k = 0 then b0 else if k = 1 then b1 else if k = 2 then b2 else b3) : Nat → AdT) k 0))))))) rfl
  replace hP : va_P D vwCl ((((([(h0, .inr (2, [.ref q, .int 0])), (q, .inl (cA, 4, .inr (.inr (.inr (.inr (fun k => some (((fun k => if k = 0 then b0 else if k = 1 then b1 else if k = 2 then b2 else b3) : Nat → AdT) k 0)))))))] ++ cwBookV kI b0 book0) ++ cwBookV kI b1 book0) ++ cwBookV kI b2 book0) ++ cwBookV kI b3 book0)) H := hP
  replace hD : va_D A ((((([(h0, .inr (2, [.ref q, .int 0])), (q, .inl (cA, 4, .inr (.inr (.inr (.inr (fun k => some (((fun k => if k = 0 then b0 else if k = 1 then b1 else if k = 2 then b2 else b3) : Nat → AdT) k 0)))))))] ++ cwBookV kI b0 book0) ++ cwBookV kI b1 book0) ++ cwBookV kI b2 book0) ++ cwBookV kI b3 book0)) := hD
  have hc2 : (((([(h0, .inr (2, [.ref q, .int 0])), (q, .inl (cA, 4, .inr (.inr (.inr (.inr (fun k => some (((fun k => if k = 0 then b0 else if k = 1 then b1 else if k = 2 then b2 else b3) : Nat → AdT) k 0)))))))] ++ cwBookV kI b0 book0) ++ cwBookV kI b1 book0) ++ cwBookV kI b2 book0) ++ cwBookV kI b3 book0) = cwHist kI cA (fun k => if k = 0 then h0 else q) (fun k => if k = 0 then b0 else if k = 1 then b1 else if k = 2 then b2 else b3) ((fun _ => book0), 0) := by simp only [List.append_assoc]; rfl
  rw [hc2] at hP hD
  exact retI C ((fun k => if k = 0 then h0 else q), (fun k => if k = 0 then b0 else if k = 1 then b1 else if k = 2 then b2 else b3)) rfl hP hD hS (Nat.le_of_ble_eq_true rfl) (Nat.le_of_ble_eq_true rfl) dX2_init_42
set_option maxHeartbeats 1000000 in
set_option maxRecDepth 100000 in
theorem c_X8_init (l : Launch) (D : va_G) (kI kC kB : ClassId) (h0 : Nat) (sz : Nat) : CMI l D kI kC kB yX8_init cX8_init 1 ({ frames := 4, cells := 77, slots := 1369, locals := 83 } : Room) [.ref h0] [(h0, .inr (6, [.null, .null, .int 0, .null, .null, .null, .null]))] sz 77 1369 (fun a : AdT × (Nat → AdT) => a.1 0 = h0) (fun a => cwQS kI kB a.1 a.2 0 6291968 1 (row0 40) (row0 40) (row0 40) (row0 12) 6291968 1 (row0 40) (row0 40) (row0 40) (row0 12) ((fun _ => book0), 0) (row0 60) (row0 20) (row0 20) (row0 20) 0 0 (row0 320) 0 (row0 20)) := by
  refine entI (by decide) (by decide) (Nat.le_of_ble_eq_true rfl) ?_
  intro p e s m args below meth c ls A C hin hA hP hD hS hl
  replace hl : lv_has ls 1 [(0, .ref h0)] := hl
  obtain ⟨hx, hb, hr, hml, hown, hts, hlocks, hK⟩ := id C
  refine lv_aload_n hx hb dX8_init_0 rfl (lv_at hl 0 rfl) ?_
  refine W.objInit hx hb hown (hts _ tw_33) (hts _ tw_34) (hts _ tw_35) rfl (by rw [hml]; exact hl.1) rfl dX8_init_1 (Nat.le_of_ble_eq_true rfl) (Nat.le_of_ble_eq_true rfl) ?_
  refine W.eq (g2 := F0 m 4 ls []) rfl ?_
  refine lv_aload_n hx hb dX8_init_4 rfl (lv_at hl 0 rfl) ?_
  refine va_new (ci := 1) (fs := [.null, .int 0, .null, .null, .null, .null]) (C := RX1) (T := TX1) (N := 6) hx hb hts inX1 tyX1 tyX1_ok hown (hts _ tw_36) (hts _ tw_37) (hts _ tw_18) hK.1 hP hD hS hA rfl (fun j hj => by rcases (show j = 0 ∨ j = 1 ∨ j = 2 ∨ j = 3 ∨ j = 4 ∨ j = 5 by omega) with rfl | rfl | rfl | rfl | rfl | rfl <;> rfl) (Nat.le_of_ble_eq_true rfl) (Nat.le_of_ble_eq_true rfl) dX8_init_5 (fun q1 H hP hD hS => ?_)
  refine lv_dup hx hb dX8_init_8 rfl ?_
  refine kMIN (wr := [(h0, .inr (6, [.null, .null, .int 0, .null, .null, .null, .null]))]) (As := []) (rest := [.ref q1, .ref h0]) C (c_X1_init l D kI kC kB q1 H.size) ⟨rfl, rfl⟩ ce_X1_init tw_39 rfl (hK.2.1 _ nw_38) ⟨(Nat.le_of_ble_eq_true rfl), (Nat.le_of_ble_eq_true rfl)⟩ hP hD hS hA hl.1 rfl (Nat.le_of_ble_eq_true rfl) ⟨(Nat.le_of_ble_eq_true rfl), (Nat.le_of_ble_eq_true rfl)⟩ dX8_init_9 (fun a1 H locs ha1 hP2 hD2 hS2 => ?_)
  subst ha1
  have hP := hP2
  have hD := hD2
  have hS := hS2
  clear hP2 hD2 hS2
  refine va_putF (D := D) (ci := 6) (v := .ref (a1 0)) (ty := .object "QuireSigns$Book") (C := RX8) (T := TX8) (N := 7) hx hb hts inX8 tyX8 tyX8_ok nmX8 hown hK.1 hP hD hS 0 rfl rfl 0 (by decide) (hts _ tw_161) (fun _ h9 => h9) rfl hin rfl (tyX8_ok 0 (by decide)) rfl rfl (Nat.le_of_ble_eq_true rfl) dX8_init_12 (fun H locs hP hD hS => ?_)
  replace hP : va_P D vwCl (([(h0, .inr (6, [.ref (a1 0), .null, .int 0, .null, .null, .null, .null]))] ++ cwBookV kI a1 book0)) H := hP
  replace hD : va_D A (([(h0, .inr (6, [.ref (a1 0), .null, .int 0, .null, .null, .null, .null]))] ++ cwBookV kI a1 book0)) := hD
  refine lv_aload_n hx hb dX8_init_15 rfl (lv_at hl 0 rfl) ?_
  refine va_new (ci := 1) (fs := [.null, .int 0, .null, .null, .null, .null]) (C := RX1) (T := TX1) (N := 6) hx hb hts inX1 tyX1 tyX1_ok hown (hts _ tw_36) (hts _ tw_37) (hts _ tw_18) hK.1 hP hD hS hA rfl (fun j hj => by rcases (show j = 0 ∨ j = 1 ∨ j = 2 ∨ j = 3 ∨ j = 4 ∨ j = 5 by omega) with rfl | rfl | rfl | rfl | rfl | rfl <;> rfl) (Nat.le_of_ble_eq_true rfl) (Nat.le_of_ble_eq_true rfl) dX8_init_16 (fun q2 H hP hD hS => ?_)
  refine lv_dup hx hb dX8_init_19 rfl ?_
  refine kMIN (wr := ([(h0, .inr (6, [.ref (a1 0), .null, .int 0, .null, .null, .null, .null]))] ++ cwBookV kI a1 book0)) (As := []) (rest := [.ref q2, .ref h0]) C (c_X1_init l D kI kC kB q2 H.size) ⟨rfl, rfl⟩ ce_X1_init tw_39 rfl (hK.2.1 _ nw_38) ⟨(Nat.le_of_ble_eq_true rfl), (Nat.le_of_ble_eq_true rfl)⟩ hP hD hS hA hl.1 rfl (Nat.le_of_ble_eq_true rfl) ⟨(Nat.le_of_ble_eq_true rfl), (Nat.le_of_ble_eq_true rfl)⟩ dX8_init_20 (fun a2 H locs ha2 hP2 hD2 hS2 => ?_)
  subst ha2
  have hP := hP2
  have hD := hD2
  have hS := hS2
  clear hP2 hD2 hS2
  refine va_putF (D := D) (ci := 6) (v := .ref (a2 0)) (ty := .object "QuireSigns$Book") (C := RX8) (T := TX8) (N := 7) hx hb hts inX8 tyX8 tyX8_ok nmX8 hown hK.1 hP hD hS 0 rfl rfl 1 (by decide) (hts _ tw_162) (fun _ h9 => h9) rfl hin rfl (tyX8_ok 1 (by decide)) rfl rfl (Nat.le_of_ble_eq_true rfl) dX8_init_23 (fun H locs hP hD hS => ?_)
  replace hP : va_P D vwCl ((([(h0, .inr (6, [.ref (a1 0), .ref (a2 0), .int 0, .null, .null, .null, .null]))] ++ cwBookV kI a1 book0) ++ cwBookV kI a2 book0)) H := hP
  replace hD : va_D A ((([(h0, .inr (6, [.ref (a1 0), .ref (a2 0), .int 0, .null, .null, .null, .null]))] ++ cwBookV kI a1 book0) ++ cwBookV kI a2 book0)) := hD
  refine lv_aload_n hx hb dX8_init_26 rfl (lv_at hl 0 rfl) ?_
  refine va_new (ci := 2) (fs := [.null, .int 0]) (C := RX2) (T := TX2) (N := 2) hx hb hts inX2 tyX2 tyX2_ok hown (hts _ tw_99) (hts _ tw_100) (hts _ tw_22) hK.1 hP hD hS hA rfl (fun j hj => by rcases (show j = 0 ∨ j = 1 by omega) with rfl | rfl <;> rfl) (Nat.le_of_ble_eq_true rfl) (Nat.le_of_ble_eq_true rfl) dX8_init_27 (fun q3 H hP hD hS => ?_)
  refine lv_dup hx hb dX8_init_30 rfl ?_
  refine kMI (wr := (([(h0, .inr (6, [.ref (a1 0), .ref (a2 0), .int 0, .null, .null, .null, .null]))] ++ cwBookV kI a1 book0) ++ cwBookV kI a2 book0)) (As := []) (rest := [.ref q3, .ref h0]) C (c_X2_init l D kI kC kB q3 H.size) ⟨rfl, rfl⟩ ce_X2_init tw_102 rfl tw_101 ⟨(Nat.le_of_ble_eq_true rfl), (Nat.le_of_ble_eq_true rfl)⟩ hP hD hS hA hl.1 rfl (Nat.le_of_ble_eq_true rfl) ⟨(Nat.le_of_ble_eq_true rfl), (Nat.le_of_ble_eq_true rfl)⟩ dX8_init_31 (fun a3 H locs ha3 hP2 hD2 hS2 => ?_)
  subst ha3
  have hP := hP2
  have hD := hD2
  have hS := hS2
  clear hP2 hD2 hS2
  refine va_putF (D := D) (ci := 6) (v := .ref (a3.1 0)) (ty := .object "QuireSigns$History") (C := RX8) (T := TX8) (N := 7) hx hb hts inX8 tyX8 tyX8_ok nmX8 hown hK.1 hP hD hS 0 rfl rfl 3 (by decide) (hts _ tw_164) (fun _ h9 => h9) rfl hin rfl (tyX8_ok 3 (by decide)) rfl rfl (Nat.le_of_ble_eq_true rfl) dX8_init_34 (fun H locs hP hD hS => ?_)
  replace hP : va_P D vwCl (((([(h0, .inr (6, [.ref (a1 0), .ref (a2 0), .int 0, .ref (a3.1 0), .null, .null, .null]))] ++ cwBookV kI a1 book0) ++ cwBookV kI a2 book0) ++ cwHist kI kB a3.1 a3.2 ((fun _ => book0), 0))) H := hP
  replace hD : va_D A (((([(h0, .inr (6, [.ref (a1 0), .ref (a2 0), .int 0, .ref (a3.1 0), .null, .null, .null]))] ++ cwBookV kI a1 book0) ++ cwBookV kI a2 book0) ++ cwHist kI kB a3.1 a3.2 ((fun _ => book0), 0))) := hD
  refine lv_aload_n hx hb dX8_init_37 rfl (lv_at hl 0 rfl) ?_
  refine va_new (ci := 4) (fs := [.null, .null, .null, .null, .null, .int 0]) (C := RX6) (T := TX6) (N := 6) hx hb hts inX6 tyX6 tyX6_ok hown (hts _ tw_115) (hts _ tw_116) (hts _ tw_23) hK.1 hP hD hS hA rfl (fun j hj => by rcases (show j = 0 ∨ j = 1 ∨ j = 2 ∨ j = 3 ∨ j = 4 ∨ j = 5 by omega) with rfl | rfl | rfl | rfl | rfl | rfl <;> rfl) (Nat.le_of_ble_eq_true rfl) (Nat.le_of_ble_eq_true rfl) dX8_init_38 (fun q4 H hP hD hS => ?_)
  refine lv_dup hx hb dX8_init_41 rfl ?_
  refine kMIN (wr := ((([(h0, .inr (6, [.ref (a1 0), .ref (a2 0), .int 0, .ref (a3.1 0), .null, .null, .null]))] ++ cwBookV kI a1 book0) ++ cwBookV kI a2 book0) ++ cwHist kI kB a3.1 a3.2 ((fun _ => book0), 0))) (As := []) (rest := [.ref q4, .ref h0]) C (c_X6_init l D kI kC kB q4 H.size) ⟨rfl, rfl⟩ ce_X6_init tw_118 rfl (hK.2.1 _ nw_117) ⟨(Nat.le_of_ble_eq_true rfl), (Nat.le_of_ble_eq_true rfl)⟩ hP hD hS hA hl.1 rfl (Nat.le_of_ble_eq_true rfl) ⟨(Nat.le_of_ble_eq_true rfl), (Nat.le_of_ble_eq_true rfl)⟩ dX8_init_42 (fun a4 H locs ha4 hP2 hD2 hS2 => ?_)
  subst ha4
  have hP := hP2
  have hD := hD2
  have hS := hS2
  clear hP2 hD2 hS2
  refine va_putF (D := D) (ci := 6) (v := .ref (a4 0)) (ty := .object "QuireSigns$Text") (C := RX8) (T := TX8) (N := 7) hx hb hts inX8 tyX8 tyX8_ok nmX8 hown hK.1 hP hD hS 0 rfl rfl 4 (by decide) (hts _ tw_165) (fun _ h9 => h9) rfl hin rfl (tyX8_ok 4 (by decide)) rfl rfl (Nat.le_of_ble_eq_true rfl) dX8_init_45 (fun H locs hP hD hS => ?_)
  replace hP : va_P D vwCl ((((([(h0, .inr (6, [.ref (a1 0), .ref (a2 0), .int 0, .ref (a3.1 0), .ref (a4 0), .null, .null]))] ++ cwBookV kI a1 book0) ++ cwBookV kI a2 book0) ++ cwHist kI kB a3.1 a3.2 ((fun _ => book0), 0)) ++ (cwText kI a4 (row0 60) (row0 20) (row0 20) (row0 20) 0 ++ cwAlph (fun i => a4 (i + 9)) 0))) H := hP
  replace hD : va_D A ((((([(h0, .inr (6, [.ref (a1 0), .ref (a2 0), .int 0, .ref (a3.1 0), .ref (a4 0), .null, .null]))] ++ cwBookV kI a1 book0) ++ cwBookV kI a2 book0) ++ cwHist kI kB a3.1 a3.2 ((fun _ => book0), 0)) ++ (cwText kI a4 (row0 60) (row0 20) (row0 20) (row0 20) 0 ++ cwAlph (fun i => a4 (i + 9)) 0))) := hD
  refine lv_aload_n hx hb dX8_init_48 rfl (lv_at hl 0 rfl) ?_
  refine va_new (ci := 5) (fs := [.null, .int 0]) (C := RX7) (T := TX7) (N := 2) hx hb hts inX7 tyX7 tyX7_ok hown (hts _ tw_144) (hts _ tw_145) (hts _ tw_24) hK.1 hP hD hS hA rfl (fun j hj => by rcases (show j = 0 ∨ j = 1 by omega) with rfl | rfl <;> rfl) (Nat.le_of_ble_eq_true rfl) (Nat.le_of_ble_eq_true rfl) dX8_init_49 (fun q5 H hP hD hS => ?_)
  refine lv_dup hx hb dX8_init_52 rfl ?_
  refine kMIN (wr := (((([(h0, .inr (6, [.ref (a1 0), .ref (a2 0), .int 0, .ref (a3.1 0), .ref (a4 0), .null, .null]))] ++ cwBookV kI a1 book0) ++ cwBookV kI a2 book0) ++ cwHist kI kB a3.1 a3.2 ((fun _ => book0), 0)) ++ (cwText kI a4 (row0 60) (row0 20) (row0 20) (row0 20) 0 ++ cwAlph (fun i => a4 (i + 9)) 0))) (As := []) (rest := [.ref q5, .ref h0]) C (c_X7_init l D kI kC kB q5 H.size) ⟨rfl, rfl⟩ ce_X7_init tw_147 rfl (hK.2.1 _ nw_146) ⟨(Nat.le_of_ble_eq_true rfl), (Nat.le_of_ble_eq_true rfl)⟩ hP hD hS hA hl.1 rfl (Nat.le_of_ble_eq_true rfl) ⟨(Nat.le_of_ble_eq_true rfl), (Nat.le_of_ble_eq_true rfl)⟩ dX8_init_53 (fun a5 H locs ha5 hP2 hD2 hS2 => ?_)
  subst ha5
  have hP := hP2
  have hD := hD2
  have hS := hS2
  clear hP2 hD2 hS2
  refine va_putF (D := D) (ci := 6) (v := .ref (a5 0)) (ty := .object "QuireSigns$Writer") (C := RX8) (T := TX8) (N := 7) hx hb hts inX8 tyX8 tyX8_ok nmX8 hown hK.1 hP hD hS 0 rfl rfl 5 (by decide) (hts _ tw_166) (fun _ h9 => h9) rfl hin rfl (tyX8_ok 5 (by decide)) rfl rfl (Nat.le_of_ble_eq_true rfl) dX8_init_56 (fun H locs hP hD hS => ?_)
  replace hP : va_P D vwCl (((((([(h0, .inr (6, [.ref (a1 0), .ref (a2 0), .int 0, .ref (a3.1 0), .ref (a4 0), .ref (a5 0), .null]))] ++ cwBookV kI a1 book0) ++ cwBookV kI a2 book0) ++ cwHist kI kB a3.1 a3.2 ((fun _ => book0), 0)) ++ (cwText kI a4 (row0 60) (row0 20) (row0 20) (row0 20) 0 ++ cwAlph (fun i => a4 (i + 9)) 0)) ++ cwWriter kI a5 (row0 320) 0)) H := hP
  replace hD : va_D A (((((([(h0, .inr (6, [.ref (a1 0), .ref (a2 0), .int 0, .ref (a3.1 0), .ref (a4 0), .ref (a5 0), .null]))] ++ cwBookV kI a1 book0) ++ cwBookV kI a2 book0) ++ cwHist kI kB a3.1 a3.2 ((fun _ => book0), 0)) ++ (cwText kI a4 (row0 60) (row0 20) (row0 20) (row0 20) 0 ++ cwAlph (fun i => a4 (i + 9)) 0)) ++ cwWriter kI a5 (row0 320) 0)) := hD
  refine lv_aload_n hx hb dX8_init_59 rfl (lv_at hl 0 rfl) ?_
  refine va_new (ci := 3) (fs := [.null, .int 0]) (C := RX4) (T := TX4) (N := 2) hx hb hts inX4 tyX4 tyX4_ok hown (hts _ tw_159) (hts _ tw_54) (hts _ tw_20) hK.1 hP hD hS hA rfl (fun j hj => by rcases (show j = 0 ∨ j = 1 by omega) with rfl | rfl <;> rfl) (Nat.le_of_ble_eq_true rfl) (Nat.le_of_ble_eq_true rfl) dX8_init_60 (fun q6 H hP hD hS => ?_)
  refine lv_dup hx hb dX8_init_63 rfl ?_
  refine lv_bipush (v := nI 20) hx hb dX8_init_64 (by decide) ?_
  refine kMI (wr := ((((([(h0, .inr (6, [.ref (a1 0), .ref (a2 0), .int 0, .ref (a3.1 0), .ref (a4 0), .ref (a5 0), .null]))] ++ cwBookV kI a1 book0) ++ cwBookV kI a2 book0) ++ cwHist kI kB a3.1 a3.2 ((fun _ => book0), 0)) ++ (cwText kI a4 (row0 60) (row0 20) (row0 20) (row0 20) 0 ++ cwAlph (fun i => a4 (i + 9)) 0)) ++ cwWriter kI a5 (row0 320) 0)) (As := [.int (nI 20)]) (rest := [.ref q6, .ref h0]) C (c_X4_init l D kI kC kB q6 H.size 20 (by decide)) ⟨rfl, rfl⟩ ce_X4_init tw_56 rfl tw_160 ⟨(Nat.le_of_ble_eq_true rfl), (Nat.le_of_ble_eq_true rfl)⟩ hP hD hS hA hl.1 rfl (Nat.le_of_ble_eq_true rfl) ⟨(Nat.le_of_ble_eq_true rfl), (Nat.le_of_ble_eq_true rfl)⟩ dX8_init_66 (fun a6 H locs ha6 hP2 hD2 hS2 => ?_)
  subst ha6
  have hP := hP2
  have hD := hD2
  have hS := hS2
  clear hP2 hD2 hS2
  refine va_putF (D := D) (ci := 6) (v := .ref (a6 0)) (ty := .object "QuireSigns$Row") (C := RX8) (T := TX8) (N := 7) hx hb hts inX8 tyX8 tyX8_ok nmX8 hown hK.1 hP hD hS 0 rfl rfl 6 (by decide) (hts _ tw_167) (fun _ h9 => h9) rfl hin rfl (tyX8_ok 6 (by decide)) rfl rfl (Nat.le_of_ble_eq_true rfl) dX8_init_69 (fun H locs hP hD hS => ?_)
  replace hP : va_P D vwCl ((((((([(h0, .inr (6, [.ref (a1 0), .ref (a2 0), .int 0, .ref (a3.1 0), .ref (a4 0), .ref (a5 0), .ref (a6 0)]))] ++ cwBookV kI a1 book0) ++ cwBookV kI a2 book0) ++ cwHist kI kB a3.1 a3.2 ((fun _ => book0), 0)) ++ (cwText kI a4 (row0 60) (row0 20) (row0 20) (row0 20) 0 ++ cwAlph (fun i => a4 (i + 9)) 0)) ++ cwWriter kI a5 (row0 320) 0) ++ cwRow kI a6 (row0 20))) H := hP
  replace hD : va_D A ((((((([(h0, .inr (6, [.ref (a1 0), .ref (a2 0), .int 0, .ref (a3.1 0), .ref (a4 0), .ref (a5 0), .ref (a6 0)]))] ++ cwBookV kI a1 book0) ++ cwBookV kI a2 book0) ++ cwHist kI kB a3.1 a3.2 ((fun _ => book0), 0)) ++ (cwText kI a4 (row0 60) (row0 20) (row0 20) (row0 20) 0 ++ cwAlph (fun i => a4 (i + 9)) 0)) ++ cwWriter kI a5 (row0 320) 0) ++ cwRow kI a6 (row0 20))) := hD
  have hc2 : (((((([(h0, .inr (6, [.ref (a1 0), .ref (a2 0), .int 0, .ref (a3.1 0), .ref (a4 0), .ref (a5 0), .ref (a6 0)]))] ++ cwBookV kI a1 book0) ++ cwBookV kI a2 book0) ++ cwHist kI kB a3.1 a3.2 ((fun _ => book0), 0)) ++ (cwText kI a4 (row0 60) (row0 20) (row0 20) (row0 20) 0 ++ cwAlph (fun i => a4 (i + 9)) 0)) ++ cwWriter kI a5 (row0 320) 0) ++ cwRow kI a6 (row0 20)) = cwQS kI kB (fun k => if k = 0 then h0 else if k < 11 then a1 (k - 1) else if k < 21 then a2 (k - 11) else if k < 23 then a3.1 (k - 21) else if k < 33 then a4 (k - 23) else if k < 36 then a5 (k - 33) else a6 (k - 36)) a3.2 0 6291968 1 (row0 40) (row0 40) (row0 40) (row0 12) 6291968 1 (row0 40) (row0 40) (row0 40) (row0 12) ((fun _ => book0), 0) (row0 60) (row0 20) (row0 20) (row0 20) 0 0 (row0 320) 0 (row0 20) := by
    have e0 : ∀ x : va_W, (((((([(h0, .inr (6, [.ref (a1 0), .ref (a2 0), .int 0, .ref (a3.1 0), .ref (a4 0), .ref (a5 0), .ref (a6 0)]))] ++ cwBookV kI a1 book0) ++ cwBookV kI a2 book0) ++ cwHist kI kB a3.1 a3.2 ((fun _ => book0), 0)) ++ (cwText kI a4 (row0 60) (row0 20) (row0 20) (row0 20) 0 ++ cwAlph (fun i => a4 (i + 9)) 0)) ++ cwWriter kI a5 (row0 320) 0) ++ cwRow kI a6 (row0 20)) = x → (((((([(h0, .inr (6, [.ref (a1 0), .ref (a2 0), .int 0, .ref (a3.1 0), .ref (a4 0), .ref (a5 0), .ref (a6 0)]))] ++ cwBookV kI a1 book0) ++ cwBookV kI a2 book0) ++ cwHist kI kB a3.1 a3.2 ((fun _ => book0), 0)) ++ (cwText kI a4 (row0 60) (row0 20) (row0 20) (row0 20) 0 ++ cwAlph (fun i => a4 (i + 9)) 0)) ++ cwWriter kI a5 (row0 320) 0) ++ cwRow kI a6 (row0 20)) = x := fun _ h => h
    rw [show (((((([(h0, .inr (6, [.ref (a1 0), .ref (a2 0), .int 0, .ref (a3.1 0), .ref (a4 0), .ref (a5 0), .ref (a6 0)]))] ++ cwBookV kI a1 book0) ++ cwBookV kI a2 book0) ++ cwHist kI kB a3.1 a3.2 ((fun _ => book0), 0)) ++ (cwText kI a4 (row0 60) (row0 20) (row0 20) (row0 20) 0 ++ cwAlph (fun i => a4 (i + 9)) 0)) ++ cwWriter kI a5 (row0 320) 0) ++ cwRow kI a6 (row0 20)) = bfl [[(h0, .inr (6, [.ref (a1 0), .ref (a2 0), .int 0, .ref (a3.1 0), .ref (a4 0), .ref (a5 0), .ref (a6 0)]))], cwBookV kI a1 book0, cwBookV kI a2 book0, cwHist kI kB a3.1 a3.2 ((fun _ => book0), 0), cwText kI a4 (row0 60) (row0 20) (row0 20) (row0 20) 0, cwAlph (fun i => a4 (i + 9)) 0, cwWriter kI a5 (row0 320) 0, cwRow kI a6 (row0 20)] from by simp only [bfl, List.append_assoc]]
    unfold cwQS
    exact congrArg bfl (by refine congr (congrArg List.cons rfl) (congr (congrArg List.cons rfl) (congr (congrArg List.cons rfl) (congr (congrArg List.cons rfl) (congr (congrArg List.cons rfl) (congr (congrArg List.cons rfl) (congr (congrArg List.cons rfl) (congr (congrArg List.cons rfl) rfl)))))))) 
  rw [hc2] at hP hD
  exact retI C ((fun k => if k = 0 then h0 else if k < 11 then a1 (k - 1) else if k < 21 then a2 (k - 11) else if k < 23 then a3.1 (k - 21) else if k < 33 then a4 (k - 23) else if k < 36 then a5 (k - 33) else a6 (k - 36)), a3.2) rfl hP hD hS (Nat.le_of_ble_eq_true rfl) (Nat.le_of_ble_eq_true rfl) dX8_init_72
