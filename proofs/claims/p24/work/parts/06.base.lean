/-! base: contexts, entries of methods, calls, over the kit's rows. Every contract takes the same words: its own code, then gw. -/
abbrev RowT : Type := Nat × (Nat → Int32) × Int32
abbrev BookT : Type := Int32 × Int32 × RowT × RowT × RowT × RowT
abbrev HistT : Type := (Nat → BookT) × Int32
def cI (x : Int32) : Int32 := (x.toUInt32 % 65536).toInt32
def WS (y : MethodName) (b : ByteArray) (n : Nat) (r : Option FieldType) : List Cond := .code y b n r :: gw
abbrev ty3 (kI kC kB : ClassId) : List (ClassId × FieldType) := [(kI, .int), (kI, .int), (kB, .object "QuireSigns$Book")]
def kn (D : va_G) (kI kC kB : ClassId) (U : State) : Prop := va_K D vwCl (ty3 kI kC kB) U ∧ nst U ∧ va_AO "QuireSigns$Book" U
theorem kn.warm {D : va_G} {kI kC kB : ClassId} {s U : State} (hW : s.WarmedH U.vm) (h : kn D kI kC kB s) : kn D kI kC kB U := ⟨va_K.moved hW.alike h.1, nst_warm hW h.2.1, va_AO.moved hW.alike h.2.2⟩
theorem kn.same {D : va_G} {kI kC kB : ClassId} {u U : State} (e : u.vm = U.vm) (h : kn D kI kC kB u) : kn D kI kC kB U := ⟨va_K.moved (by rw [e]; exact Vm.Alike.refl _) h.1, nst_same e h.2.1, va_AO.moved (by rw [e]; exact Vm.Alike.refl _) h.2.2⟩
/-- what a method's start says of the machine -/
abbrev CtxT (p : Program) (s : State) (m : MethodId) (args : Array Value) (meth : Method) (c : Code) (b : ByteArray) (n : Nat) (r : Option FieldType) (own : String) (D : va_G) (kI kC kB : ClassId) : Prop :=
  p.tables.exec = Jvm.exec ∧ c.code = b ∧ meth.sig.returnType = r ∧ c.maxLocals = n ∧ s.vm.findClass own = some m.cls ∧ (∀ w ∈ gw, w.before args s = true) ∧ meth.locks = false ∧ kn D kI kC kB s
def PR (D : va_G) (kI kC kB : ClassId) (w : va_W) (U : State) : Prop := va_P D vwCl w U.heap ∧ kn D kI kC kB U
def PM (D : va_G) (kI kC kB : ClassId) (w : va_W) (sz : Nat) (U : State) : Prop := U.heap.size = sz ∧ va_P D vwCl w U.heap ∧ kn D kI kC kB U ∧ va_D (fun _ => True) w
def BB {S : Type} (D : va_G) (A : Nat → Prop) (wf : S → va_W) (u : S) (t : State) : Prop := va_P D vwCl (wf u) t.heap ∧ va_D A (wf u)
theorem PR_blind {D : va_G} {kI kC kB : ClassId} {w : va_W} {av : List Value} : FrameBlind (va_Pc av (PR D kI kC kB w)) := fun a U g mk q => ⟨q.1, q.2.1, kn.same (u := U) (U := U.calling g mk a) rfl q.2.2⟩
theorem PM_blind {D : va_G} {kI kC kB : ClassId} {w : va_W} {sz : Nat} {av : List Value} : FrameBlind (va_Pc av (PM D kI kC kB w sz)) := fun a U g mk q => ⟨q.1, q.2.1, q.2.2.1, kn.same (u := U) (U := U.calling g mk a) rfl q.2.2.2.1, q.2.2.2.2⟩
/-- a read-only contract, of an int -/
abbrev CR (l : Launch) (D : va_G) (kI kC kB : ClassId) (y : MethodName) (b : ByteArray) (n : Nat) (r : Option FieldType) (rm : Room) (av : List Value) (w : va_W) (Post : Int32 → Prop) : Prop :=
  Met l y (WS y b n r) rm (va_Pc av (PR D kI kC kB w)) (vp_Si Post) 0 0 (fun _ => False)
/-- a contract that changes its world, of an int -/
abbrev CMi {S : Type} (l : Launch) (D : va_G) (kI kC kB : ClassId) (y : MethodName) (b : ByteArray) (n : Nat) (r : Option FieldType) (rm : Room) (av : List Value) (w : va_W) (sz : Nat) (Post : Int32 → S → Prop) (wf : S → va_W) : Prop :=
  Met l y (WS y b n r) rm (va_Pc av (PM D kI kC kB w sz)) (va_Qi Post (BB D (va_A w sz) wf) (va_A w sz)) 0 0 (va_A w sz)
/-- a contract that changes its world, of nothing -/
abbrev CMv {S : Type} (l : Launch) (D : va_G) (kI kC kB : ClassId) (y : MethodName) (b : ByteArray) (n : Nat) (r : Option FieldType) (rm : Room) (av : List Value) (w : va_W) (sz : Nat) (Post : S → Prop) (wf : S → va_W) : Prop :=
  Met l y (WS y b n r) rm (va_Pc av (PM D kI kC kB w sz)) (va_Qv Post (BB D (va_A w sz) wf) (va_A w sz)) 0 0 (va_A w sz)
theorem entR {l : Launch} {D : va_G} {kI kC kB : ClassId} {y : MethodName} {b : ByteArray} {n : Nat} {r : Option FieldType} {rm : Room} {av : List Value} {w : va_W} {Post : Int32 → Prop} (hy : plainName y.cls = true) (hn : (lg_sl av).length ≤ n)
    (body : ∀ (p : Program) (e : Env) (s : State) (m : MethodId) (args : Array Value) (below : List Frame) (meth : Method) (c : Code) (ls : Array Slot), CtxT p s m args meth c b n r y.cls D kI kC kB → va_P D vwCl w s.heap → lv_has ls n (lv_args 0 av) →
      W p l e rm s m args below meth c s.heap [] 0 0 (MQ below (vp_Si Post) args s 0 0 (fun _ => False)) (F0 m 0 ls [])) : CR l D kI kC kB y b n r rm av w Post := by
  refine Met.ofW (cc := b) (maxL := n) (ret := r) hy rfl ?_
  intro p e s m args below meth c s₁ B hml hv
  obtain ⟨rfl, hP, hK⟩ := hv
  have hts := atoms_spec (ws := WS y b n r) B.pre
  have hl := lv_entry av (n := n) hn
  rw [lg_entry_eq]
  generalize (lg_sl av ++ List.replicate (n - (lg_sl av).length) Slot.unset).toArray = ls at hl ⊢
  exact body p e s m _ below meth c ls ⟨B.exec, B.bytes, B.returns, hml, findClass_of_methodNamed B.named, fun w h => hts w (List.mem_cons_of_mem _ h), B.notSynchronized, hK⟩ hP hl
theorem entMi {S : Type} {l : Launch} {D : va_G} {kI kC kB : ClassId} {y : MethodName} {b : ByteArray} {n : Nat} {r : Option FieldType} {rm : Room} {av : List Value} {w : va_W} {sz : Nat} {Post : Int32 → S → Prop} {wf : S → va_W} (hy : plainName y.cls = true) (hn : (lg_sl av).length ≤ n)
    (body : ∀ (p : Program) (e : Env) (s : State) (m : MethodId) (args : Array Value) (below : List Frame) (meth : Method) (c : Code) (ls : Array Slot) (A : Nat → Prop), CtxT p s m args meth c b n r y.cls D kI kC kB → (∀ q, s.heap.size ≤ q → A q) → va_P D vwCl w s.heap → va_D A w → va_S A s.heap s.heap [] → lv_has ls n (lv_args 0 av) →
      W p l e rm s m args below meth c s.heap [] 0 0 (MQ below (va_Qi Post (BB D A wf) A) args s 0 0 A) (F0 m 0 ls [])) : CMi l D kI kC kB y b n r rm av w sz Post wf := by
  refine Met.ofW (cc := b) (maxL := n) (ret := r) hy rfl ?_
  intro p e s m args below meth c s₁ B hml hv
  obtain ⟨rfl, hsz, hP, hK, hD0⟩ := hv
  subst hsz
  have hD := hD0.self (sz := s.heap.size)
  have hA : ∀ q : Nat, s.heap.size ≤ q → va_A w s.heap.size q := fun q h => Or.inr h
  generalize va_A w s.heap.size = A at hD hA ⊢
  have hts := atoms_spec (ws := WS y b n r) B.pre
  have hl := lv_entry av (n := n) hn
  rw [lg_entry_eq]
  generalize (lg_sl av ++ List.replicate (n - (lg_sl av).length) Slot.unset).toArray = ls at hl ⊢
  exact body p e s m _ below meth c ls A ⟨B.exec, B.bytes, B.returns, hml, findClass_of_methodNamed B.named, fun w h => hts w (List.mem_cons_of_mem _ h), B.notSynchronized, hK⟩ hA hP hD va_S.rf hl
theorem entMv {S : Type} {l : Launch} {D : va_G} {kI kC kB : ClassId} {y : MethodName} {b : ByteArray} {n : Nat} {r : Option FieldType} {rm : Room} {av : List Value} {w : va_W} {sz : Nat} {Post : S → Prop} {wf : S → va_W} (hy : plainName y.cls = true) (hn : (lg_sl av).length ≤ n)
    (body : ∀ (p : Program) (e : Env) (s : State) (m : MethodId) (args : Array Value) (below : List Frame) (meth : Method) (c : Code) (ls : Array Slot) (A : Nat → Prop), CtxT p s m args meth c b n r y.cls D kI kC kB → (∀ q, s.heap.size ≤ q → A q) → va_P D vwCl w s.heap → va_D A w → va_S A s.heap s.heap [] → lv_has ls n (lv_args 0 av) →
      W p l e rm s m args below meth c s.heap [] 0 0 (MQ below (va_Qv Post (BB D A wf) A) args s 0 0 A) (F0 m 0 ls [])) : CMv l D kI kC kB y b n r rm av w sz Post wf := by
  refine Met.ofW (cc := b) (maxL := n) (ret := r) hy rfl ?_
  intro p e s m args below meth c s₁ B hml hv
  obtain ⟨rfl, hsz, hP, hK, hD0⟩ := hv
  subst hsz
  have hD := hD0.self (sz := s.heap.size)
  have hA : ∀ q : Nat, s.heap.size ≤ q → va_A w s.heap.size q := fun q h => Or.inr h
  generalize va_A w s.heap.size = A at hD hA ⊢
  have hts := atoms_spec (ws := WS y b n r) B.pre
  have hl := lv_entry av (n := n) hn
  rw [lg_entry_eq]
  generalize (lg_sl av ++ List.replicate (n - (lg_sl av).length) Slot.unset).toArray = ls at hl ⊢
  exact body p e s m _ below meth c ls A ⟨B.exec, B.bytes, B.returns, hml, findClass_of_methodNamed B.named, fun w h => hts w (List.mem_cons_of_mem _ h), B.notSynchronized, hK⟩ hA hP hD va_S.rf hl
/-- what a callee's name says -/
def CE (y : MethodName) (b : ByteArray) (n : Nat) (r : Option FieldType) (k : Nat) : Prop :=
  Cond.code y b n r ∈ gw ∧ Cond.initialized y.cls ∈ gw ∧ (y.cls ≠ "java/lang/invoke/MethodHandle" ∧ y.cls ≠ "java/lang/invoke/VarHandle") ∧ ∀ sig, parseMethodDescriptor y.desc = some sig → k = sig.parameters.length
theorem ce_par {d : String} {k : Nat} (h : (parseMethodDescriptor d).map (fun d => d.parameters.length) = some k) : ∀ sig, parseMethodDescriptor d = some sig → k = sig.parameters.length := by
  intro sig hs
  rw [hs] at h
  exact (Option.some.inj h).symm
def CV (y : MethodName) : Prop := Cond.instanceMethod y ∈ gw ∧ Cond.selects y.cls y y ∈ gw
section run
variable {p : Program} {l : Launch} {e : Env} {R : Room} {s : State} {m : MethodId} {args : Array Value} {below : List Frame} {meth : Method} {c : Code} {H : Heap} {locs : List Loc} {cells slots : Nat} {Q : State → Prop} {D : va_G} {kI kC kB : ClassId}
variable {y : MethodName} {bytes cc : ByteArray} {maxL nL mc ms k index pc : Nat} {r0 ret : Option FieldType} {rm : Room} {PC : State → Prop} {Qc : Array Value → State → Outcome → State → Prop} {free : Addr → Prop} {own : String} {b : Addr} {As rest st0 : List Value} {ls : Array Slot}
theorem callB_gw (C : CtxT p s m args meth c cc nL r0 own D kI kC kB) (hrm : rm.cells = mc ∧ rm.slots = ms) (ce : CE y bytes maxL ret k) (hl : Cond.methodLink own index y ∈ gw) (hR : rm.frames + 1 ≤ R.frames ∧ 8 + (maxL + 11) + rm.locals ≤ R.locals) : CallB R s args own index y bytes maxL ret (WS y bytes maxL ret) rm mc ms k := by
  obtain ⟨hx, hb, hr, hml, hown, hts, hlocks, hK⟩ := C
  obtain ⟨e1, e2, e3, e4⟩ := ce
  have hG : ∀ w ∈ WS y bytes maxL ret, w ∈ gw ∧ ((w.onTables && w.keeps) = true ∨ ∃ ty, w = .arrayClass ty) := fun w h => (List.mem_cons.mp h).elim (fun q => by rw [q]; exact gw_good _ e1) (gw_good w)
  exact ⟨hrm.1, hrm.2, hR.1, hR.2, pay_in hts hG, List.mem_cons_self, hts _ e1, hts _ e2, e3, e4, hts _ hl⟩
theorem runV (C : CtxT p s m args meth c cc nL r0 own D kI kC kB) (hM : Met l y (WS y bytes maxL ret) rm (va_Pc (.ref b :: As) PC) Qc mc ms free) (hrm : rm.cells = mc ∧ rm.slots = ms) (ce : CE y bytes maxL ret As.length) (cv : CV y) (hl : Cond.methodLink own index y ∈ gw) (hR : rm.frames + 1 ≤ R.frames ∧ 8 + (maxL + 11) + rm.locals ≤ R.locals)
    (hbl : FrameBlind (va_Pc (.ref b :: As) PC)) (hrecv : ∃ cell : Cell, H[b]? = some cell ∧ cell.vm.isStatics = false ∧ s.vm.findClass y.cls = some cell.cls) (hPc : ∀ U : State, U.heap = H → s.WarmedH U.vm → PC U) (hls : ls.size = nL) (hst : st0 = As.reverse ++ Value.ref b :: rest) (hroom : (rest.map fun v => v.category).sum ≤ 8) (hdg : decode cc pc = .ok (.invokevirtual index, 3)) (hf : cells + mc ≤ R.cells ∧ slots + ms ≤ R.slots) :
    va_Run p l e R s m args below meth c H locs cells slots mc ms (F0 m pc ls st0) rest (Qc (Value.ref b :: As).toArray) free := by
  have hts := C.2.2.2.2.2.1
  exact va_runV (C := y.cls) ⟨C.1, C.2.1, C.2.2.2.1, C.2.2.2.2.1, hts⟩ hM ⟨callB_gw C hrm ce hl hR, hts _ cv.1, hts _ cv.2⟩ ⟨hbl, hrecv, fun U h1 h2 => ⟨rfl, hPc U h1 h2⟩⟩ rfl rfl hls hst (lv_room hroom) hdg hf
theorem runS (C : CtxT p s m args meth c cc nL r0 own D kI kC kB) (hM : Met l y (WS y bytes maxL ret) rm (va_Pc As PC) Qc mc ms free) (hrm : rm.cells = mc ∧ rm.slots = ms) (ce : CE y bytes maxL ret As.length) (cv : Cond.static y ∈ gw) (hl : Cond.methodLink own index y ∈ gw) (hR : rm.frames + 1 ≤ R.frames ∧ 8 + (maxL + 11) + rm.locals ≤ R.locals)
    (hbl : FrameBlind (va_Pc As PC)) (hPc : ∀ U : State, U.heap = H → s.WarmedH U.vm → PC U) (hls : ls.size = nL) (hst : st0 = As.reverse ++ rest) (hroom : (rest.map fun v => v.category).sum ≤ 8) (hdg : decode cc pc = .ok (.invokestatic index, 3)) (hf : cells + mc ≤ R.cells ∧ slots + ms ≤ R.slots) :
    va_Run p l e R s m args below meth c H locs cells slots mc ms (F0 m pc ls st0) rest (Qc As.toArray) free := by
  have hts := C.2.2.2.2.2.1
  exact va_runS ⟨C.1, C.2.1, C.2.2.2.1, C.2.2.2.2.1, hts⟩ hM ⟨callB_gw C hrm ce hl hR, hts _ cv⟩ ⟨hbl, fun U h1 h2 => ⟨rfl, hPc U h1 h2⟩⟩ rfl rfl hls hst (lv_room hroom) hdg hf
/-- a read-only call of a method of an object -/
theorem kRV {ws wc : va_W} {Post : Int32 → Prop} {q0 ci : Nat} {q : vw_C} {fs : List Value} (C : CtxT p s m args meth c cc nL r0 own D kI kC kB) (hM : CR l D kI kC kB y bytes maxL ret rm (.ref b :: As) wc Post) (hrm : rm.cells = 0 ∧ rm.slots = 0) (ce : CE y bytes maxL ret As.length) (cv : CV y) (hl : Cond.methodLink own index y ∈ gw) (hR : rm.frames + 1 ≤ R.frames ∧ 8 + (maxL + 11) + rm.locals ≤ R.locals)
    (hP : va_P D vwCl ws H) (is : List Nat) (hs : is.filterMap (fun i => ws[i]?) = wc) (he : ws[q0]? = some (b, .inr (ci, fs))) (hc : vwCl[ci]? = some q) (hq : q.1 = y.cls) (hls : ls.size = nL) (hst : st0 = As.reverse ++ Value.ref b :: rest) (hroom : (rest.map fun v => v.category).sum ≤ 8) (hf : cells ≤ R.cells ∧ slots ≤ R.slots) (hdg : decode cc pc = .ok (.invokevirtual index, 3))
    (kk : ∀ r : Int32, Post r → W p l e R s m args below meth c H locs cells slots Q (F0 m (pc + 3) ls (.int r :: rest))) : W p l e R s m args below meth c H locs cells slots Q (F0 m pc ls st0) := by
  have hK := C.2.2.2.2.2.2.2
  exact vp_callSi (runV C hM hrm ce cv hl hR PR_blind (by rw [← hq]; exact va_recv hK.1 hP hc he) (fun U h1 h2 => ⟨by rw [h1]; exact hP.sub is hs, hK.warm h2⟩) hls hst hroom hdg hf).run kk
/-- a read-only call of a static method -/
theorem kRS {ws wc : va_W} {Post : Int32 → Prop} (C : CtxT p s m args meth c cc nL r0 own D kI kC kB) (hM : CR l D kI kC kB y bytes maxL ret rm As wc Post) (hrm : rm.cells = 0 ∧ rm.slots = 0) (ce : CE y bytes maxL ret As.length) (cv : Cond.static y ∈ gw) (hl : Cond.methodLink own index y ∈ gw) (hR : rm.frames + 1 ≤ R.frames ∧ 8 + (maxL + 11) + rm.locals ≤ R.locals)
    (hP : va_P D vwCl ws H) (is : List Nat) (hs : is.filterMap (fun i => ws[i]?) = wc) (hls : ls.size = nL) (hst : st0 = As.reverse ++ rest) (hroom : (rest.map fun v => v.category).sum ≤ 8) (hf : cells ≤ R.cells ∧ slots ≤ R.slots) (hdg : decode cc pc = .ok (.invokestatic index, 3))
    (kk : ∀ r : Int32, Post r → W p l e R s m args below meth c H locs cells slots Q (F0 m (pc + 3) ls (.int r :: rest))) : W p l e R s m args below meth c H locs cells slots Q (F0 m pc ls st0) := by
  have hK := C.2.2.2.2.2.2.2
  exact vp_callSi (runS C hM hrm ce cv hl hR PR_blind (fun U h1 h2 => ⟨by rw [h1]; exact hP.sub is hs, hK.warm h2⟩) hls hst hroom hdg hf).run kk
end run
/-- places of a world taken by what a call gave back -/
def va_rep (ws : va_W) : List Nat → va_W → va_W
  | i :: is, x :: w1 => va_rep (ws.set i x) is w1
  | _, _ => ws
theorem va_rep_at : ∀ (is : List Nat) (w1 ws : va_W) (j : Nat) (q : Nat × va_E), is.length = w1.length → (va_rep ws is w1)[j]? = some q → (j ∉ is ∧ ws[j]? = some q) ∨ ∃ k : Nat, is[k]? = some j ∧ w1[k]? = some q := by
  intro is
  induction is with
  | nil =>
    intro w1 ws j q hn h
    exact Or.inl ⟨List.not_mem_nil, by cases w1 <;> exact h⟩
  | cons i is ih =>
    intro w1 ws j q hn h
    cases w1 with
    | nil => cases hn
    | cons x w1 =>
      rcases ih w1 (ws.set i x) j q (Nat.succ.inj hn) h with ⟨h1, h2⟩ | ⟨k, h1, h2⟩
      · by_cases hij : j = i
        · subst hij
          right
          refine ⟨0, rfl, ?_⟩
          rw [List.getElem?_set_self'] at h2
          cases hw : ws[j]? with
          | none => rw [hw] at h2; cases h2
          | some z => rw [hw] at h2; exact h2
        · left
          refine ⟨fun hm => ?_, ?_⟩
          · rcases List.mem_cons.mp hm with z | z
            · exact hij z
            · exact h1 z
          · rw [List.getElem?_set_ne (Ne.symm hij)] at h2
            exact h2
      · exact Or.inr ⟨k + 1, h1, h2⟩
theorem va_back {A0 : Nat → Prop} {D : va_G} {ws wc w1 : va_W} {H H1 : Heap} (hP : va_P D vwCl ws H) (hD : va_D A0 ws) (is : List Nat) (hC : is.map (fun i => ws[i]?) = wc.map some) (hn : is.length = w1.length)
    (hk : ∀ q : Nat, q < H.size → ¬ va_A wc H.size q → H1[q]? = H[q]?) (hF : ∀ q, va_A wc H.size q → A0 q) (hP1 : va_P D vwCl w1 H1) (hD1 : va_D (va_A wc H.size) w1) : va_P D vwCl (va_rep ws is w1) H1 ∧ va_D A0 (va_rep ws is w1) := by
  have apart : ∀ (j : Nat) (q : Nat × va_E), j ∉ is → ws[j]? = some q → q.1 < H.size ∧ ¬ va_A wc H.size q.1 := by
    intro j q hj hq
    have hl := (hP j q hq).lt
    refine ⟨hl, fun h => ?_⟩
    rcases h with ⟨k2, x, h⟩ | h
    · have h1 : (is.map (fun i => ws[i]?))[k2]? = some (some (q.1, x)) := by rw [hC, List.getElem?_map, h]; rfl
      rw [List.getElem?_map] at h1
      cases hi : is[k2]? with
      | none => rw [hi] at h1; cases h1
      | some i =>
        rw [hi] at h1
        have hij := hD.1 j i q (q.1, x) hq (Option.some.inj h1) rfl
        subst hij
        exact hj (List.mem_of_getElem? hi)
    · omega
  refine ⟨fun j q hq => ?_, fun i j x z hx hz hxz => ?_, fun j q hq => ?_⟩
  · rcases va_rep_at is w1 ws j q hn hq with ⟨h1, h2⟩ | ⟨k, h1, h2⟩
    · obtain ⟨g1, g2⟩ := apart j q h1 h2
      exact (hP j q h2).kept (hk q.1 g1 g2)
    · exact hP1 k q h2
  · rcases va_rep_at is w1 ws i x hn hx with ⟨h1, h2⟩ | ⟨k, h1, h2⟩
    · rcases va_rep_at is w1 ws j z hn hz with ⟨g1, g2⟩ | ⟨k2, g1, g2⟩
      · exact hD.1 i j x z h2 g2 hxz
      · exact absurd (by rw [hxz]; exact hD1.2 k2 z g2) (apart i x h1 h2).2
    · rcases va_rep_at is w1 ws j z hn hz with ⟨g1, g2⟩ | ⟨k2, g1, g2⟩
      · exact absurd (by rw [← hxz]; exact hD1.2 k x h2) (apart j z g1 g2).2
      · have hkk := hD1.1 k k2 x z h2 g2 hxz
        subst hkk
        exact Option.some.inj (h1.symm.trans g1)
  · rcases va_rep_at is w1 ws j q hn hq with ⟨h1, h2⟩ | ⟨k, h1, h2⟩
    · exact hD.2 j q h2
    · exact hF _ (hD1.2 k q h2)
section back
variable {p : Program} {l : Launch} {e : Env} {R : Room} {s : State} {m : MethodId} {args : Array Value} {below : List Frame} {meth : Method} {c : Code} {H H0 : Heap} {locs : List Loc} {cells slots : Nat} {Q : State → Prop} {D : va_G} {kI kC kB : ClassId} {A0 : Nat → Prop}
variable {y : MethodName} {bytes cc : ByteArray} {maxL nL k index pc : Nat} {r0 ret : Option FieldType} {rm : Room} {own : String} {b : Addr} {As rest st0 : List Value} {ls : Array Slot}
theorem k_cut {ws wc : va_W} {is : List Nat} (hC : is.map (fun i => ws[i]?) = wc.map some) : is.filterMap (fun i => ws[i]?) = wc := by
  have h : is.filterMap (fun i => ws[i]?) = (is.map (fun i => ws[i]?)).filterMap id := by rw [List.filterMap_map]; rfl
  rw [h, hC, List.filterMap_map]
  exact List.filterMap_some
theorem k_ndD {A : Nat → Prop} {ws wc : va_W} (hD : va_D A ws) (is : List Nat) (hC : is.map (fun i => ws[i]?) = wc.map some) (hn : va_nd is = true) : va_D (fun _ => True) wc := (hD.sub is hn hC).weaken (fun _ _ _ _ => trivial)
/-- a call of a method of an object that changes its world and answers an int -/
theorem kMVi {S : Type} {ws wc : va_W} {Post : Int32 → S → Prop} {wf : S → va_W} {q0 ci : Nat} {q : vw_C} {fs : List Value} (C : CtxT p s m args meth c cc nL r0 own D kI kC kB) (hM : CMi l D kI kC kB y bytes maxL ret rm (.ref b :: As) wc H.size Post wf) (hrm : rm.cells = 0 ∧ rm.slots = 0) (ce : CE y bytes maxL ret As.length) (cv : CV y) (hl : Cond.methodLink own index y ∈ gw) (hR : rm.frames + 1 ≤ R.frames ∧ 8 + (maxL + 11) + rm.locals ≤ R.locals)
    (hP : va_P D vwCl ws H) (hD : va_D A0 ws) (hS : va_S A0 H0 H locs) (hA : ∀ q, H0.size ≤ q → A0 q) (is : List Nat) (hC : is.map (fun i => ws[i]?) = wc.map some) (hnd : va_nd is = true) (hn : ∀ u, is.length = (wf u).length) (he : ws[q0]? = some (b, .inr (ci, fs))) (hc : vwCl[ci]? = some q) (hq : q.1 = y.cls) (hls : ls.size = nL) (hst : st0 = As.reverse ++ Value.ref b :: rest) (hroom : (rest.map fun v => v.category).sum ≤ 8) (hf : cells ≤ R.cells ∧ slots ≤ R.slots) (hdg : decode cc pc = .ok (.invokevirtual index, 3))
    (kk : ∀ (r : Int32) (u : S) (H1 : Heap) (locs1 : List Loc), Post r u → va_P D vwCl (va_rep ws is (wf u)) H1 → va_D A0 (va_rep ws is (wf u)) → va_S A0 H0 H1 locs1 → W p l e R s m args below meth c H1 locs1 cells slots Q (F0 m (pc + 3) ls (.int r :: rest))) : W p l e R s m args below meth c H locs cells slots Q (F0 m pc ls st0) := by
  have hK := C.2.2.2.2.2.2.2
  have hF := va_free hD hS hA is hC
  refine va_calli (runV C hM hrm ce cv hl hR PM_blind (by rw [← hq]; exact va_recv hK.1 hP hc he) (fun U h1 h2 => ⟨by rw [h1], by rw [h1]; exact hP.sub is (k_cut hC), hK.warm h2, k_ndD hD is hC hnd⟩) hls hst hroom hdg hf) hS (fun q _ h => hF q h) hF (fun r u t H1 locs1 ht hvm hw hB hz hk1 hS1 => ?_)
  obtain ⟨hP1, hD1⟩ := hB
  rw [ht] at hP1
  obtain ⟨hP2, hD2⟩ := va_back hP hD is hC (hn u) hk1 hF hP1 hD1
  exact kk r u H1 locs1 hw hP2 hD2 hS1
/-- the same, of nothing -/
theorem kMVv {S : Type} {ws wc : va_W} {Post : S → Prop} {wf : S → va_W} {q0 ci : Nat} {q : vw_C} {fs : List Value} (C : CtxT p s m args meth c cc nL r0 own D kI kC kB) (hM : CMv l D kI kC kB y bytes maxL ret rm (.ref b :: As) wc H.size Post wf) (hrm : rm.cells = 0 ∧ rm.slots = 0) (ce : CE y bytes maxL ret As.length) (cv : CV y) (hl : Cond.methodLink own index y ∈ gw) (hR : rm.frames + 1 ≤ R.frames ∧ 8 + (maxL + 11) + rm.locals ≤ R.locals)
    (hP : va_P D vwCl ws H) (hD : va_D A0 ws) (hS : va_S A0 H0 H locs) (hA : ∀ q, H0.size ≤ q → A0 q) (is : List Nat) (hC : is.map (fun i => ws[i]?) = wc.map some) (hnd : va_nd is = true) (hn : ∀ u, is.length = (wf u).length) (he : ws[q0]? = some (b, .inr (ci, fs))) (hc : vwCl[ci]? = some q) (hq : q.1 = y.cls) (hls : ls.size = nL) (hst : st0 = As.reverse ++ Value.ref b :: rest) (hroom : (rest.map fun v => v.category).sum ≤ 8) (hf : cells ≤ R.cells ∧ slots ≤ R.slots) (hdg : decode cc pc = .ok (.invokevirtual index, 3))
    (kk : ∀ (u : S) (H1 : Heap) (locs1 : List Loc), Post u → va_P D vwCl (va_rep ws is (wf u)) H1 → va_D A0 (va_rep ws is (wf u)) → va_S A0 H0 H1 locs1 → W p l e R s m args below meth c H1 locs1 cells slots Q (F0 m (pc + 3) ls rest)) : W p l e R s m args below meth c H locs cells slots Q (F0 m pc ls st0) := by
  have hK := C.2.2.2.2.2.2.2
  have hF := va_free hD hS hA is hC
  refine va_callv (runV C hM hrm ce cv hl hR PM_blind (by rw [← hq]; exact va_recv hK.1 hP hc he) (fun U h1 h2 => ⟨by rw [h1], by rw [h1]; exact hP.sub is (k_cut hC), hK.warm h2, k_ndD hD is hC hnd⟩) hls hst hroom hdg hf) hS (fun q _ h => hF q h) hF (fun u t H1 locs1 ht hvm hw hB hz hk1 hS1 => ?_)
  obtain ⟨hP1, hD1⟩ := hB
  rw [ht] at hP1
  obtain ⟨hP2, hD2⟩ := va_back hP hD is hC (hn u) hk1 hF hP1 hD1
  exact kk u H1 locs1 hw hP2 hD2 hS1
/-- the ends -/
theorem retR {Post : Int32 → Prop} (C : CtxT p s m args meth c cc nL (some .int) own D kI kC kB) {v : Int32} (hw : Post v) (hdg : decode cc pc = .ok (.ireturn, 1)) : W p l e R s m args below meth c s.heap [] 0 0 (MQ below (vp_Si Post) args s 0 0 (fun _ => False)) (F0 m pc ls [.int v]) :=
  W.iret C.1 C.2.1 C.2.2.1 (fun t ht _ => ⟨v, rfl, hw, ht⟩) (fun _ h => absurd h List.not_mem_nil) hdg C.2.2.2.2.2.2.1
theorem bool_nar {v : Int32} (h : v = 0 ∨ v = 1) : narrow .boolean (.int v) = .int v ∧ fits .boolean (.int v) = true := by
  rcases h with rfl | rfl <;> exact ⟨rfl, rfl⟩
theorem retRz {Post : Int32 → Prop} (C : CtxT p s m args meth c cc nL (some .boolean) own D kI kC kB) {v : Int32} (hz : v = 0 ∨ v = 1) (hw : Post v) (hdg : decode cc pc = .ok (.ireturn, 1)) : W p l e R s m args below meth c s.heap [] 0 0 (MQ below (vp_Si Post) args s 0 0 (fun _ => False)) (F0 m pc ls [.int v]) :=
  W.zret C.1 C.2.1 C.2.2.1 (bool_nar hz).1 (fun t ht _ => ⟨v, rfl, hw, ht⟩) (fun _ h => absurd h List.not_mem_nil) hdg C.2.2.2.2.2.2.1
theorem retMi {S : Type} {Post : Int32 → S → Prop} {wf : S → va_W} {A : Nat → Prop} (C : CtxT p s m args meth c cc nL (some .int) own D kI kC kB) {v : Int32} (u : S) (hw : Post v u) (hP : va_P D vwCl (wf u) H) (hD : va_D A (wf u)) (hS : va_S A s.heap H locs) (hdg : decode cc pc = .ok (.ireturn, 1)) : W p l e R s m args below meth c H locs 0 0 (MQ below (va_Qi Post (BB D A wf) A) args s 0 0 A) (F0 m pc ls [.int v]) :=
  W.iret C.1 C.2.1 C.2.2.1 (fun t ht _ => ⟨⟨v, u, rfl, hw, by rw [ht]; exact hP, hD⟩, hS.F ht⟩) hS.2.2 hdg C.2.2.2.2.2.2.1
theorem retMz {S : Type} {Post : Int32 → S → Prop} {wf : S → va_W} {A : Nat → Prop} (C : CtxT p s m args meth c cc nL (some .boolean) own D kI kC kB) {v : Int32} (u : S) (hz : v = 0 ∨ v = 1) (hw : Post v u) (hP : va_P D vwCl (wf u) H) (hD : va_D A (wf u)) (hS : va_S A s.heap H locs) (hdg : decode cc pc = .ok (.ireturn, 1)) : W p l e R s m args below meth c H locs 0 0 (MQ below (va_Qi Post (BB D A wf) A) args s 0 0 A) (F0 m pc ls [.int v]) :=
  W.zret C.1 C.2.1 C.2.2.1 (bool_nar hz).1 (fun t ht _ => ⟨⟨v, u, rfl, hw, by rw [ht]; exact hP, hD⟩, hS.F ht⟩) hS.2.2 hdg C.2.2.2.2.2.2.1
theorem retMv {S : Type} {Post : S → Prop} {wf : S → va_W} {A : Nat → Prop} (C : CtxT p s m args meth c cc nL none own D kI kC kB) (u : S) (hw : Post u) (hP : va_P D vwCl (wf u) H) (hD : va_D A (wf u)) (hS : va_S A s.heap H locs) (hdg : decode cc pc = .ok (.return_, 1)) : W p l e R s m args below meth c H locs 0 0 (MQ below (va_Qv Post (BB D A wf) A) args s 0 0 A) (F0 m pc ls []) :=
  W.vret C.1 C.2.1 C.2.2.1 (fun t ht _ => ⟨⟨u, rfl, hw, by rw [ht]; exact hP, hD⟩, hS.F ht⟩) hS.2.2 hdg C.2.2.2.2.2.2.1
end back
/-! worlds in blocks -/
def bfl : List va_W → va_W
  | [] => []
  | [x] => x
  | x :: y :: l => x ++ bfl (y :: l)
theorem bfl_flat : ∀ BL : List va_W, bfl BL = BL.flatten
  | [] => rfl
  | [x] => by simp [bfl]
  | x :: y :: l => by rw [bfl, bfl_flat (y :: l)]; rfl
theorem flat_p1 : ∀ (BL : List va_W) (i : Nat) (B : va_W), BL[i]? = some B → BL.flatten.Perm (B ++ (BL.eraseIdx i).flatten)
  | [], i, B, h => by cases h
  | x :: l, 0, B, h => by cases h; exact List.Perm.refl _
  | x :: l, i + 1, B, h => by
    have ih := flat_p1 l i B h
    show (x ++ l.flatten).Perm (B ++ (x ++ (l.eraseIdx i).flatten))
    exact (ih.append_left x).trans (by
      rw [← List.append_assoc, ← List.append_assoc]
      exact List.Perm.append_right _ List.perm_append_comm)
theorem bfl_p1 (BL : List va_W) (i : Nat) {B : va_W} (h : BL[i]? = some B) : (bfl BL).Perm (B ++ (BL.eraseIdx i).flatten) := by rw [bfl_flat]; exact flat_p1 BL i B h
/-- two blocks, the second one counted behind the first one's removal -/
theorem bfl_p2 (BL : List va_W) (i j : Nat) {B B' : va_W} (h : BL[i]? = some B) (h' : (BL.eraseIdx i)[j]? = some B') : (bfl BL).Perm ((B ++ B') ++ ((BL.eraseIdx i).eraseIdx j).flatten) := by
  rw [bfl_flat, List.append_assoc]
  exact (flat_p1 BL i B h).trans ((flat_p1 _ j B' h').append_left B)
theorem va_P_iff {D : va_G} {ws : va_W} {H : Heap} : va_P D vwCl ws H ↔ ∀ q ∈ ws, va_at D vwCl q H := by
  constructor
  · intro h q hq
    obtain ⟨k, hk⟩ := List.getElem?_of_mem hq
    exact h k q hk
  · intro h k q hk
    exact h q (List.mem_of_getElem? hk)
theorem va_D_iff {A : Nat → Prop} {ws : va_W} : va_D A ws ↔ ws.Pairwise (fun x y => x.1 ≠ y.1) ∧ ∀ q ∈ ws, A q.1 := by
  constructor
  · intro h
    refine ⟨?_, fun q hq => ?_⟩
    · rw [List.pairwise_iff_getElem]
      intro i j hi hj hij e
      have := h.1 i j _ _ (List.getElem?_eq_getElem hi) (List.getElem?_eq_getElem hj) e
      omega
    · obtain ⟨k, hk⟩ := List.getElem?_of_mem hq
      exact h.2 k q hk
  · intro ⟨h1, h2⟩
    rw [List.pairwise_iff_getElem] at h1
    refine ⟨fun i j p q hp hq e => ?_, fun k q hk => h2 q (List.mem_of_getElem? hk)⟩
    obtain ⟨hi, rfl⟩ := List.getElem?_eq_some_iff.mp hp
    obtain ⟨hj, rfl⟩ := List.getElem?_eq_some_iff.mp hq
    rcases Nat.lt_trichotomy i j with h | h | h
    · exact absurd e (h1 i j hi hj h)
    · exact h
    · exact absurd e.symm (h1 j i hj hi h)
theorem va_P.perm {D : va_G} {ws ws' : va_W} {H : Heap} (p : ws.Perm ws') (h : va_P D vwCl ws H) : va_P D vwCl ws' H := va_P_iff.mpr fun q hq => va_P_iff.mp h q (p.mem_iff.mpr hq)
theorem va_D.perm {A : Nat → Prop} {ws ws' : va_W} (p : ws.Perm ws') (h : va_D A ws) : va_D A ws' := by
  obtain ⟨h1, h2⟩ := va_D_iff.mp h
  exact va_D_iff.mpr ⟨(p.pairwise_iff (fun h e => h e.symm)).mp h1, fun q hq => h2 q (p.mem_iff.mpr hq)⟩
theorem vb_gen {A0 : Nat → Prop} {D : va_G} {ws ws' wc w1 R : va_W} {H H1 : Heap} (p : ws.Perm (wc ++ R)) (p' : ws'.Perm (w1 ++ R)) (hP : va_P D vwCl ws H) (hD : va_D A0 ws)
    (hk : ∀ q : Nat, q < H.size → ¬ va_A wc H.size q → H1[q]? = H[q]?) (hF : ∀ q, va_A wc H.size q → A0 q) (hP1 : va_P D vwCl w1 H1) (hD1 : va_D (va_A wc H.size) w1) : va_P D vwCl ws' H1 ∧ va_D A0 ws' := by
  have hP' := va_P_iff.mp (hP.perm p)
  obtain ⟨d1, d2⟩ := va_D_iff.mp (hD.perm p)
  obtain ⟨g1, g2⟩ := va_D_iff.mp hD1
  rw [List.pairwise_append] at d1
  obtain ⟨-, dR, dX⟩ := d1
  have apart : ∀ q ∈ R, q.1 < H.size ∧ ¬ va_A wc H.size q.1 := by
    intro q hq
    have hl := (hP' q (List.mem_append_right _ hq)).lt
    refine ⟨hl, fun h => ?_⟩
    rcases h with ⟨k, x, hx⟩ | h
    · exact dX _ (List.mem_of_getElem? hx) q hq rfl
    · omega
  refine ⟨va_P.perm p'.symm (va_P_iff.mpr fun q hq => ?_), va_D.perm p'.symm (va_D_iff.mpr ⟨?_, fun q hq => ?_⟩)⟩
  · rcases List.mem_append.mp hq with h | h
    · exact va_P_iff.mp hP1 q h
    · exact (hP' q (List.mem_append_right _ h)).kept (hk q.1 (apart q h).1 (apart q h).2)
  · rw [List.pairwise_append]
    exact ⟨g1, dR, fun x hx y hy e => (apart y hy).2 (by rw [← e]; exact g2 x hx)⟩
  · rcases List.mem_append.mp hq with h | h
    · exact hF _ (g2 q h)
    · exact d2 q (List.mem_append_right _ h)
section blocks
variable {p : Program} {l : Launch} {e : Env} {R : Room} {s : State} {m : MethodId} {args : Array Value} {below : List Frame} {meth : Method} {c : Code} {H H0 : Heap} {locs : List Loc} {cells slots : Nat} {Q : State → Prop} {D : va_G} {kI kC kB : ClassId} {A0 : Nat → Prop}
variable {y : MethodName} {bytes cc : ByteArray} {maxL nL k index pc : Nat} {r0 ret : Option FieldType} {rm : Room} {own : String} {b : Addr} {As rest st0 : List Value} {ls : Array Slot}
theorem va_free_p {ws wc W9 : va_W} (hp : ws.Perm (wc ++ W9)) (hD : va_D A0 ws) (hS : va_S A0 H0 H locs) (hA : ∀ q, H0.size ≤ q → A0 q) : ∀ q, va_A wc H.size q → A0 q := by
  intro q h
  rcases h with ⟨k, x, h⟩ | h
  · exact (va_D_iff.mp hD).2 (q, x) (hp.mem_iff.mpr (List.mem_append_left _ (List.mem_of_getElem? h)))
  · exact hA q (Nat.le_trans hS.1 h)
theorem va_P_cut {ws wc W9 : va_W} (hp : ws.Perm (wc ++ W9)) (h : va_P D vwCl ws H) : va_P D vwCl wc H := va_P_iff.mpr fun q hq => va_P_iff.mp h q (hp.mem_iff.mpr (List.mem_append_left _ hq))
theorem va_D_cut {ws wc W9 : va_W} (hp : ws.Perm (wc ++ W9)) (h : va_D A0 ws) : va_D (fun _ => True) wc := va_D_iff.mpr ⟨(List.pairwise_append.mp (va_D_iff.mp (h.perm hp)).1).1, fun _ _ => trivial⟩
theorem kMBi {S : Type} {ws wc W9 : va_W} {ws' : S → va_W} {Post : Int32 → S → Prop} {wf : S → va_W} {q0 ci : Nat} {q : vw_C} {fs : List Value} (C : CtxT p s m args meth c cc nL r0 own D kI kC kB) (hM : CMi l D kI kC kB y bytes maxL ret rm (.ref b :: As) wc H.size Post wf) (hrm : rm.cells = 0 ∧ rm.slots = 0) (ce : CE y bytes maxL ret As.length) (cv : CV y) (hl : Cond.methodLink own index y ∈ gw) (hR : rm.frames + 1 ≤ R.frames ∧ 8 + (maxL + 11) + rm.locals ≤ R.locals)
    (hP : va_P D vwCl ws H) (hD : va_D A0 ws) (hS : va_S A0 H0 H locs) (hA : ∀ q, H0.size ≤ q → A0 q) (hp : ws.Perm (wc ++ W9)) (hp' : ∀ u, (ws' u).Perm (wf u ++ W9)) (he : wc[q0]? = some (b, .inr (ci, fs))) (hc : vwCl[ci]? = some q) (hq : q.1 = y.cls) (hls : ls.size = nL) (hst : st0 = As.reverse ++ Value.ref b :: rest) (hroom : (rest.map fun v => v.category).sum ≤ 8) (hf : cells ≤ R.cells ∧ slots ≤ R.slots) (hdg : decode cc pc = .ok (.invokevirtual index, 3))
    (kk : ∀ (r : Int32) (u : S) (H1 : Heap) (locs1 : List Loc), Post r u → va_P D vwCl (ws' u) H1 → va_D A0 (ws' u) → va_S A0 H0 H1 locs1 → W p l e R s m args below meth c H1 locs1 cells slots Q (F0 m (pc + 3) ls (.int r :: rest))) : W p l e R s m args below meth c H locs cells slots Q (F0 m pc ls st0) := by
  have hK := C.2.2.2.2.2.2.2
  have hF := va_free_p hp hD hS hA
  have hPc := va_P_cut hp hP
  refine va_calli (runV C hM hrm ce cv hl hR PM_blind (by rw [← hq]; exact va_recv hK.1 hPc hc he) (fun U h1 h2 => ⟨by rw [h1], by rw [h1]; exact hPc, hK.warm h2, va_D_cut hp hD⟩) hls hst hroom hdg hf) hS (fun q _ h => hF q h) hF (fun r u t H1 locs1 ht hvm hw hB hz hk1 hS1 => ?_)
  obtain ⟨hP1, hD1⟩ := hB
  rw [ht] at hP1
  obtain ⟨hP2, hD2⟩ := vb_gen hp (hp' u) hP hD hk1 hF hP1 hD1
  exact kk r u H1 locs1 hw hP2 hD2 hS1
theorem kMBv {S : Type} {ws wc W9 : va_W} {ws' : S → va_W} {Post : S → Prop} {wf : S → va_W} {q0 ci : Nat} {q : vw_C} {fs : List Value} (C : CtxT p s m args meth c cc nL r0 own D kI kC kB) (hM : CMv l D kI kC kB y bytes maxL ret rm (.ref b :: As) wc H.size Post wf) (hrm : rm.cells = 0 ∧ rm.slots = 0) (ce : CE y bytes maxL ret As.length) (cv : CV y) (hl : Cond.methodLink own index y ∈ gw) (hR : rm.frames + 1 ≤ R.frames ∧ 8 + (maxL + 11) + rm.locals ≤ R.locals)
    (hP : va_P D vwCl ws H) (hD : va_D A0 ws) (hS : va_S A0 H0 H locs) (hA : ∀ q, H0.size ≤ q → A0 q) (hp : ws.Perm (wc ++ W9)) (hp' : ∀ u, (ws' u).Perm (wf u ++ W9)) (he : wc[q0]? = some (b, .inr (ci, fs))) (hc : vwCl[ci]? = some q) (hq : q.1 = y.cls) (hls : ls.size = nL) (hst : st0 = As.reverse ++ Value.ref b :: rest) (hroom : (rest.map fun v => v.category).sum ≤ 8) (hf : cells ≤ R.cells ∧ slots ≤ R.slots) (hdg : decode cc pc = .ok (.invokevirtual index, 3))
    (kk : ∀ (u : S) (H1 : Heap) (locs1 : List Loc), Post u → va_P D vwCl (ws' u) H1 → va_D A0 (ws' u) → va_S A0 H0 H1 locs1 → W p l e R s m args below meth c H1 locs1 cells slots Q (F0 m (pc + 3) ls rest)) : W p l e R s m args below meth c H locs cells slots Q (F0 m pc ls st0) := by
  have hK := C.2.2.2.2.2.2.2
  have hF := va_free_p hp hD hS hA
  have hPc := va_P_cut hp hP
  refine va_callv (runV C hM hrm ce cv hl hR PM_blind (by rw [← hq]; exact va_recv hK.1 hPc hc he) (fun U h1 h2 => ⟨by rw [h1], by rw [h1]; exact hPc, hK.warm h2, va_D_cut hp hD⟩) hls hst hroom hdg hf) hS (fun q _ h => hF q h) hF (fun u t H1 locs1 ht hvm hw hB hz hk1 hS1 => ?_)
  obtain ⟨hP1, hD1⟩ := hB
  rw [ht] at hP1
  obtain ⟨hP2, hD2⟩ := vb_gen hp (hp' u) hP hD hk1 hF hP1 hD1
  exact kk u H1 locs1 hw hP2 hD2 hS1
end blocks
/-! the worlds -/
abbrev AdT : Type := Nat → Nat
def cwRow (kI : ClassId) (a : AdT) (r : RowT) : va_W := [(a 0, .inr (3, [.ref (a 1), .int r.2.2])), (a 1, .inl (kI, r.1, .inl r.2.1))]
def cwAlph (a : AdT) (v : Int32) : va_W := [(a 0, .inr (0, [.int v]))]
def cwBook (kI : ClassId) (a : AdT) (al sg : Int32) (r1 r2 r3 r4 : RowT) : va_W := [(a 0, .inr (1, [.ref (a 1), .int sg, .ref (a 2), .ref (a 4), .ref (a 6), .ref (a 8)])), (a 1, .inr (0, [.int al])), (a 2, .inr (3, [.ref (a 3), .int r1.2.2])), (a 3, .inl (kI, r1.1, .inl r1.2.1)), (a 4, .inr (3, [.ref (a 5), .int r2.2.2])), (a 5, .inl (kI, r2.1, .inl r2.2.1)), (a 6, .inr (3, [.ref (a 7), .int r3.2.2])), (a 7, .inl (kI, r3.1, .inl r3.2.1)), (a 8, .inr (3, [.ref (a 9), .int r4.2.2])), (a 9, .inl (kI, r4.1, .inl r4.2.1))]
abbrev cwBookV (kI : ClassId) (a : AdT) (b : BookT) : va_W := cwBook kI a b.1 b.2.1 b.2.2.1 b.2.2.2.1 b.2.2.2.2.1 b.2.2.2.2.2
/-- a text without its own alphabet of all letters (that one is at a 9) -/
def cwText (kI : ClassId) (a : AdT) (r1 r2 r3 r4 : RowT) (at_ : Int32) : va_W := [(a 0, .inr (4, [.ref (a 1), .ref (a 3), .ref (a 5), .ref (a 7), .ref (a 9), .int at_])), (a 1, .inr (3, [.ref (a 2), .int r1.2.2])), (a 2, .inl (kI, r1.1, .inl r1.2.1)), (a 3, .inr (3, [.ref (a 4), .int r2.2.2])), (a 4, .inl (kI, r2.1, .inl r2.2.1)), (a 5, .inr (3, [.ref (a 6), .int r3.2.2])), (a 6, .inl (kI, r3.1, .inl r3.2.1)), (a 7, .inr (3, [.ref (a 8), .int r4.2.2])), (a 8, .inl (kI, r4.1, .inl r4.2.1))]
def cwWriter (kI : ClassId) (a : AdT) (r1 : RowT) (en : Int32) : va_W := [(a 0, .inr (5, [.ref (a 1), .int en])), (a 1, .inr (3, [.ref (a 2), .int r1.2.2])), (a 2, .inl (kI, r1.1, .inl r1.2.1))]
def cwHist (kI kB : ClassId) (a : AdT) (h : Nat → AdT) (v : HistT) : va_W := bfl [[(a 0, .inr (2, [.ref (a 1), .int v.2])), (a 1, .inl (kB, 4, .inr (.inr (.inr (.inr (fun k => some (h k 0)))))))], cwBookV kI (h 0) (v.1 0), cwBookV kI (h 1) (v.1 1), cwBookV kI (h 2) (v.1 2), cwBookV kI (h 3) (v.1 3)]
theorem hist_split (kI kB : ClassId) (a : AdT) (h : Nat → AdT) (f : Nat → BookT) (st : Int32) (B : va_W) : cwHist kI kB a h (f, st) ++ B = bfl [[(a 0, .inr (2, [.ref (a 1), .int st])), (a 1, .inl (kB, 4, .inr (.inr (.inr (.inr (fun k => some (h k 0)))))))], cwBookV kI (h 0) (f 0), cwBookV kI (h 1) (f 1), cwBookV kI (h 2) (f 2), cwBookV kI (h 3) (f 3), B] := by
  simp only [cwHist, bfl, List.append_assoc]
def cwModel (kI kC : ClassId) (a : AdT) (s text told formula : Nat → Int32) (states isKept typed at_ isRight times letter items length entries : Int32) : va_W := [(a 0, .inr (7, [.ref (a 1), .int states, .int isKept, .ref (a 2), .int typed, .int at_, .int isRight, .int times, .int letter, .ref (a 3), .int items, .ref (a 4), .int length, .int entries])), (a 1, .inl (kI, 1056, .inl s)), (a 2, .inl (kC, 60, .inl text)), (a 3, .inl (kI, 160, .inl told)), (a 4, .inl (kC, 400, .inl formula))]
def cwQS (kI kB : ClassId) (a : AdT) (h : Nat → AdT) (taken : Int32) (bal bsg : Int32) (b1 b2 b3 b4 : RowT) (sal ssg : Int32) (s1 s2 s3 s4 : RowT) (hist : HistT) (t1 t2 t3 t4 : RowT) (tat tall : Int32) (w1 : RowT) (we : Int32) (fo : RowT) : va_W :=
  bfl [[(a 0, .inr (6, [.ref (a 1), .ref (a 11), .int taken, .ref (a 21), .ref (a 23), .ref (a 33), .ref (a 36)]))], cwBook kI (fun i => a (i + 1)) bal bsg b1 b2 b3 b4, cwBook kI (fun i => a (i + 11)) sal ssg s1 s2 s3 s4, cwHist kI kB (fun i => a (i + 21)) h hist, cwText kI (fun i => a (i + 23)) t1 t2 t3 t4 tat, cwAlph (fun i => a (i + 32)) tall, cwWriter kI (fun i => a (i + 33)) w1 we, cwRow kI (fun i => a (i + 36)) fo]
def cwBk0 (a : AdT) (sg : Int32) : va_W := [(a 0, .inr (1, [.ref (a 1), .int sg, .ref (a 2), .ref (a 4), .ref (a 6), .ref (a 8)]))]
def cwBk2 (kI : ClassId) (a : AdT) (r1 r2 r3 r4 : RowT) : va_W := [(a 2, .inr (3, [.ref (a 3), .int r1.2.2])), (a 3, .inl (kI, r1.1, .inl r1.2.1)), (a 4, .inr (3, [.ref (a 5), .int r2.2.2])), (a 5, .inl (kI, r2.1, .inl r2.2.1)), (a 6, .inr (3, [.ref (a 7), .int r3.2.2])), (a 7, .inl (kI, r3.1, .inl r3.2.1)), (a 8, .inr (3, [.ref (a 9), .int r4.2.2])), (a 9, .inl (kI, r4.1, .inl r4.2.1))]
theorem bk_split (kI : ClassId) (a : AdT) (al sg : Int32) (r1 r2 r3 r4 : RowT) : cwBook kI a al sg r1 r2 r3 r4 = cwBk0 a sg ++ (cwAlph (fun i => a (i + 1)) al ++ cwBk2 kI a r1 r2 r3 r4) := rfl
theorem qs_split (kI kB : ClassId) (a : AdT) (h : Nat → AdT) (taken : Int32) (bal bsg : Int32) (b1 b2 b3 b4 : RowT) (sal ssg : Int32) (s1 s2 s3 s4 : RowT) (hist : HistT) (t1 t2 t3 t4 : RowT) (tat tall : Int32) (w1 : RowT) (we : Int32) (fo : RowT) : cwQS kI kB a h taken bal bsg b1 b2 b3 b4 sal ssg s1 s2 s3 s4 hist t1 t2 t3 t4 tat tall w1 we fo =
  bfl [[(a 0, .inr (6, [.ref (a 1), .ref (a 11), .int taken, .ref (a 21), .ref (a 23), .ref (a 33), .ref (a 36)]))], cwBk0 (fun i => a (i + 1)) bsg, cwAlph (fun i => a (i + 2)) bal, cwBk2 kI (fun i => a (i + 1)) b1 b2 b3 b4, cwBook kI (fun i => a (i + 11)) sal ssg s1 s2 s3 s4, cwHist kI kB (fun i => a (i + 21)) h hist, cwText kI (fun i => a (i + 23)) t1 t2 t3 t4 tat, cwAlph (fun i => a (i + 32)) tall, cwWriter kI (fun i => a (i + 33)) w1 we, cwRow kI (fun i => a (i + 36)) fo] := by
  simp only [cwQS, bk_split, bfl, List.append_assoc]
