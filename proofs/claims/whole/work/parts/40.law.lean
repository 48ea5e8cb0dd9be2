/-! THE CLAIM OUT OF ONE WALK OF THE LAW'S BODY. Your part is whole_start (and what it stands on); all else here is the same for every law, but numbers. -/
def R_law : String := "QuireSignsLaw"
def lw_P (b : Addr) (xs : List Int32) (args : Array Value) (s : State) : Prop := args = #[.ref b] ∧ s.IntsAt b xs ∧ xs.length ≤ 2048 ∧ (Jvm.Cond.and given_1 narrow_1).before args s = true
def lw_Q (_ : Array Value) (s : State) (o : Outcome) (t : State) : Prop := o = .returned (some (.int 1)) ∧ Framed s o t [] 600000 7302250
def lw_Z (below : List Frame) (a : Array Value) (s : State) : State → Prop := fun t => ∃ o, t.status = .running ∧ Ended t below o ∧ lw_Q a s o t
/-- the law's own end, with 1 on the stack, nothing written that was there before, its room as the claim has it -/
theorem lw_ret {p : Program} {l : Launch} {e : Env} {s : State} {m : MethodId} {below : List Frame} {meth : Method} {c : Code} {b : Nat} (hx : p.tables.exec = Jvm.exec) (hb : c.code = code) (hr : meth.sig.returnType = ret) (hlocks : meth.locks = false) {pc : Nat} {H : Heap} {ls : Array Slot} (hdg : decode code pc = .ok (.ireturn, 1)) : W p l e room_1 s m #[Value.ref b] below meth c H [] 600000 7302250 (lw_Z below #[Value.ref b] s) (F0 m pc ls [.int 1]) := by
  intro T hT X
  obtain ⟨fs, hret, hrun, hended, hW, hframe⟩ := X.leave (v := some (.int 1)) (hlocks := hlocks) (fun h => by rw [hr] at h; cases h)
  have hmeth' : T.vm.method? m = some meth := X.method'
  refine ⟨T.setFrames fs, ?_, .returned (some (.int 1)), hrun, hended, rfl, ⟨_, rfl⟩, hW, hframe⟩
  jvm_step X.here [X.here.top, hx, hb, hdg, hmeth', hr, ret, narrow_b1]
  (try refine ⟨rfl, ?_⟩); (try refine ⟨rfl, ?_⟩)
  first | (intro acts; rw [hret _ acts rfl rfl rfl]) | rw [hret _ _ rfl rfl rfl]
  exact Steps.refl _
/-- what holds at the law's entry: the machine, the code, the tables' words (any of lw_tbl by 'hts w (by decide +kernel)'), the script of L ints xs at the cell b, what the Statement gives of the start (any of its parts by flat_of_before) -/
def lw_At (p : Program) (s : State) (m : MethodId) (meth : Method) (c : Code) (b L : Nat) (xs : Nat → Int32) : Prop :=
  p.tables.exec = Jvm.exec ∧ c.code = code ∧ meth.sig.returnType = ret ∧ c.maxLocals = 4 ∧ s.vm.findClass R_law = some m.cls ∧ (∀ w ∈ lw_tbl, w.before #[Value.ref b] s = true) ∧ va_X b L xs s s.heap ∧ b < s.heap.size ∧ meth.locks = false ∧ (Jvm.Cond.and given_1 narrow_1).before #[Value.ref b] s = true
theorem kRB {p : Program} {l : Launch} {e : Env} {R : Room} {s : State} {m : MethodId} {args : Array Value} {below : List Frame} {meth : Method} {c : Code} {H : Heap} {locs : List Loc} {cells slots : Nat} {Q : State → Prop} {D : va_G} {kI kC kB : ClassId} {y : MethodName} {bytes cc : ByteArray} {maxL nL index pc : Nat} {r0 ret : Option FieldType} {rm : Room} {own : String} {b : Addr} {As rest st0 : List Value} {ls : Array Slot} {ws wc W9 : va_W} {Post : Int32 → Prop} {q0 ci : Nat} {q : vw_C} {fs : List Value} (C : CtxT p s m args meth c cc nL r0 own D kI kC kB) (hM : CR l D kI kC kB y bytes maxL ret rm (.ref b :: As) wc Post) (hrm : rm.cells = 0 ∧ rm.slots = 0) (ce : CE y bytes maxL ret As.length) (cv : CV y) (hl : Cond.methodLink own index y ∈ gw) (hR : rm.frames + 1 ≤ R.frames ∧ 8 + (maxL + 11) + rm.locals ≤ R.locals)
    (hP : va_P D vwCl ws H) (hp : ws.Perm (wc ++ W9)) (he : wc[q0]? = some (b, .inr (ci, fs))) (hc : vwCl[ci]? = some q) (hq : q.1 = y.cls) (hls : ls.size = nL) (hst : st0 = As.reverse ++ Value.ref b :: rest) (hroom : (rest.map fun v => v.category).sum ≤ 8) (hf : cells ≤ R.cells ∧ slots ≤ R.slots) (hdg : decode cc pc = .ok (.invokevirtual index, 3))
    (kk : ∀ r : Int32, Post r → W p l e R s m args below meth c H locs cells slots Q (F0 m (pc + 3) ls (.int r :: rest))) : W p l e R s m args below meth c H locs cells slots Q (F0 m pc ls st0) := by
  have hK := C.2.2.2.2.2.2.2
  have hPc := va_P_cut hp hP
  exact vp_callSi (runV C hM hrm ce cv hl hR PR_blind (by rw [← hq]; exact va_recv hK.1 hPc hc he) (fun U h1 h2 => ⟨by rw [h1]; exact hPc, hK.warm h2⟩) hls hst hroom hdg hf).run kk
theorem law_end {L i : Nat} (hL : L ≤ 2048) (hi : i ≤ L) (h : ¬ nI L - nI 4 < nI i) : i + 4 ≤ L := by
  rw [Int32.lt_iff_toInt_lt, pk_sub_toInt (by omega) (by omega), nI_toInt (by omega)] at h
  omega
set_option maxHeartbeats 1000000 in
set_option maxRecDepth 100000 in
theorem law_leaveOut {p : Program} {l : Launch} {e : Env} {s : State} {m : MethodId} {below : List Frame} {meth : Method} {c : Code} {D : va_G} {kI kC kB : ClassId} {b L : Nat} {xs : Nat → Int32} (C : CtxT p s m #[Value.ref b] meth c code 4 ret "QuireSignsLaw" D kI kC kB) (hX : va_X b L xs s s.heap) (hbl : b < s.heap.size) (hL : L ≤ 2048) (ax : AdT) (h_ : Nat → AdT) (am : AdT) (i : Nat) (hi : i + 4 ≤ L) (kn9 : ∀ (h2 : Nat → AdT) (x2 : XS) (y2 : MS) (σ2 : St) (H : Heap) (locs : List Loc) (ls : Array Slot), XOK σ2 x2 → MOK σ2 y2 → va_P D vwCl (bfl [cwX kI kB ax h2 x2, cwM kI kC am y2]) H → va_D (fun q : Nat => s.heap.size ≤ q) (bfl [cwX kI kB ax h2 x2, cwM kI kC am y2]) → va_S (fun q : Nat => s.heap.size ≤ q) s.heap H locs → lv_has ls 4 [(0, .ref b), (1, .ref (ax 0)), (2, .ref (am 0)), (3, .int (nI i))] → W p l e room_1 s m #[Value.ref b] below meth c H locs 83 3066 (lw_Z below #[Value.ref b] s) (F0 m 661 ls [])) (σ : St) (x : XS) (y : MS) (hx : XOK σ x) (hm : MOK σ y) : ∀ (H : Heap) (locs : List Loc) (ls : Array Slot), va_P D vwCl (bfl [cwX kI kB ax h_ x, cwM kI kC am y]) H → va_D (fun q : Nat => s.heap.size ≤ q) (bfl [cwX kI kB ax h_ x, cwM kI kC am y]) → va_S (fun q : Nat => s.heap.size ≤ q) s.heap H locs → lv_has ls 4 [(0, .ref b), (1, .ref (ax 0)), (2, .ref (am 0)), (3, .int (nI i))] → W p l e room_1 s m #[Value.ref b] below meth c H locs 83 3066 (lw_Z below #[Value.ref b] s) (F0 m 132 ls []) := by
  intro H locs ls hP hD hS hl
  obtain ⟨hx0, hb, hr, hml, hown, hts, hlocks, hK⟩ := id C
  have hA : ∀ q : Nat, s.heap.size ≤ q → (fun q : Nat => s.heap.size ≤ q) q := fun _ h => h
  have hbA : ¬ (fun q : Nat => s.heap.size ≤ q) b := Nat.not_le.mpr hbl
  by_cases hz : (xs (nI (i + 2)).toNatClampNeg) = 0
  · obtain ⟨r, σ2, hwx, hwm⟩ := op_leaveOut σ x y hx hm (xs (nI (i + 1)).toNatClampNeg)  (nI 0)  (by decide)
    refine lv_aload_n hx0 hb dL_law_132 rfl (lv_at hl 1 rfl) ?_
    refine lv_aload_n hx0 hb dL_law_133 rfl (lv_at hl 0 rfl) ?_
    refine lv_iload_n hx0 hb dL_law_134 rfl (lv_at hl 3 rfl) ?_
    refine lv_iconst (v := nI 1) hx0 hb dL_law_135 (by decide) ?_
    refine lv_iadd hx0 hb dL_law_136 ?_
    refine lv_topi (fun z ez => ?_)
    obtain rfl : z = nI (i + 1) := by rw [ez, nI_add]
    refine va_sld hx0 hb hX hbl hbA hS (vp_in_nI (by omega) (by omega)) dL_law_137 ?_
    refine lv_i2c (v := cI (xs (nI (i + 1)).toNatClampNeg)) hx0 hb dL_law_138 rfl ?_
    refine lv_aload_n hx0 hb dL_law_139 rfl (lv_at hl 0 rfl) ?_
    refine lv_iload_n hx0 hb dL_law_140 rfl (lv_at hl 3 rfl) ?_
    refine lv_iconst (v := nI 2) hx0 hb dL_law_141 (by decide) ?_
    refine lv_iadd hx0 hb dL_law_142 ?_
    refine lv_topi (fun z ez => ?_)
    obtain rfl : z = nI (i + 2) := by rw [ez, nI_add]
    refine va_sld hx0 hb hX hbl hbA hS (vp_in_nI (by omega) (by omega)) dL_law_143 ?_
    refine lv_if_eq (tgt := 151) hx0 hb dL_law_144 (by decide) (fun hc => ?_) (fun hc => absurd hz hc)
    refine lv_iconst (v := nI 0) hx0 hb dL_law_151 (by decide) ?_
    refine kMBi (As := [.int (cI (xs (nI (i + 1)).toNatClampNeg)), .int (nI 0)]) (rest := []) (q0 := 0) (ws' := fun u : (Nat → AdT) × Int32 × HistT => bfl [cwX kI kB ax u.1 (x.1, u.2.1, x.2.2.1, x.2.2.2.1, x.2.2.2.2.1, x.2.2.2.2.2.1, x.2.2.2.2.2.2.1, x.2.2.2.2.2.2.2.1, x.2.2.2.2.2.2.2.2.1, x.2.2.2.2.2.2.2.2.2.1, x.2.2.2.2.2.2.2.2.2.2.1, x.2.2.2.2.2.2.2.2.2.2.2.1, x.2.2.2.2.2.2.2.2.2.2.2.2.1, u.2.2, x.2.2.2.2.2.2.2.2.2.2.2.2.2.2.1, x.2.2.2.2.2.2.2.2.2.2.2.2.2.2.2.1, x.2.2.2.2.2.2.2.2.2.2.2.2.2.2.2.2.1, x.2.2.2.2.2.2.2.2.2.2.2.2.2.2.2.2.2.1, x.2.2.2.2.2.2.2.2.2.2.2.2.2.2.2.2.2.2.1, x.2.2.2.2.2.2.2.2.2.2.2.2.2.2.2.2.2.2.2.1, x.2.2.2.2.2.2.2.2.2.2.2.2.2.2.2.2.2.2.2.2.1, x.2.2.2.2.2.2.2.2.2.2.2.2.2.2.2.2.2.2.2.2.2.1, x.2.2.2.2.2.2.2.2.2.2.2.2.2.2.2.2.2.2.2.2.2.2), cwM kI kC am y]) C (c_X8_leaveOut l D kI kC kB ax h_ x.1 x.2.1 x.2.2.1 x.2.2.2.1 x.2.2.2.2.1 x.2.2.2.2.2.1 x.2.2.2.2.2.2.1 x.2.2.2.2.2.2.2.1 x.2.2.2.2.2.2.2.2.1 x.2.2.2.2.2.2.2.2.2.1 x.2.2.2.2.2.2.2.2.2.2.1 x.2.2.2.2.2.2.2.2.2.2.2.1 x.2.2.2.2.2.2.2.2.2.2.2.2.1 x.2.2.2.2.2.2.2.2.2.2.2.2.2.1 x.2.2.2.2.2.2.2.2.2.2.2.2.2.2.1 x.2.2.2.2.2.2.2.2.2.2.2.2.2.2.2.1 x.2.2.2.2.2.2.2.2.2.2.2.2.2.2.2.2.1 x.2.2.2.2.2.2.2.2.2.2.2.2.2.2.2.2.2.1 x.2.2.2.2.2.2.2.2.2.2.2.2.2.2.2.2.2.2.1 x.2.2.2.2.2.2.2.2.2.2.2.2.2.2.2.2.2.2.2.1 x.2.2.2.2.2.2.2.2.2.2.2.2.2.2.2.2.2.2.2.2.1 x.2.2.2.2.2.2.2.2.2.2.2.2.2.2.2.2.2.2.2.2.2.1 x.2.2.2.2.2.2.2.2.2.2.2.2.2.2.2.2.2.2.2.2.2.2 H.size (cI (xs (nI (i + 1)).toNatClampNeg)) (nI 0) _ hwx) ⟨rfl, rfl⟩ ce_X8_leaveOut cv_X8_leaveOut tw_223 ⟨(Nat.le_of_ble_eq_true rfl), (Nat.le_of_ble_eq_true rfl)⟩ hP hD hS hA (bfl_p1 [_, _] 0 rfl) (fun u => bfl_p1 [_, _] 0 rfl) rfl rfl rfl hl.1 rfl (Nat.le_of_ble_eq_true rfl) ⟨(Nat.le_of_ble_eq_true rfl), (Nat.le_of_ble_eq_true rfl)⟩ dL_law_152 (fun r1 u H locs hqr1 hP hD hS => ?_)
    obtain ⟨xx, hxx⟩ : ∃ z : XS, z = (x.1, u.2.1, x.2.2.1, x.2.2.2.1, x.2.2.2.2.1, x.2.2.2.2.2.1, x.2.2.2.2.2.2.1, x.2.2.2.2.2.2.2.1, x.2.2.2.2.2.2.2.2.1, x.2.2.2.2.2.2.2.2.2.1, x.2.2.2.2.2.2.2.2.2.2.1, x.2.2.2.2.2.2.2.2.2.2.2.1, x.2.2.2.2.2.2.2.2.2.2.2.2.1, u.2.2, x.2.2.2.2.2.2.2.2.2.2.2.2.2.2.1, x.2.2.2.2.2.2.2.2.2.2.2.2.2.2.2.1, x.2.2.2.2.2.2.2.2.2.2.2.2.2.2.2.2.1, x.2.2.2.2.2.2.2.2.2.2.2.2.2.2.2.2.2.1, x.2.2.2.2.2.2.2.2.2.2.2.2.2.2.2.2.2.2.1, x.2.2.2.2.2.2.2.2.2.2.2.2.2.2.2.2.2.2.2.1, x.2.2.2.2.2.2.2.2.2.2.2.2.2.2.2.2.2.2.2.2.1, x.2.2.2.2.2.2.2.2.2.2.2.2.2.2.2.2.2.2.2.2.2.1, x.2.2.2.2.2.2.2.2.2.2.2.2.2.2.2.2.2.2.2.2.2.2) := ⟨_, rfl⟩
    obtain ⟨hh, hhh⟩ : ∃ z : Nat → AdT, z = u.1 := ⟨_, rfl⟩
    replace hqr1 : r1 = r ∧ XOK σ2 xx := by rw [hxx]; exact hqr1
    replace hP : va_P D vwCl (bfl [cwX kI kB ax hh xx, cwM kI kC am y]) H := by rw [hxx, hhh]; exact hP
    replace hD : va_D (fun q : Nat => s.heap.size ≤ q) (bfl [cwX kI kB ax hh xx, cwM kI kC am y]) := by rw [hxx, hhh]; exact hD
    clear hxx hhh
    refine lv_aload_n hx0 hb dL_law_155 rfl (lv_at hl 2 rfl) ?_
    refine lv_aload_n hx0 hb dL_law_156 rfl (lv_at hl 0 rfl) ?_
    refine lv_iload_n hx0 hb dL_law_157 rfl (lv_at hl 3 rfl) ?_
    refine lv_iconst (v := nI 1) hx0 hb dL_law_158 (by decide) ?_
    refine lv_iadd hx0 hb dL_law_159 ?_
    refine lv_topi (fun z ez => ?_)
    obtain rfl : z = nI (i + 1) := by rw [ez, nI_add]
    refine va_sld hx0 hb hX hbl hbA hS (vp_in_nI (by omega) (by omega)) dL_law_160 ?_
    refine lv_i2c (v := cI (xs (nI (i + 1)).toNatClampNeg)) hx0 hb dL_law_161 rfl ?_
    refine lv_aload_n hx0 hb dL_law_162 rfl (lv_at hl 0 rfl) ?_
    refine lv_iload_n hx0 hb dL_law_163 rfl (lv_at hl 3 rfl) ?_
    refine lv_iconst (v := nI 2) hx0 hb dL_law_164 (by decide) ?_
    refine lv_iadd hx0 hb dL_law_165 ?_
    refine lv_topi (fun z ez => ?_)
    obtain rfl : z = nI (i + 2) := by rw [ez, nI_add]
    refine va_sld hx0 hb hX hbl hbA hS (vp_in_nI (by omega) (by omega)) dL_law_166 ?_
    refine lv_if_eq (tgt := 174) hx0 hb dL_law_167 (by decide) (fun hc => ?_) (fun hc => absurd hz hc)
    refine lv_iconst (v := nI 0) hx0 hb dL_law_174 (by decide) ?_
    refine kMBi (As := [.int (cI (xs (nI (i + 1)).toNatClampNeg)), .int (nI 0)]) (rest := [.int r1]) (q0 := 0) (ws' := fun u : (Nat → Int32) × Int32 => bfl [cwX kI kB ax hh xx, cwM kI kC am (u.1, y.2.1, y.2.2.1, y.2.2.2.1, u.2, y.2.2.2.2.2.1, y.2.2.2.2.2.2.1, y.2.2.2.2.2.2.2.1, y.2.2.2.2.2.2.2.2.1, y.2.2.2.2.2.2.2.2.2.1, y.2.2.2.2.2.2.2.2.2.2.1, y.2.2.2.2.2.2.2.2.2.2.2.1, y.2.2.2.2.2.2.2.2.2.2.2.2.1, y.2.2.2.2.2.2.2.2.2.2.2.2.2)]) C (c_X9_leaveOut l D kI kC kB am y.1 y.2.1 y.2.2.1 y.2.2.2.1 y.2.2.2.2.1 y.2.2.2.2.2.1 y.2.2.2.2.2.2.1 y.2.2.2.2.2.2.2.1 y.2.2.2.2.2.2.2.2.1 y.2.2.2.2.2.2.2.2.2.1 y.2.2.2.2.2.2.2.2.2.2.1 y.2.2.2.2.2.2.2.2.2.2.2.1 y.2.2.2.2.2.2.2.2.2.2.2.2.1 y.2.2.2.2.2.2.2.2.2.2.2.2.2 H.size (cI (xs (nI (i + 1)).toNatClampNeg)) (nI 0) _ hwm) ⟨rfl, rfl⟩ ce_X9_leaveOut cv_X9_leaveOut tw_729 ⟨(Nat.le_of_ble_eq_true rfl), (Nat.le_of_ble_eq_true rfl)⟩ hP hD hS hA (bfl_p1 [_, _] 1 rfl) (fun u => bfl_p1 [_, _] 1 rfl) rfl rfl rfl hl.1 rfl (Nat.le_of_ble_eq_true rfl) ⟨(Nat.le_of_ble_eq_true rfl), (Nat.le_of_ble_eq_true rfl)⟩ dL_law_175 (fun r2 u H locs hqr2 hP hD hS => ?_)
    obtain ⟨yy, hyy⟩ : ∃ z : MS, z = (u.1, y.2.1, y.2.2.1, y.2.2.2.1, u.2, y.2.2.2.2.2.1, y.2.2.2.2.2.2.1, y.2.2.2.2.2.2.2.1, y.2.2.2.2.2.2.2.2.1, y.2.2.2.2.2.2.2.2.2.1, y.2.2.2.2.2.2.2.2.2.2.1, y.2.2.2.2.2.2.2.2.2.2.2.1, y.2.2.2.2.2.2.2.2.2.2.2.2.1, y.2.2.2.2.2.2.2.2.2.2.2.2.2) := ⟨_, rfl⟩
    replace hqr2 : r2 = r ∧ MOK σ2 yy := by rw [hyy]; exact hqr2
    replace hP : va_P D vwCl (bfl [cwX kI kB ax hh xx, cwM kI kC am yy]) H := by rw [hyy]; exact hP
    replace hD : va_D (fun q : Nat => s.heap.size ≤ q) (bfl [cwX kI kB ax hh xx, cwM kI kC am yy]) := by rw [hyy]; exact hD
    refine lv_icmp_eq (tgt := 661) hx0 hb dL_law_178 (by decide) (fun hc => ?_) (fun hc => absurd (hqr1.1.trans hqr2.1.symm) hc)
    exact kn9 hh xx yy σ2 _ _ _ hqr1.2 hqr2.2 hP hD hS hl
  · obtain ⟨r, σ2, hwx, hwm⟩ := op_leaveOut σ x y hx hm (xs (nI (i + 1)).toNatClampNeg)  (nI 1)  (by decide)
    refine lv_aload_n hx0 hb dL_law_132 rfl (lv_at hl 1 rfl) ?_
    refine lv_aload_n hx0 hb dL_law_133 rfl (lv_at hl 0 rfl) ?_
    refine lv_iload_n hx0 hb dL_law_134 rfl (lv_at hl 3 rfl) ?_
    refine lv_iconst (v := nI 1) hx0 hb dL_law_135 (by decide) ?_
    refine lv_iadd hx0 hb dL_law_136 ?_
    refine lv_topi (fun z ez => ?_)
    obtain rfl : z = nI (i + 1) := by rw [ez, nI_add]
    refine va_sld hx0 hb hX hbl hbA hS (vp_in_nI (by omega) (by omega)) dL_law_137 ?_
    refine lv_i2c (v := cI (xs (nI (i + 1)).toNatClampNeg)) hx0 hb dL_law_138 rfl ?_
    refine lv_aload_n hx0 hb dL_law_139 rfl (lv_at hl 0 rfl) ?_
    refine lv_iload_n hx0 hb dL_law_140 rfl (lv_at hl 3 rfl) ?_
    refine lv_iconst (v := nI 2) hx0 hb dL_law_141 (by decide) ?_
    refine lv_iadd hx0 hb dL_law_142 ?_
    refine lv_topi (fun z ez => ?_)
    obtain rfl : z = nI (i + 2) := by rw [ez, nI_add]
    refine va_sld hx0 hb hX hbl hbA hS (vp_in_nI (by omega) (by omega)) dL_law_143 ?_
    refine lv_if_eq (tgt := 151) hx0 hb dL_law_144 (by decide) (fun hc => absurd hc hz) (fun hc => ?_)
    refine lv_iconst (v := nI 1) hx0 hb dL_law_147 (by decide) ?_
    refine lv_goto (tgt := 152) hx0 hb dL_law_148 (by decide) ?_
    refine kMBi (As := [.int (cI (xs (nI (i + 1)).toNatClampNeg)), .int (nI 1)]) (rest := []) (q0 := 0) (ws' := fun u : (Nat → AdT) × Int32 × HistT => bfl [cwX kI kB ax u.1 (x.1, u.2.1, x.2.2.1, x.2.2.2.1, x.2.2.2.2.1, x.2.2.2.2.2.1, x.2.2.2.2.2.2.1, x.2.2.2.2.2.2.2.1, x.2.2.2.2.2.2.2.2.1, x.2.2.2.2.2.2.2.2.2.1, x.2.2.2.2.2.2.2.2.2.2.1, x.2.2.2.2.2.2.2.2.2.2.2.1, x.2.2.2.2.2.2.2.2.2.2.2.2.1, u.2.2, x.2.2.2.2.2.2.2.2.2.2.2.2.2.2.1, x.2.2.2.2.2.2.2.2.2.2.2.2.2.2.2.1, x.2.2.2.2.2.2.2.2.2.2.2.2.2.2.2.2.1, x.2.2.2.2.2.2.2.2.2.2.2.2.2.2.2.2.2.1, x.2.2.2.2.2.2.2.2.2.2.2.2.2.2.2.2.2.2.1, x.2.2.2.2.2.2.2.2.2.2.2.2.2.2.2.2.2.2.2.1, x.2.2.2.2.2.2.2.2.2.2.2.2.2.2.2.2.2.2.2.2.1, x.2.2.2.2.2.2.2.2.2.2.2.2.2.2.2.2.2.2.2.2.2.1, x.2.2.2.2.2.2.2.2.2.2.2.2.2.2.2.2.2.2.2.2.2.2), cwM kI kC am y]) C (c_X8_leaveOut l D kI kC kB ax h_ x.1 x.2.1 x.2.2.1 x.2.2.2.1 x.2.2.2.2.1 x.2.2.2.2.2.1 x.2.2.2.2.2.2.1 x.2.2.2.2.2.2.2.1 x.2.2.2.2.2.2.2.2.1 x.2.2.2.2.2.2.2.2.2.1 x.2.2.2.2.2.2.2.2.2.2.1 x.2.2.2.2.2.2.2.2.2.2.2.1 x.2.2.2.2.2.2.2.2.2.2.2.2.1 x.2.2.2.2.2.2.2.2.2.2.2.2.2.1 x.2.2.2.2.2.2.2.2.2.2.2.2.2.2.1 x.2.2.2.2.2.2.2.2.2.2.2.2.2.2.2.1 x.2.2.2.2.2.2.2.2.2.2.2.2.2.2.2.2.1 x.2.2.2.2.2.2.2.2.2.2.2.2.2.2.2.2.2.1 x.2.2.2.2.2.2.2.2.2.2.2.2.2.2.2.2.2.2.1 x.2.2.2.2.2.2.2.2.2.2.2.2.2.2.2.2.2.2.2.1 x.2.2.2.2.2.2.2.2.2.2.2.2.2.2.2.2.2.2.2.2.1 x.2.2.2.2.2.2.2.2.2.2.2.2.2.2.2.2.2.2.2.2.2.1 x.2.2.2.2.2.2.2.2.2.2.2.2.2.2.2.2.2.2.2.2.2.2 H.size (cI (xs (nI (i + 1)).toNatClampNeg)) (nI 1) _ hwx) ⟨rfl, rfl⟩ ce_X8_leaveOut cv_X8_leaveOut tw_223 ⟨(Nat.le_of_ble_eq_true rfl), (Nat.le_of_ble_eq_true rfl)⟩ hP hD hS hA (bfl_p1 [_, _] 0 rfl) (fun u => bfl_p1 [_, _] 0 rfl) rfl rfl rfl hl.1 rfl (Nat.le_of_ble_eq_true rfl) ⟨(Nat.le_of_ble_eq_true rfl), (Nat.le_of_ble_eq_true rfl)⟩ dL_law_152 (fun r1 u H locs hqr1 hP hD hS => ?_)
    obtain ⟨xx, hxx⟩ : ∃ z : XS, z = (x.1, u.2.1, x.2.2.1, x.2.2.2.1, x.2.2.2.2.1, x.2.2.2.2.2.1, x.2.2.2.2.2.2.1, x.2.2.2.2.2.2.2.1, x.2.2.2.2.2.2.2.2.1, x.2.2.2.2.2.2.2.2.2.1, x.2.2.2.2.2.2.2.2.2.2.1, x.2.2.2.2.2.2.2.2.2.2.2.1, x.2.2.2.2.2.2.2.2.2.2.2.2.1, u.2.2, x.2.2.2.2.2.2.2.2.2.2.2.2.2.2.1, x.2.2.2.2.2.2.2.2.2.2.2.2.2.2.2.1, x.2.2.2.2.2.2.2.2.2.2.2.2.2.2.2.2.1, x.2.2.2.2.2.2.2.2.2.2.2.2.2.2.2.2.2.1, x.2.2.2.2.2.2.2.2.2.2.2.2.2.2.2.2.2.2.1, x.2.2.2.2.2.2.2.2.2.2.2.2.2.2.2.2.2.2.2.1, x.2.2.2.2.2.2.2.2.2.2.2.2.2.2.2.2.2.2.2.2.1, x.2.2.2.2.2.2.2.2.2.2.2.2.2.2.2.2.2.2.2.2.2.1, x.2.2.2.2.2.2.2.2.2.2.2.2.2.2.2.2.2.2.2.2.2.2) := ⟨_, rfl⟩
    obtain ⟨hh, hhh⟩ : ∃ z : Nat → AdT, z = u.1 := ⟨_, rfl⟩
    replace hqr1 : r1 = r ∧ XOK σ2 xx := by rw [hxx]; exact hqr1
    replace hP : va_P D vwCl (bfl [cwX kI kB ax hh xx, cwM kI kC am y]) H := by rw [hxx, hhh]; exact hP
    replace hD : va_D (fun q : Nat => s.heap.size ≤ q) (bfl [cwX kI kB ax hh xx, cwM kI kC am y]) := by rw [hxx, hhh]; exact hD
    clear hxx hhh
    refine lv_aload_n hx0 hb dL_law_155 rfl (lv_at hl 2 rfl) ?_
    refine lv_aload_n hx0 hb dL_law_156 rfl (lv_at hl 0 rfl) ?_
    refine lv_iload_n hx0 hb dL_law_157 rfl (lv_at hl 3 rfl) ?_
    refine lv_iconst (v := nI 1) hx0 hb dL_law_158 (by decide) ?_
    refine lv_iadd hx0 hb dL_law_159 ?_
    refine lv_topi (fun z ez => ?_)
    obtain rfl : z = nI (i + 1) := by rw [ez, nI_add]
    refine va_sld hx0 hb hX hbl hbA hS (vp_in_nI (by omega) (by omega)) dL_law_160 ?_
    refine lv_i2c (v := cI (xs (nI (i + 1)).toNatClampNeg)) hx0 hb dL_law_161 rfl ?_
    refine lv_aload_n hx0 hb dL_law_162 rfl (lv_at hl 0 rfl) ?_
    refine lv_iload_n hx0 hb dL_law_163 rfl (lv_at hl 3 rfl) ?_
    refine lv_iconst (v := nI 2) hx0 hb dL_law_164 (by decide) ?_
    refine lv_iadd hx0 hb dL_law_165 ?_
    refine lv_topi (fun z ez => ?_)
    obtain rfl : z = nI (i + 2) := by rw [ez, nI_add]
    refine va_sld hx0 hb hX hbl hbA hS (vp_in_nI (by omega) (by omega)) dL_law_166 ?_
    refine lv_if_eq (tgt := 174) hx0 hb dL_law_167 (by decide) (fun hc => absurd hc hz) (fun hc => ?_)
    refine lv_iconst (v := nI 1) hx0 hb dL_law_170 (by decide) ?_
    refine lv_goto (tgt := 175) hx0 hb dL_law_171 (by decide) ?_
    refine kMBi (As := [.int (cI (xs (nI (i + 1)).toNatClampNeg)), .int (nI 1)]) (rest := [.int r1]) (q0 := 0) (ws' := fun u : (Nat → Int32) × Int32 => bfl [cwX kI kB ax hh xx, cwM kI kC am (u.1, y.2.1, y.2.2.1, y.2.2.2.1, u.2, y.2.2.2.2.2.1, y.2.2.2.2.2.2.1, y.2.2.2.2.2.2.2.1, y.2.2.2.2.2.2.2.2.1, y.2.2.2.2.2.2.2.2.2.1, y.2.2.2.2.2.2.2.2.2.2.1, y.2.2.2.2.2.2.2.2.2.2.2.1, y.2.2.2.2.2.2.2.2.2.2.2.2.1, y.2.2.2.2.2.2.2.2.2.2.2.2.2)]) C (c_X9_leaveOut l D kI kC kB am y.1 y.2.1 y.2.2.1 y.2.2.2.1 y.2.2.2.2.1 y.2.2.2.2.2.1 y.2.2.2.2.2.2.1 y.2.2.2.2.2.2.2.1 y.2.2.2.2.2.2.2.2.1 y.2.2.2.2.2.2.2.2.2.1 y.2.2.2.2.2.2.2.2.2.2.1 y.2.2.2.2.2.2.2.2.2.2.2.1 y.2.2.2.2.2.2.2.2.2.2.2.2.1 y.2.2.2.2.2.2.2.2.2.2.2.2.2 H.size (cI (xs (nI (i + 1)).toNatClampNeg)) (nI 1) _ hwm) ⟨rfl, rfl⟩ ce_X9_leaveOut cv_X9_leaveOut tw_729 ⟨(Nat.le_of_ble_eq_true rfl), (Nat.le_of_ble_eq_true rfl)⟩ hP hD hS hA (bfl_p1 [_, _] 1 rfl) (fun u => bfl_p1 [_, _] 1 rfl) rfl rfl rfl hl.1 rfl (Nat.le_of_ble_eq_true rfl) ⟨(Nat.le_of_ble_eq_true rfl), (Nat.le_of_ble_eq_true rfl)⟩ dL_law_175 (fun r2 u H locs hqr2 hP hD hS => ?_)
    obtain ⟨yy, hyy⟩ : ∃ z : MS, z = (u.1, y.2.1, y.2.2.1, y.2.2.2.1, u.2, y.2.2.2.2.2.1, y.2.2.2.2.2.2.1, y.2.2.2.2.2.2.2.1, y.2.2.2.2.2.2.2.2.1, y.2.2.2.2.2.2.2.2.2.1, y.2.2.2.2.2.2.2.2.2.2.1, y.2.2.2.2.2.2.2.2.2.2.2.1, y.2.2.2.2.2.2.2.2.2.2.2.2.1, y.2.2.2.2.2.2.2.2.2.2.2.2.2) := ⟨_, rfl⟩
    replace hqr2 : r2 = r ∧ MOK σ2 yy := by rw [hyy]; exact hqr2
    replace hP : va_P D vwCl (bfl [cwX kI kB ax hh xx, cwM kI kC am yy]) H := by rw [hyy]; exact hP
    replace hD : va_D (fun q : Nat => s.heap.size ≤ q) (bfl [cwX kI kB ax hh xx, cwM kI kC am yy]) := by rw [hyy]; exact hD
    refine lv_icmp_eq (tgt := 661) hx0 hb dL_law_178 (by decide) (fun hc => ?_) (fun hc => absurd (hqr1.1.trans hqr2.1.symm) hc)
    exact kn9 hh xx yy σ2 _ _ _ hqr1.2 hqr2.2 hP hD hS hl
set_option maxHeartbeats 1000000 in
set_option maxRecDepth 100000 in
theorem law_setSigning {p : Program} {l : Launch} {e : Env} {s : State} {m : MethodId} {below : List Frame} {meth : Method} {c : Code} {D : va_G} {kI kC kB : ClassId} {b L : Nat} {xs : Nat → Int32} (C : CtxT p s m #[Value.ref b] meth c code 4 ret "QuireSignsLaw" D kI kC kB) (hX : va_X b L xs s s.heap) (hbl : b < s.heap.size) (hL : L ≤ 2048) (ax : AdT) (h_ : Nat → AdT) (am : AdT) (i : Nat) (hi : i + 4 ≤ L) (kn9 : ∀ (h2 : Nat → AdT) (x2 : XS) (y2 : MS) (σ2 : St) (H : Heap) (locs : List Loc) (ls : Array Slot), XOK σ2 x2 → MOK σ2 y2 → va_P D vwCl (bfl [cwX kI kB ax h2 x2, cwM kI kC am y2]) H → va_D (fun q : Nat => s.heap.size ≤ q) (bfl [cwX kI kB ax h2 x2, cwM kI kC am y2]) → va_S (fun q : Nat => s.heap.size ≤ q) s.heap H locs → lv_has ls 4 [(0, .ref b), (1, .ref (ax 0)), (2, .ref (am 0)), (3, .int (nI i))] → W p l e room_1 s m #[Value.ref b] below meth c H locs 83 3066 (lw_Z below #[Value.ref b] s) (F0 m 661 ls [])) (σ : St) (x : XS) (y : MS) (hx : XOK σ x) (hm : MOK σ y) : ∀ (H : Heap) (locs : List Loc) (ls : Array Slot), va_P D vwCl (bfl [cwX kI kB ax h_ x, cwM kI kC am y]) H → va_D (fun q : Nat => s.heap.size ≤ q) (bfl [cwX kI kB ax h_ x, cwM kI kC am y]) → va_S (fun q : Nat => s.heap.size ≤ q) s.heap H locs → lv_has ls 4 [(0, .ref b), (1, .ref (ax 0)), (2, .ref (am 0)), (3, .int (nI i))] → W p l e room_1 s m #[Value.ref b] below meth c H locs 83 3066 (lw_Z below #[Value.ref b] s) (F0 m 183 ls []) := by
  intro H locs ls hP hD hS hl
  obtain ⟨hx0, hb, hr, hml, hown, hts, hlocks, hK⟩ := id C
  have hA : ∀ q : Nat, s.heap.size ≤ q → (fun q : Nat => s.heap.size ≤ q) q := fun _ h => h
  have hbA : ¬ (fun q : Nat => s.heap.size ≤ q) b := Nat.not_le.mpr hbl
  obtain ⟨r, σ2, hwx, hwm⟩ := op_setSigning σ x y hx hm (xs (nI (i + 1)).toNatClampNeg) 
  refine lv_aload_n hx0 hb dL_law_183 rfl (lv_at hl 1 rfl) ?_
  refine lv_aload_n hx0 hb dL_law_184 rfl (lv_at hl 0 rfl) ?_
  refine lv_iload_n hx0 hb dL_law_185 rfl (lv_at hl 3 rfl) ?_
  refine lv_iconst (v := nI 1) hx0 hb dL_law_186 (by decide) ?_
  refine lv_iadd hx0 hb dL_law_187 ?_
  refine lv_topi (fun z ez => ?_)
  obtain rfl : z = nI (i + 1) := by rw [ez, nI_add]
  refine va_sld hx0 hb hX hbl hbA hS (vp_in_nI (by omega) (by omega)) dL_law_188 ?_
  refine kMBi (As := [.int (xs (nI (i + 1)).toNatClampNeg)]) (rest := []) (q0 := 0) (ws' := fun u : (Nat → AdT) × Int32 × HistT => bfl [cwX kI kB ax u.1 (x.1, x.2.1, u.2.1, x.2.2.2.1, x.2.2.2.2.1, x.2.2.2.2.2.1, x.2.2.2.2.2.2.1, x.2.2.2.2.2.2.2.1, x.2.2.2.2.2.2.2.2.1, x.2.2.2.2.2.2.2.2.2.1, x.2.2.2.2.2.2.2.2.2.2.1, x.2.2.2.2.2.2.2.2.2.2.2.1, x.2.2.2.2.2.2.2.2.2.2.2.2.1, u.2.2, x.2.2.2.2.2.2.2.2.2.2.2.2.2.2.1, x.2.2.2.2.2.2.2.2.2.2.2.2.2.2.2.1, x.2.2.2.2.2.2.2.2.2.2.2.2.2.2.2.2.1, x.2.2.2.2.2.2.2.2.2.2.2.2.2.2.2.2.2.1, x.2.2.2.2.2.2.2.2.2.2.2.2.2.2.2.2.2.2.1, x.2.2.2.2.2.2.2.2.2.2.2.2.2.2.2.2.2.2.2.1, x.2.2.2.2.2.2.2.2.2.2.2.2.2.2.2.2.2.2.2.2.1, x.2.2.2.2.2.2.2.2.2.2.2.2.2.2.2.2.2.2.2.2.2.1, x.2.2.2.2.2.2.2.2.2.2.2.2.2.2.2.2.2.2.2.2.2.2), cwM kI kC am y]) C (c_X8_setSigning l D kI kC kB ax h_ x.1 x.2.1 x.2.2.1 x.2.2.2.1 x.2.2.2.2.1 x.2.2.2.2.2.1 x.2.2.2.2.2.2.1 x.2.2.2.2.2.2.2.1 x.2.2.2.2.2.2.2.2.1 x.2.2.2.2.2.2.2.2.2.1 x.2.2.2.2.2.2.2.2.2.2.1 x.2.2.2.2.2.2.2.2.2.2.2.1 x.2.2.2.2.2.2.2.2.2.2.2.2.1 x.2.2.2.2.2.2.2.2.2.2.2.2.2.1 x.2.2.2.2.2.2.2.2.2.2.2.2.2.2.1 x.2.2.2.2.2.2.2.2.2.2.2.2.2.2.2.1 x.2.2.2.2.2.2.2.2.2.2.2.2.2.2.2.2.1 x.2.2.2.2.2.2.2.2.2.2.2.2.2.2.2.2.2.1 x.2.2.2.2.2.2.2.2.2.2.2.2.2.2.2.2.2.2.1 x.2.2.2.2.2.2.2.2.2.2.2.2.2.2.2.2.2.2.2.1 x.2.2.2.2.2.2.2.2.2.2.2.2.2.2.2.2.2.2.2.2.1 x.2.2.2.2.2.2.2.2.2.2.2.2.2.2.2.2.2.2.2.2.2.1 x.2.2.2.2.2.2.2.2.2.2.2.2.2.2.2.2.2.2.2.2.2.2 H.size (xs (nI (i + 1)).toNatClampNeg) _ hwx) ⟨rfl, rfl⟩ ce_X8_setSigning cv_X8_setSigning tw_280 ⟨(Nat.le_of_ble_eq_true rfl), (Nat.le_of_ble_eq_true rfl)⟩ hP hD hS hA (bfl_p1 [_, _] 0 rfl) (fun u => bfl_p1 [_, _] 0 rfl) rfl rfl rfl hl.1 rfl (Nat.le_of_ble_eq_true rfl) ⟨(Nat.le_of_ble_eq_true rfl), (Nat.le_of_ble_eq_true rfl)⟩ dL_law_189 (fun r1 u H locs hqr1 hP hD hS => ?_)
  obtain ⟨xx, hxx⟩ : ∃ z : XS, z = (x.1, x.2.1, u.2.1, x.2.2.2.1, x.2.2.2.2.1, x.2.2.2.2.2.1, x.2.2.2.2.2.2.1, x.2.2.2.2.2.2.2.1, x.2.2.2.2.2.2.2.2.1, x.2.2.2.2.2.2.2.2.2.1, x.2.2.2.2.2.2.2.2.2.2.1, x.2.2.2.2.2.2.2.2.2.2.2.1, x.2.2.2.2.2.2.2.2.2.2.2.2.1, u.2.2, x.2.2.2.2.2.2.2.2.2.2.2.2.2.2.1, x.2.2.2.2.2.2.2.2.2.2.2.2.2.2.2.1, x.2.2.2.2.2.2.2.2.2.2.2.2.2.2.2.2.1, x.2.2.2.2.2.2.2.2.2.2.2.2.2.2.2.2.2.1, x.2.2.2.2.2.2.2.2.2.2.2.2.2.2.2.2.2.2.1, x.2.2.2.2.2.2.2.2.2.2.2.2.2.2.2.2.2.2.2.1, x.2.2.2.2.2.2.2.2.2.2.2.2.2.2.2.2.2.2.2.2.1, x.2.2.2.2.2.2.2.2.2.2.2.2.2.2.2.2.2.2.2.2.2.1, x.2.2.2.2.2.2.2.2.2.2.2.2.2.2.2.2.2.2.2.2.2.2) := ⟨_, rfl⟩
  obtain ⟨hh, hhh⟩ : ∃ z : Nat → AdT, z = u.1 := ⟨_, rfl⟩
  replace hqr1 : r1 = r ∧ XOK σ2 xx := by rw [hxx]; exact hqr1
  replace hP : va_P D vwCl (bfl [cwX kI kB ax hh xx, cwM kI kC am y]) H := by rw [hxx, hhh]; exact hP
  replace hD : va_D (fun q : Nat => s.heap.size ≤ q) (bfl [cwX kI kB ax hh xx, cwM kI kC am y]) := by rw [hxx, hhh]; exact hD
  clear hxx hhh
  refine lv_aload_n hx0 hb dL_law_192 rfl (lv_at hl 2 rfl) ?_
  refine lv_aload_n hx0 hb dL_law_193 rfl (lv_at hl 0 rfl) ?_
  refine lv_iload_n hx0 hb dL_law_194 rfl (lv_at hl 3 rfl) ?_
  refine lv_iconst (v := nI 1) hx0 hb dL_law_195 (by decide) ?_
  refine lv_iadd hx0 hb dL_law_196 ?_
  refine lv_topi (fun z ez => ?_)
  obtain rfl : z = nI (i + 1) := by rw [ez, nI_add]
  refine va_sld hx0 hb hX hbl hbA hS (vp_in_nI (by omega) (by omega)) dL_law_197 ?_
  refine kMBi (As := [.int (xs (nI (i + 1)).toNatClampNeg)]) (rest := [.int r1]) (q0 := 0) (ws' := fun u : (Nat → Int32) × Int32 => bfl [cwX kI kB ax hh xx, cwM kI kC am (u.1, y.2.1, y.2.2.1, y.2.2.2.1, u.2, y.2.2.2.2.2.1, y.2.2.2.2.2.2.1, y.2.2.2.2.2.2.2.1, y.2.2.2.2.2.2.2.2.1, y.2.2.2.2.2.2.2.2.2.1, y.2.2.2.2.2.2.2.2.2.2.1, y.2.2.2.2.2.2.2.2.2.2.2.1, y.2.2.2.2.2.2.2.2.2.2.2.2.1, y.2.2.2.2.2.2.2.2.2.2.2.2.2)]) C (c_X9_setSigning l D kI kC kB am y.1 y.2.1 y.2.2.1 y.2.2.2.1 y.2.2.2.2.1 y.2.2.2.2.2.1 y.2.2.2.2.2.2.1 y.2.2.2.2.2.2.2.1 y.2.2.2.2.2.2.2.2.1 y.2.2.2.2.2.2.2.2.2.1 y.2.2.2.2.2.2.2.2.2.2.1 y.2.2.2.2.2.2.2.2.2.2.2.1 y.2.2.2.2.2.2.2.2.2.2.2.2.1 y.2.2.2.2.2.2.2.2.2.2.2.2.2 H.size (xs (nI (i + 1)).toNatClampNeg) _ hwm) ⟨rfl, rfl⟩ ce_X9_setSigning cv_X9_setSigning tw_752 ⟨(Nat.le_of_ble_eq_true rfl), (Nat.le_of_ble_eq_true rfl)⟩ hP hD hS hA (bfl_p1 [_, _] 1 rfl) (fun u => bfl_p1 [_, _] 1 rfl) rfl rfl rfl hl.1 rfl (Nat.le_of_ble_eq_true rfl) ⟨(Nat.le_of_ble_eq_true rfl), (Nat.le_of_ble_eq_true rfl)⟩ dL_law_198 (fun r2 u H locs hqr2 hP hD hS => ?_)
  obtain ⟨yy, hyy⟩ : ∃ z : MS, z = (u.1, y.2.1, y.2.2.1, y.2.2.2.1, u.2, y.2.2.2.2.2.1, y.2.2.2.2.2.2.1, y.2.2.2.2.2.2.2.1, y.2.2.2.2.2.2.2.2.1, y.2.2.2.2.2.2.2.2.2.1, y.2.2.2.2.2.2.2.2.2.2.1, y.2.2.2.2.2.2.2.2.2.2.2.1, y.2.2.2.2.2.2.2.2.2.2.2.2.1, y.2.2.2.2.2.2.2.2.2.2.2.2.2) := ⟨_, rfl⟩
  replace hqr2 : r2 = r ∧ MOK σ2 yy := by rw [hyy]; exact hqr2
  replace hP : va_P D vwCl (bfl [cwX kI kB ax hh xx, cwM kI kC am yy]) H := by rw [hyy]; exact hP
  replace hD : va_D (fun q : Nat => s.heap.size ≤ q) (bfl [cwX kI kB ax hh xx, cwM kI kC am yy]) := by rw [hyy]; exact hD
  refine lv_icmp_eq (tgt := 661) hx0 hb dL_law_201 (by decide) (fun hc => ?_) (fun hc => absurd (hqr1.1.trans hqr2.1.symm) hc)
  exact kn9 hh xx yy σ2 _ _ _ hqr1.2 hqr2.2 hP hD hS hl
set_option maxHeartbeats 1000000 in
set_option maxRecDepth 100000 in
theorem law_readFormula {p : Program} {l : Launch} {e : Env} {s : State} {m : MethodId} {below : List Frame} {meth : Method} {c : Code} {D : va_G} {kI kC kB : ClassId} {b L : Nat} {xs : Nat → Int32} (C : CtxT p s m #[Value.ref b] meth c code 4 ret "QuireSignsLaw" D kI kC kB) (hX : va_X b L xs s s.heap) (hbl : b < s.heap.size) (hL : L ≤ 2048) (ax : AdT) (h_ : Nat → AdT) (am : AdT) (i : Nat) (hi : i + 4 ≤ L) (kn9 : ∀ (h2 : Nat → AdT) (x2 : XS) (y2 : MS) (σ2 : St) (H : Heap) (locs : List Loc) (ls : Array Slot), XOK σ2 x2 → MOK σ2 y2 → va_P D vwCl (bfl [cwX kI kB ax h2 x2, cwM kI kC am y2]) H → va_D (fun q : Nat => s.heap.size ≤ q) (bfl [cwX kI kB ax h2 x2, cwM kI kC am y2]) → va_S (fun q : Nat => s.heap.size ≤ q) s.heap H locs → lv_has ls 4 [(0, .ref b), (1, .ref (ax 0)), (2, .ref (am 0)), (3, .int (nI i))] → W p l e room_1 s m #[Value.ref b] below meth c H locs 83 3066 (lw_Z below #[Value.ref b] s) (F0 m 661 ls [])) (σ : St) (x : XS) (y : MS) (hx : XOK σ x) (hm : MOK σ y) : ∀ (H : Heap) (locs : List Loc) (ls : Array Slot), va_P D vwCl (bfl [cwX kI kB ax h_ x, cwM kI kC am y]) H → va_D (fun q : Nat => s.heap.size ≤ q) (bfl [cwX kI kB ax h_ x, cwM kI kC am y]) → va_S (fun q : Nat => s.heap.size ≤ q) s.heap H locs → lv_has ls 4 [(0, .ref b), (1, .ref (ax 0)), (2, .ref (am 0)), (3, .int (nI i))] → W p l e room_1 s m #[Value.ref b] below meth c H locs 83 3066 (lw_Z below #[Value.ref b] s) (F0 m 206 ls []) := by
  intro H locs ls hP hD hS hl
  obtain ⟨hx0, hb, hr, hml, hown, hts, hlocks, hK⟩ := id C
  have hA : ∀ q : Nat, s.heap.size ≤ q → (fun q : Nat => s.heap.size ≤ q) q := fun _ h => h
  have hbA : ¬ (fun q : Nat => s.heap.size ≤ q) b := Nat.not_le.mpr hbl
  obtain ⟨r, σ2, hwx, hwm⟩ := op_readFormula σ x y hx hm 
  refine lv_aload_n hx0 hb dL_law_206 rfl (lv_at hl 1 rfl) ?_
  refine kMBi (As := []) (rest := []) (q0 := 0) (ws' := fun u : (Nat → AdT) × RowT × RowT × RowT × RowT × HistT × RowT × RowT × RowT × Int32 => bfl [cwX kI kB ax u.1 (x.1, x.2.1, x.2.2.1, u.2.1, u.2.2.1, u.2.2.2.1, u.2.2.2.2.1, x.2.2.2.2.2.2.2.1, x.2.2.2.2.2.2.2.2.1, x.2.2.2.2.2.2.2.2.2.1, x.2.2.2.2.2.2.2.2.2.2.1, x.2.2.2.2.2.2.2.2.2.2.2.1, x.2.2.2.2.2.2.2.2.2.2.2.2.1, u.2.2.2.2.2.1, x.2.2.2.2.2.2.2.2.2.2.2.2.2.2.1, u.2.2.2.2.2.2.1, u.2.2.2.2.2.2.2.1, u.2.2.2.2.2.2.2.2.1, u.2.2.2.2.2.2.2.2.2, x.2.2.2.2.2.2.2.2.2.2.2.2.2.2.2.2.2.2.2.1, x.2.2.2.2.2.2.2.2.2.2.2.2.2.2.2.2.2.2.2.2.1, x.2.2.2.2.2.2.2.2.2.2.2.2.2.2.2.2.2.2.2.2.2.1, x.2.2.2.2.2.2.2.2.2.2.2.2.2.2.2.2.2.2.2.2.2.2), cwM kI kC am y]) C (c_X8_readFormula l D kI kC kB ax h_ x.1 x.2.1 x.2.2.1 x.2.2.2.1 x.2.2.2.2.1 x.2.2.2.2.2.1 x.2.2.2.2.2.2.1 x.2.2.2.2.2.2.2.1 x.2.2.2.2.2.2.2.2.1 x.2.2.2.2.2.2.2.2.2.1 x.2.2.2.2.2.2.2.2.2.2.1 x.2.2.2.2.2.2.2.2.2.2.2.1 x.2.2.2.2.2.2.2.2.2.2.2.2.1 x.2.2.2.2.2.2.2.2.2.2.2.2.2.1 x.2.2.2.2.2.2.2.2.2.2.2.2.2.2.1 x.2.2.2.2.2.2.2.2.2.2.2.2.2.2.2.1 x.2.2.2.2.2.2.2.2.2.2.2.2.2.2.2.2.1 x.2.2.2.2.2.2.2.2.2.2.2.2.2.2.2.2.2.1 x.2.2.2.2.2.2.2.2.2.2.2.2.2.2.2.2.2.2.1 x.2.2.2.2.2.2.2.2.2.2.2.2.2.2.2.2.2.2.2.1 x.2.2.2.2.2.2.2.2.2.2.2.2.2.2.2.2.2.2.2.2.1 x.2.2.2.2.2.2.2.2.2.2.2.2.2.2.2.2.2.2.2.2.2.1 x.2.2.2.2.2.2.2.2.2.2.2.2.2.2.2.2.2.2.2.2.2.2 H.size  _ hwx) ⟨rfl, rfl⟩ ce_X8_readFormula cv_X8_readFormula tw_302 ⟨(Nat.le_of_ble_eq_true rfl), (Nat.le_of_ble_eq_true rfl)⟩ hP hD hS hA (bfl_p1 [_, _] 0 rfl) (fun u => bfl_p1 [_, _] 0 rfl) rfl rfl rfl hl.1 rfl (Nat.le_of_ble_eq_true rfl) ⟨(Nat.le_of_ble_eq_true rfl), (Nat.le_of_ble_eq_true rfl)⟩ dL_law_207 (fun r1 u H locs hqr1 hP hD hS => ?_)
  obtain ⟨xx, hxx⟩ : ∃ z : XS, z = (x.1, x.2.1, x.2.2.1, u.2.1, u.2.2.1, u.2.2.2.1, u.2.2.2.2.1, x.2.2.2.2.2.2.2.1, x.2.2.2.2.2.2.2.2.1, x.2.2.2.2.2.2.2.2.2.1, x.2.2.2.2.2.2.2.2.2.2.1, x.2.2.2.2.2.2.2.2.2.2.2.1, x.2.2.2.2.2.2.2.2.2.2.2.2.1, u.2.2.2.2.2.1, x.2.2.2.2.2.2.2.2.2.2.2.2.2.2.1, u.2.2.2.2.2.2.1, u.2.2.2.2.2.2.2.1, u.2.2.2.2.2.2.2.2.1, u.2.2.2.2.2.2.2.2.2, x.2.2.2.2.2.2.2.2.2.2.2.2.2.2.2.2.2.2.2.1, x.2.2.2.2.2.2.2.2.2.2.2.2.2.2.2.2.2.2.2.2.1, x.2.2.2.2.2.2.2.2.2.2.2.2.2.2.2.2.2.2.2.2.2.1, x.2.2.2.2.2.2.2.2.2.2.2.2.2.2.2.2.2.2.2.2.2.2) := ⟨_, rfl⟩
  obtain ⟨hh, hhh⟩ : ∃ z : Nat → AdT, z = u.1 := ⟨_, rfl⟩
  replace hqr1 : r1 = r ∧ XOK σ2 xx := by rw [hxx]; exact hqr1
  replace hP : va_P D vwCl (bfl [cwX kI kB ax hh xx, cwM kI kC am y]) H := by rw [hxx, hhh]; exact hP
  replace hD : va_D (fun q : Nat => s.heap.size ≤ q) (bfl [cwX kI kB ax hh xx, cwM kI kC am y]) := by rw [hxx, hhh]; exact hD
  clear hxx hhh
  refine lv_aload_n hx0 hb dL_law_210 rfl (lv_at hl 2 rfl) ?_
  refine kMBi (As := []) (rest := [.int r1]) (q0 := 0) (ws' := fun u : (Nat → Int32) × (Nat → Int32) × Int32 × Int32 × Int32 × Int32 × Int32 × Int32 => bfl [cwX kI kB ax hh xx, cwM kI kC am (u.1, y.2.1, u.2.1, y.2.2.2.1, u.2.2.1, y.2.2.2.2.2.1, y.2.2.2.2.2.2.1, u.2.2.2.1, u.2.2.2.2.1, u.2.2.2.2.2.1, u.2.2.2.2.2.2.1, u.2.2.2.2.2.2.2, y.2.2.2.2.2.2.2.2.2.2.2.2.1, y.2.2.2.2.2.2.2.2.2.2.2.2.2)]) C (c_X9_readFormula l D kI kC kB am y.1 y.2.1 y.2.2.1 y.2.2.2.1 y.2.2.2.2.1 y.2.2.2.2.2.1 y.2.2.2.2.2.2.1 y.2.2.2.2.2.2.2.1 y.2.2.2.2.2.2.2.2.1 y.2.2.2.2.2.2.2.2.2.1 y.2.2.2.2.2.2.2.2.2.2.1 y.2.2.2.2.2.2.2.2.2.2.2.1 y.2.2.2.2.2.2.2.2.2.2.2.2.1 y.2.2.2.2.2.2.2.2.2.2.2.2.2 H.size  _ hwm) ⟨rfl, rfl⟩ ce_X9_readFormula cv_X9_readFormula tw_767 ⟨(Nat.le_of_ble_eq_true rfl), (Nat.le_of_ble_eq_true rfl)⟩ hP hD hS hA (bfl_p1 [_, _] 1 rfl) (fun u => bfl_p1 [_, _] 1 rfl) rfl rfl rfl hl.1 rfl (Nat.le_of_ble_eq_true rfl) ⟨(Nat.le_of_ble_eq_true rfl), (Nat.le_of_ble_eq_true rfl)⟩ dL_law_211 (fun r2 u H locs hqr2 hP hD hS => ?_)
  obtain ⟨yy, hyy⟩ : ∃ z : MS, z = (u.1, y.2.1, u.2.1, y.2.2.2.1, u.2.2.1, y.2.2.2.2.2.1, y.2.2.2.2.2.2.1, u.2.2.2.1, u.2.2.2.2.1, u.2.2.2.2.2.1, u.2.2.2.2.2.2.1, u.2.2.2.2.2.2.2, y.2.2.2.2.2.2.2.2.2.2.2.2.1, y.2.2.2.2.2.2.2.2.2.2.2.2.2) := ⟨_, rfl⟩
  replace hqr2 : r2 = r ∧ MOK σ2 yy := by rw [hyy]; exact hqr2
  replace hP : va_P D vwCl (bfl [cwX kI kB ax hh xx, cwM kI kC am yy]) H := by rw [hyy]; exact hP
  replace hD : va_D (fun q : Nat => s.heap.size ≤ q) (bfl [cwX kI kB ax hh xx, cwM kI kC am yy]) := by rw [hyy]; exact hD
  refine lv_icmp_eq (tgt := 661) hx0 hb dL_law_214 (by decide) (fun hc => ?_) (fun hc => absurd (hqr1.1.trans hqr2.1.symm) hc)
  exact kn9 hh xx yy σ2 _ _ _ hqr1.2 hqr2.2 hP hD hS hl
set_option maxHeartbeats 1000000 in
set_option maxRecDepth 100000 in
theorem law_signNext {p : Program} {l : Launch} {e : Env} {s : State} {m : MethodId} {below : List Frame} {meth : Method} {c : Code} {D : va_G} {kI kC kB : ClassId} {b L : Nat} {xs : Nat → Int32} (C : CtxT p s m #[Value.ref b] meth c code 4 ret "QuireSignsLaw" D kI kC kB) (hX : va_X b L xs s s.heap) (hbl : b < s.heap.size) (hL : L ≤ 2048) (ax : AdT) (h_ : Nat → AdT) (am : AdT) (i : Nat) (hi : i + 4 ≤ L) (kn9 : ∀ (h2 : Nat → AdT) (x2 : XS) (y2 : MS) (σ2 : St) (H : Heap) (locs : List Loc) (ls : Array Slot), XOK σ2 x2 → MOK σ2 y2 → va_P D vwCl (bfl [cwX kI kB ax h2 x2, cwM kI kC am y2]) H → va_D (fun q : Nat => s.heap.size ≤ q) (bfl [cwX kI kB ax h2 x2, cwM kI kC am y2]) → va_S (fun q : Nat => s.heap.size ≤ q) s.heap H locs → lv_has ls 4 [(0, .ref b), (1, .ref (ax 0)), (2, .ref (am 0)), (3, .int (nI i))] → W p l e room_1 s m #[Value.ref b] below meth c H locs 83 3066 (lw_Z below #[Value.ref b] s) (F0 m 661 ls [])) (σ : St) (x : XS) (y : MS) (hx : XOK σ x) (hm : MOK σ y) : ∀ (H : Heap) (locs : List Loc) (ls : Array Slot), va_P D vwCl (bfl [cwX kI kB ax h_ x, cwM kI kC am y]) H → va_D (fun q : Nat => s.heap.size ≤ q) (bfl [cwX kI kB ax h_ x, cwM kI kC am y]) → va_S (fun q : Nat => s.heap.size ≤ q) s.heap H locs → lv_has ls 4 [(0, .ref b), (1, .ref (ax 0)), (2, .ref (am 0)), (3, .int (nI i))] → W p l e room_1 s m #[Value.ref b] below meth c H locs 83 3066 (lw_Z below #[Value.ref b] s) (F0 m 219 ls []) := by
  intro H locs ls hP hD hS hl
  obtain ⟨hx0, hb, hr, hml, hown, hts, hlocks, hK⟩ := id C
  have hA : ∀ q : Nat, s.heap.size ≤ q → (fun q : Nat => s.heap.size ≤ q) q := fun _ h => h
  have hbA : ¬ (fun q : Nat => s.heap.size ≤ q) b := Nat.not_le.mpr hbl
  obtain ⟨r, σ2, hwx, hwm⟩ := op_signNext σ x y hx hm (xs (nI (i + 1)).toNatClampNeg) 
  refine lv_aload_n hx0 hb dL_law_219 rfl (lv_at hl 1 rfl) ?_
  refine lv_aload_n hx0 hb dL_law_220 rfl (lv_at hl 0 rfl) ?_
  refine lv_iload_n hx0 hb dL_law_221 rfl (lv_at hl 3 rfl) ?_
  refine lv_iconst (v := nI 1) hx0 hb dL_law_222 (by decide) ?_
  refine lv_iadd hx0 hb dL_law_223 ?_
  refine lv_topi (fun z ez => ?_)
  obtain rfl : z = nI (i + 1) := by rw [ez, nI_add]
  refine va_sld hx0 hb hX hbl hbA hS (vp_in_nI (by omega) (by omega)) dL_law_224 ?_
  refine kMBi (As := [.int (xs (nI (i + 1)).toNatClampNeg)]) (rest := []) (q0 := 0) (ws' := fun u : (Nat → AdT) × RowT × RowT × RowT × RowT × HistT => bfl [cwX kI kB ax u.1 (x.1, x.2.1, x.2.2.1, u.2.1, u.2.2.1, u.2.2.2.1, u.2.2.2.2.1, x.2.2.2.2.2.2.2.1, x.2.2.2.2.2.2.2.2.1, x.2.2.2.2.2.2.2.2.2.1, x.2.2.2.2.2.2.2.2.2.2.1, x.2.2.2.2.2.2.2.2.2.2.2.1, x.2.2.2.2.2.2.2.2.2.2.2.2.1, u.2.2.2.2.2, x.2.2.2.2.2.2.2.2.2.2.2.2.2.2.1, x.2.2.2.2.2.2.2.2.2.2.2.2.2.2.2.1, x.2.2.2.2.2.2.2.2.2.2.2.2.2.2.2.2.1, x.2.2.2.2.2.2.2.2.2.2.2.2.2.2.2.2.2.1, x.2.2.2.2.2.2.2.2.2.2.2.2.2.2.2.2.2.2.1, x.2.2.2.2.2.2.2.2.2.2.2.2.2.2.2.2.2.2.2.1, x.2.2.2.2.2.2.2.2.2.2.2.2.2.2.2.2.2.2.2.2.1, x.2.2.2.2.2.2.2.2.2.2.2.2.2.2.2.2.2.2.2.2.2.1, x.2.2.2.2.2.2.2.2.2.2.2.2.2.2.2.2.2.2.2.2.2.2), cwM kI kC am y]) C (c_X8_signNext l D kI kC kB ax h_ x.1 x.2.1 x.2.2.1 x.2.2.2.1 x.2.2.2.2.1 x.2.2.2.2.2.1 x.2.2.2.2.2.2.1 x.2.2.2.2.2.2.2.1 x.2.2.2.2.2.2.2.2.1 x.2.2.2.2.2.2.2.2.2.1 x.2.2.2.2.2.2.2.2.2.2.1 x.2.2.2.2.2.2.2.2.2.2.2.1 x.2.2.2.2.2.2.2.2.2.2.2.2.1 x.2.2.2.2.2.2.2.2.2.2.2.2.2.1 x.2.2.2.2.2.2.2.2.2.2.2.2.2.2.1 x.2.2.2.2.2.2.2.2.2.2.2.2.2.2.2.1 x.2.2.2.2.2.2.2.2.2.2.2.2.2.2.2.2.1 x.2.2.2.2.2.2.2.2.2.2.2.2.2.2.2.2.2.1 x.2.2.2.2.2.2.2.2.2.2.2.2.2.2.2.2.2.2.1 x.2.2.2.2.2.2.2.2.2.2.2.2.2.2.2.2.2.2.2.1 x.2.2.2.2.2.2.2.2.2.2.2.2.2.2.2.2.2.2.2.2.1 x.2.2.2.2.2.2.2.2.2.2.2.2.2.2.2.2.2.2.2.2.2.1 x.2.2.2.2.2.2.2.2.2.2.2.2.2.2.2.2.2.2.2.2.2.2 H.size (xs (nI (i + 1)).toNatClampNeg) _ hwx) ⟨rfl, rfl⟩ ce_X8_signNext cv_X8_signNext tw_410 ⟨(Nat.le_of_ble_eq_true rfl), (Nat.le_of_ble_eq_true rfl)⟩ hP hD hS hA (bfl_p1 [_, _] 0 rfl) (fun u => bfl_p1 [_, _] 0 rfl) rfl rfl rfl hl.1 rfl (Nat.le_of_ble_eq_true rfl) ⟨(Nat.le_of_ble_eq_true rfl), (Nat.le_of_ble_eq_true rfl)⟩ dL_law_225 (fun r1 u H locs hqr1 hP hD hS => ?_)
  obtain ⟨xx, hxx⟩ : ∃ z : XS, z = (x.1, x.2.1, x.2.2.1, u.2.1, u.2.2.1, u.2.2.2.1, u.2.2.2.2.1, x.2.2.2.2.2.2.2.1, x.2.2.2.2.2.2.2.2.1, x.2.2.2.2.2.2.2.2.2.1, x.2.2.2.2.2.2.2.2.2.2.1, x.2.2.2.2.2.2.2.2.2.2.2.1, x.2.2.2.2.2.2.2.2.2.2.2.2.1, u.2.2.2.2.2, x.2.2.2.2.2.2.2.2.2.2.2.2.2.2.1, x.2.2.2.2.2.2.2.2.2.2.2.2.2.2.2.1, x.2.2.2.2.2.2.2.2.2.2.2.2.2.2.2.2.1, x.2.2.2.2.2.2.2.2.2.2.2.2.2.2.2.2.2.1, x.2.2.2.2.2.2.2.2.2.2.2.2.2.2.2.2.2.2.1, x.2.2.2.2.2.2.2.2.2.2.2.2.2.2.2.2.2.2.2.1, x.2.2.2.2.2.2.2.2.2.2.2.2.2.2.2.2.2.2.2.2.1, x.2.2.2.2.2.2.2.2.2.2.2.2.2.2.2.2.2.2.2.2.2.1, x.2.2.2.2.2.2.2.2.2.2.2.2.2.2.2.2.2.2.2.2.2.2) := ⟨_, rfl⟩
  obtain ⟨hh, hhh⟩ : ∃ z : Nat → AdT, z = u.1 := ⟨_, rfl⟩
  replace hqr1 : r1 = r ∧ XOK σ2 xx := by rw [hxx]; exact hqr1
  replace hP : va_P D vwCl (bfl [cwX kI kB ax hh xx, cwM kI kC am y]) H := by rw [hxx, hhh]; exact hP
  replace hD : va_D (fun q : Nat => s.heap.size ≤ q) (bfl [cwX kI kB ax hh xx, cwM kI kC am y]) := by rw [hxx, hhh]; exact hD
  clear hxx hhh
  refine lv_aload_n hx0 hb dL_law_228 rfl (lv_at hl 2 rfl) ?_
  refine lv_aload_n hx0 hb dL_law_229 rfl (lv_at hl 0 rfl) ?_
  refine lv_iload_n hx0 hb dL_law_230 rfl (lv_at hl 3 rfl) ?_
  refine lv_iconst (v := nI 1) hx0 hb dL_law_231 (by decide) ?_
  refine lv_iadd hx0 hb dL_law_232 ?_
  refine lv_topi (fun z ez => ?_)
  obtain rfl : z = nI (i + 1) := by rw [ez, nI_add]
  refine va_sld hx0 hb hX hbl hbA hS (vp_in_nI (by omega) (by omega)) dL_law_233 ?_
  refine kMBi (As := [.int (xs (nI (i + 1)).toNatClampNeg)]) (rest := [.int r1]) (q0 := 0) (ws' := fun u : (Nat → Int32) × Int32 => bfl [cwX kI kB ax hh xx, cwM kI kC am (u.1, y.2.1, y.2.2.1, y.2.2.2.1, u.2, y.2.2.2.2.2.1, y.2.2.2.2.2.2.1, y.2.2.2.2.2.2.2.1, y.2.2.2.2.2.2.2.2.1, y.2.2.2.2.2.2.2.2.2.1, y.2.2.2.2.2.2.2.2.2.2.1, y.2.2.2.2.2.2.2.2.2.2.2.1, y.2.2.2.2.2.2.2.2.2.2.2.2.1, y.2.2.2.2.2.2.2.2.2.2.2.2.2)]) C (c_X9_signNext l D kI kC kB am y.1 y.2.1 y.2.2.1 y.2.2.2.1 y.2.2.2.2.1 y.2.2.2.2.2.1 y.2.2.2.2.2.2.1 y.2.2.2.2.2.2.2.1 y.2.2.2.2.2.2.2.2.1 y.2.2.2.2.2.2.2.2.2.1 y.2.2.2.2.2.2.2.2.2.2.1 y.2.2.2.2.2.2.2.2.2.2.2.1 y.2.2.2.2.2.2.2.2.2.2.2.2.1 y.2.2.2.2.2.2.2.2.2.2.2.2.2 H.size (xs (nI (i + 1)).toNatClampNeg) _ hwm) ⟨rfl, rfl⟩ ce_X9_signNext cv_X9_signNext tw_795 ⟨(Nat.le_of_ble_eq_true rfl), (Nat.le_of_ble_eq_true rfl)⟩ hP hD hS hA (bfl_p1 [_, _] 1 rfl) (fun u => bfl_p1 [_, _] 1 rfl) rfl rfl rfl hl.1 rfl (Nat.le_of_ble_eq_true rfl) ⟨(Nat.le_of_ble_eq_true rfl), (Nat.le_of_ble_eq_true rfl)⟩ dL_law_234 (fun r2 u H locs hqr2 hP hD hS => ?_)
  obtain ⟨yy, hyy⟩ : ∃ z : MS, z = (u.1, y.2.1, y.2.2.1, y.2.2.2.1, u.2, y.2.2.2.2.2.1, y.2.2.2.2.2.2.1, y.2.2.2.2.2.2.2.1, y.2.2.2.2.2.2.2.2.1, y.2.2.2.2.2.2.2.2.2.1, y.2.2.2.2.2.2.2.2.2.2.1, y.2.2.2.2.2.2.2.2.2.2.2.1, y.2.2.2.2.2.2.2.2.2.2.2.2.1, y.2.2.2.2.2.2.2.2.2.2.2.2.2) := ⟨_, rfl⟩
  replace hqr2 : r2 = r ∧ MOK σ2 yy := by rw [hyy]; exact hqr2
  replace hP : va_P D vwCl (bfl [cwX kI kB ax hh xx, cwM kI kC am yy]) H := by rw [hyy]; exact hP
  replace hD : va_D (fun q : Nat => s.heap.size ≤ q) (bfl [cwX kI kB ax hh xx, cwM kI kC am yy]) := by rw [hyy]; exact hD
  refine lv_icmp_eq (tgt := 661) hx0 hb dL_law_237 (by decide) (fun hc => ?_) (fun hc => absurd (hqr1.1.trans hqr2.1.symm) hc)
  exact kn9 hh xx yy σ2 _ _ _ hqr1.2 hqr2.2 hP hD hS hl
set_option maxHeartbeats 1000000 in
set_option maxRecDepth 100000 in
theorem law_insert {p : Program} {l : Launch} {e : Env} {s : State} {m : MethodId} {below : List Frame} {meth : Method} {c : Code} {D : va_G} {kI kC kB : ClassId} {b L : Nat} {xs : Nat → Int32} (C : CtxT p s m #[Value.ref b] meth c code 4 ret "QuireSignsLaw" D kI kC kB) (hX : va_X b L xs s s.heap) (hbl : b < s.heap.size) (hL : L ≤ 2048) (ax : AdT) (h_ : Nat → AdT) (am : AdT) (i : Nat) (hi : i + 4 ≤ L) (kn9 : ∀ (h2 : Nat → AdT) (x2 : XS) (y2 : MS) (σ2 : St) (H : Heap) (locs : List Loc) (ls : Array Slot), XOK σ2 x2 → MOK σ2 y2 → va_P D vwCl (bfl [cwX kI kB ax h2 x2, cwM kI kC am y2]) H → va_D (fun q : Nat => s.heap.size ≤ q) (bfl [cwX kI kB ax h2 x2, cwM kI kC am y2]) → va_S (fun q : Nat => s.heap.size ≤ q) s.heap H locs → lv_has ls 4 [(0, .ref b), (1, .ref (ax 0)), (2, .ref (am 0)), (3, .int (nI i))] → W p l e room_1 s m #[Value.ref b] below meth c H locs 83 3066 (lw_Z below #[Value.ref b] s) (F0 m 661 ls [])) (σ : St) (x : XS) (y : MS) (hx : XOK σ x) (hm : MOK σ y) : ∀ (H : Heap) (locs : List Loc) (ls : Array Slot), va_P D vwCl (bfl [cwX kI kB ax h_ x, cwM kI kC am y]) H → va_D (fun q : Nat => s.heap.size ≤ q) (bfl [cwX kI kB ax h_ x, cwM kI kC am y]) → va_S (fun q : Nat => s.heap.size ≤ q) s.heap H locs → lv_has ls 4 [(0, .ref b), (1, .ref (ax 0)), (2, .ref (am 0)), (3, .int (nI i))] → W p l e room_1 s m #[Value.ref b] below meth c H locs 83 3066 (lw_Z below #[Value.ref b] s) (F0 m 242 ls []) := by
  intro H locs ls hP hD hS hl
  obtain ⟨hx0, hb, hr, hml, hown, hts, hlocks, hK⟩ := id C
  have hA : ∀ q : Nat, s.heap.size ≤ q → (fun q : Nat => s.heap.size ≤ q) q := fun _ h => h
  have hbA : ¬ (fun q : Nat => s.heap.size ≤ q) b := Nat.not_le.mpr hbl
  obtain ⟨r, σ2, hwx, hwm⟩ := op_insert σ x y hx hm (xs (nI (i + 1)).toNatClampNeg)  (xs (nI (i + 2)).toNatClampNeg)  (xs (nI (i + 3)).toNatClampNeg) 
  refine lv_aload_n hx0 hb dL_law_242 rfl (lv_at hl 1 rfl) ?_
  refine lv_aload_n hx0 hb dL_law_243 rfl (lv_at hl 0 rfl) ?_
  refine lv_iload_n hx0 hb dL_law_244 rfl (lv_at hl 3 rfl) ?_
  refine lv_iconst (v := nI 1) hx0 hb dL_law_245 (by decide) ?_
  refine lv_iadd hx0 hb dL_law_246 ?_
  refine lv_topi (fun z ez => ?_)
  obtain rfl : z = nI (i + 1) := by rw [ez, nI_add]
  refine va_sld hx0 hb hX hbl hbA hS (vp_in_nI (by omega) (by omega)) dL_law_247 ?_
  refine lv_aload_n hx0 hb dL_law_248 rfl (lv_at hl 0 rfl) ?_
  refine lv_iload_n hx0 hb dL_law_249 rfl (lv_at hl 3 rfl) ?_
  refine lv_iconst (v := nI 2) hx0 hb dL_law_250 (by decide) ?_
  refine lv_iadd hx0 hb dL_law_251 ?_
  refine lv_topi (fun z ez => ?_)
  obtain rfl : z = nI (i + 2) := by rw [ez, nI_add]
  refine va_sld hx0 hb hX hbl hbA hS (vp_in_nI (by omega) (by omega)) dL_law_252 ?_
  refine lv_aload_n hx0 hb dL_law_253 rfl (lv_at hl 0 rfl) ?_
  refine lv_iload_n hx0 hb dL_law_254 rfl (lv_at hl 3 rfl) ?_
  refine lv_iconst (v := nI 3) hx0 hb dL_law_255 (by decide) ?_
  refine lv_iadd hx0 hb dL_law_256 ?_
  refine lv_topi (fun z ez => ?_)
  obtain rfl : z = nI (i + 3) := by rw [ez, nI_add]
  refine va_sld hx0 hb hX hbl hbA hS (vp_in_nI (by omega) (by omega)) dL_law_257 ?_
  refine kMBi (As := [.int (xs (nI (i + 1)).toNatClampNeg), .int (xs (nI (i + 2)).toNatClampNeg), .int (xs (nI (i + 3)).toNatClampNeg)]) (rest := []) (q0 := 0) (ws' := fun u : (Nat → AdT) × RowT × RowT × RowT × RowT × HistT => bfl [cwX kI kB ax u.1 (x.1, x.2.1, x.2.2.1, u.2.1, u.2.2.1, u.2.2.2.1, u.2.2.2.2.1, x.2.2.2.2.2.2.2.1, x.2.2.2.2.2.2.2.2.1, x.2.2.2.2.2.2.2.2.2.1, x.2.2.2.2.2.2.2.2.2.2.1, x.2.2.2.2.2.2.2.2.2.2.2.1, x.2.2.2.2.2.2.2.2.2.2.2.2.1, u.2.2.2.2.2, x.2.2.2.2.2.2.2.2.2.2.2.2.2.2.1, x.2.2.2.2.2.2.2.2.2.2.2.2.2.2.2.1, x.2.2.2.2.2.2.2.2.2.2.2.2.2.2.2.2.1, x.2.2.2.2.2.2.2.2.2.2.2.2.2.2.2.2.2.1, x.2.2.2.2.2.2.2.2.2.2.2.2.2.2.2.2.2.2.1, x.2.2.2.2.2.2.2.2.2.2.2.2.2.2.2.2.2.2.2.1, x.2.2.2.2.2.2.2.2.2.2.2.2.2.2.2.2.2.2.2.2.1, x.2.2.2.2.2.2.2.2.2.2.2.2.2.2.2.2.2.2.2.2.2.1, x.2.2.2.2.2.2.2.2.2.2.2.2.2.2.2.2.2.2.2.2.2.2), cwM kI kC am y]) C (c_X8_insert l D kI kC kB ax h_ x.1 x.2.1 x.2.2.1 x.2.2.2.1 x.2.2.2.2.1 x.2.2.2.2.2.1 x.2.2.2.2.2.2.1 x.2.2.2.2.2.2.2.1 x.2.2.2.2.2.2.2.2.1 x.2.2.2.2.2.2.2.2.2.1 x.2.2.2.2.2.2.2.2.2.2.1 x.2.2.2.2.2.2.2.2.2.2.2.1 x.2.2.2.2.2.2.2.2.2.2.2.2.1 x.2.2.2.2.2.2.2.2.2.2.2.2.2.1 x.2.2.2.2.2.2.2.2.2.2.2.2.2.2.1 x.2.2.2.2.2.2.2.2.2.2.2.2.2.2.2.1 x.2.2.2.2.2.2.2.2.2.2.2.2.2.2.2.2.1 x.2.2.2.2.2.2.2.2.2.2.2.2.2.2.2.2.2.1 x.2.2.2.2.2.2.2.2.2.2.2.2.2.2.2.2.2.2.1 x.2.2.2.2.2.2.2.2.2.2.2.2.2.2.2.2.2.2.2.1 x.2.2.2.2.2.2.2.2.2.2.2.2.2.2.2.2.2.2.2.2.1 x.2.2.2.2.2.2.2.2.2.2.2.2.2.2.2.2.2.2.2.2.2.1 x.2.2.2.2.2.2.2.2.2.2.2.2.2.2.2.2.2.2.2.2.2.2 H.size (xs (nI (i + 1)).toNatClampNeg) (xs (nI (i + 2)).toNatClampNeg) (xs (nI (i + 3)).toNatClampNeg) _ hwx) ⟨rfl, rfl⟩ ce_X8_insert cv_X8_insert tw_426 ⟨(Nat.le_of_ble_eq_true rfl), (Nat.le_of_ble_eq_true rfl)⟩ hP hD hS hA (bfl_p1 [_, _] 0 rfl) (fun u => bfl_p1 [_, _] 0 rfl) rfl rfl rfl hl.1 rfl (Nat.le_of_ble_eq_true rfl) ⟨(Nat.le_of_ble_eq_true rfl), (Nat.le_of_ble_eq_true rfl)⟩ dL_law_258 (fun r1 u H locs hqr1 hP hD hS => ?_)
  obtain ⟨xx, hxx⟩ : ∃ z : XS, z = (x.1, x.2.1, x.2.2.1, u.2.1, u.2.2.1, u.2.2.2.1, u.2.2.2.2.1, x.2.2.2.2.2.2.2.1, x.2.2.2.2.2.2.2.2.1, x.2.2.2.2.2.2.2.2.2.1, x.2.2.2.2.2.2.2.2.2.2.1, x.2.2.2.2.2.2.2.2.2.2.2.1, x.2.2.2.2.2.2.2.2.2.2.2.2.1, u.2.2.2.2.2, x.2.2.2.2.2.2.2.2.2.2.2.2.2.2.1, x.2.2.2.2.2.2.2.2.2.2.2.2.2.2.2.1, x.2.2.2.2.2.2.2.2.2.2.2.2.2.2.2.2.1, x.2.2.2.2.2.2.2.2.2.2.2.2.2.2.2.2.2.1, x.2.2.2.2.2.2.2.2.2.2.2.2.2.2.2.2.2.2.1, x.2.2.2.2.2.2.2.2.2.2.2.2.2.2.2.2.2.2.2.1, x.2.2.2.2.2.2.2.2.2.2.2.2.2.2.2.2.2.2.2.2.1, x.2.2.2.2.2.2.2.2.2.2.2.2.2.2.2.2.2.2.2.2.2.1, x.2.2.2.2.2.2.2.2.2.2.2.2.2.2.2.2.2.2.2.2.2.2) := ⟨_, rfl⟩
  obtain ⟨hh, hhh⟩ : ∃ z : Nat → AdT, z = u.1 := ⟨_, rfl⟩
  replace hqr1 : r1 = r ∧ XOK σ2 xx := by rw [hxx]; exact hqr1
  replace hP : va_P D vwCl (bfl [cwX kI kB ax hh xx, cwM kI kC am y]) H := by rw [hxx, hhh]; exact hP
  replace hD : va_D (fun q : Nat => s.heap.size ≤ q) (bfl [cwX kI kB ax hh xx, cwM kI kC am y]) := by rw [hxx, hhh]; exact hD
  clear hxx hhh
  refine lv_aload_n hx0 hb dL_law_261 rfl (lv_at hl 2 rfl) ?_
  refine lv_aload_n hx0 hb dL_law_262 rfl (lv_at hl 0 rfl) ?_
  refine lv_iload_n hx0 hb dL_law_263 rfl (lv_at hl 3 rfl) ?_
  refine lv_iconst (v := nI 1) hx0 hb dL_law_264 (by decide) ?_
  refine lv_iadd hx0 hb dL_law_265 ?_
  refine lv_topi (fun z ez => ?_)
  obtain rfl : z = nI (i + 1) := by rw [ez, nI_add]
  refine va_sld hx0 hb hX hbl hbA hS (vp_in_nI (by omega) (by omega)) dL_law_266 ?_
  refine lv_aload_n hx0 hb dL_law_267 rfl (lv_at hl 0 rfl) ?_
  refine lv_iload_n hx0 hb dL_law_268 rfl (lv_at hl 3 rfl) ?_
  refine lv_iconst (v := nI 2) hx0 hb dL_law_269 (by decide) ?_
  refine lv_iadd hx0 hb dL_law_270 ?_
  refine lv_topi (fun z ez => ?_)
  obtain rfl : z = nI (i + 2) := by rw [ez, nI_add]
  refine va_sld hx0 hb hX hbl hbA hS (vp_in_nI (by omega) (by omega)) dL_law_271 ?_
  refine lv_aload_n hx0 hb dL_law_272 rfl (lv_at hl 0 rfl) ?_
  refine lv_iload_n hx0 hb dL_law_273 rfl (lv_at hl 3 rfl) ?_
  refine lv_iconst (v := nI 3) hx0 hb dL_law_274 (by decide) ?_
  refine lv_iadd hx0 hb dL_law_275 ?_
  refine lv_topi (fun z ez => ?_)
  obtain rfl : z = nI (i + 3) := by rw [ez, nI_add]
  refine va_sld hx0 hb hX hbl hbA hS (vp_in_nI (by omega) (by omega)) dL_law_276 ?_
  refine kMBi (As := [.int (xs (nI (i + 1)).toNatClampNeg), .int (xs (nI (i + 2)).toNatClampNeg), .int (xs (nI (i + 3)).toNatClampNeg)]) (rest := [.int r1]) (q0 := 0) (ws' := fun u : (Nat → Int32) × Int32 => bfl [cwX kI kB ax hh xx, cwM kI kC am (u.1, y.2.1, y.2.2.1, y.2.2.2.1, u.2, y.2.2.2.2.2.1, y.2.2.2.2.2.2.1, y.2.2.2.2.2.2.2.1, y.2.2.2.2.2.2.2.2.1, y.2.2.2.2.2.2.2.2.2.1, y.2.2.2.2.2.2.2.2.2.2.1, y.2.2.2.2.2.2.2.2.2.2.2.1, y.2.2.2.2.2.2.2.2.2.2.2.2.1, y.2.2.2.2.2.2.2.2.2.2.2.2.2)]) C (c_X9_insert l D kI kC kB am y.1 y.2.1 y.2.2.1 y.2.2.2.1 y.2.2.2.2.1 y.2.2.2.2.2.1 y.2.2.2.2.2.2.1 y.2.2.2.2.2.2.2.1 y.2.2.2.2.2.2.2.2.1 y.2.2.2.2.2.2.2.2.2.1 y.2.2.2.2.2.2.2.2.2.2.1 y.2.2.2.2.2.2.2.2.2.2.2.1 y.2.2.2.2.2.2.2.2.2.2.2.2.1 y.2.2.2.2.2.2.2.2.2.2.2.2.2 H.size (xs (nI (i + 1)).toNatClampNeg) (xs (nI (i + 2)).toNatClampNeg) (xs (nI (i + 3)).toNatClampNeg) _ hwm) ⟨rfl, rfl⟩ ce_X9_insert cv_X9_insert tw_811 ⟨(Nat.le_of_ble_eq_true rfl), (Nat.le_of_ble_eq_true rfl)⟩ hP hD hS hA (bfl_p1 [_, _] 1 rfl) (fun u => bfl_p1 [_, _] 1 rfl) rfl rfl rfl hl.1 rfl (Nat.le_of_ble_eq_true rfl) ⟨(Nat.le_of_ble_eq_true rfl), (Nat.le_of_ble_eq_true rfl)⟩ dL_law_277 (fun r2 u H locs hqr2 hP hD hS => ?_)
  obtain ⟨yy, hyy⟩ : ∃ z : MS, z = (u.1, y.2.1, y.2.2.1, y.2.2.2.1, u.2, y.2.2.2.2.2.1, y.2.2.2.2.2.2.1, y.2.2.2.2.2.2.2.1, y.2.2.2.2.2.2.2.2.1, y.2.2.2.2.2.2.2.2.2.1, y.2.2.2.2.2.2.2.2.2.2.1, y.2.2.2.2.2.2.2.2.2.2.2.1, y.2.2.2.2.2.2.2.2.2.2.2.2.1, y.2.2.2.2.2.2.2.2.2.2.2.2.2) := ⟨_, rfl⟩
  replace hqr2 : r2 = r ∧ MOK σ2 yy := by rw [hyy]; exact hqr2
  replace hP : va_P D vwCl (bfl [cwX kI kB ax hh xx, cwM kI kC am yy]) H := by rw [hyy]; exact hP
  replace hD : va_D (fun q : Nat => s.heap.size ≤ q) (bfl [cwX kI kB ax hh xx, cwM kI kC am yy]) := by rw [hyy]; exact hD
  refine lv_icmp_eq (tgt := 661) hx0 hb dL_law_280 (by decide) (fun hc => ?_) (fun hc => absurd (hqr1.1.trans hqr2.1.symm) hc)
  exact kn9 hh xx yy σ2 _ _ _ hqr1.2 hqr2.2 hP hD hS hl
set_option maxHeartbeats 1000000 in
set_option maxRecDepth 100000 in
theorem law_remove {p : Program} {l : Launch} {e : Env} {s : State} {m : MethodId} {below : List Frame} {meth : Method} {c : Code} {D : va_G} {kI kC kB : ClassId} {b L : Nat} {xs : Nat → Int32} (C : CtxT p s m #[Value.ref b] meth c code 4 ret "QuireSignsLaw" D kI kC kB) (hX : va_X b L xs s s.heap) (hbl : b < s.heap.size) (hL : L ≤ 2048) (ax : AdT) (h_ : Nat → AdT) (am : AdT) (i : Nat) (hi : i + 4 ≤ L) (kn9 : ∀ (h2 : Nat → AdT) (x2 : XS) (y2 : MS) (σ2 : St) (H : Heap) (locs : List Loc) (ls : Array Slot), XOK σ2 x2 → MOK σ2 y2 → va_P D vwCl (bfl [cwX kI kB ax h2 x2, cwM kI kC am y2]) H → va_D (fun q : Nat => s.heap.size ≤ q) (bfl [cwX kI kB ax h2 x2, cwM kI kC am y2]) → va_S (fun q : Nat => s.heap.size ≤ q) s.heap H locs → lv_has ls 4 [(0, .ref b), (1, .ref (ax 0)), (2, .ref (am 0)), (3, .int (nI i))] → W p l e room_1 s m #[Value.ref b] below meth c H locs 83 3066 (lw_Z below #[Value.ref b] s) (F0 m 661 ls [])) (σ : St) (x : XS) (y : MS) (hx : XOK σ x) (hm : MOK σ y) : ∀ (H : Heap) (locs : List Loc) (ls : Array Slot), va_P D vwCl (bfl [cwX kI kB ax h_ x, cwM kI kC am y]) H → va_D (fun q : Nat => s.heap.size ≤ q) (bfl [cwX kI kB ax h_ x, cwM kI kC am y]) → va_S (fun q : Nat => s.heap.size ≤ q) s.heap H locs → lv_has ls 4 [(0, .ref b), (1, .ref (ax 0)), (2, .ref (am 0)), (3, .int (nI i))] → W p l e room_1 s m #[Value.ref b] below meth c H locs 83 3066 (lw_Z below #[Value.ref b] s) (F0 m 285 ls []) := by
  intro H locs ls hP hD hS hl
  obtain ⟨hx0, hb, hr, hml, hown, hts, hlocks, hK⟩ := id C
  have hA : ∀ q : Nat, s.heap.size ≤ q → (fun q : Nat => s.heap.size ≤ q) q := fun _ h => h
  have hbA : ¬ (fun q : Nat => s.heap.size ≤ q) b := Nat.not_le.mpr hbl
  obtain ⟨r, σ2, hwx, hwm⟩ := op_remove σ x y hx hm (xs (nI (i + 1)).toNatClampNeg) 
  refine lv_aload_n hx0 hb dL_law_285 rfl (lv_at hl 1 rfl) ?_
  refine lv_aload_n hx0 hb dL_law_286 rfl (lv_at hl 0 rfl) ?_
  refine lv_iload_n hx0 hb dL_law_287 rfl (lv_at hl 3 rfl) ?_
  refine lv_iconst (v := nI 1) hx0 hb dL_law_288 (by decide) ?_
  refine lv_iadd hx0 hb dL_law_289 ?_
  refine lv_topi (fun z ez => ?_)
  obtain rfl : z = nI (i + 1) := by rw [ez, nI_add]
  refine va_sld hx0 hb hX hbl hbA hS (vp_in_nI (by omega) (by omega)) dL_law_290 ?_
  refine kMBi (As := [.int (xs (nI (i + 1)).toNatClampNeg)]) (rest := []) (q0 := 0) (ws' := fun u : (Nat → AdT) × RowT × RowT × RowT × RowT × HistT => bfl [cwX kI kB ax u.1 (x.1, x.2.1, x.2.2.1, u.2.1, u.2.2.1, u.2.2.2.1, u.2.2.2.2.1, x.2.2.2.2.2.2.2.1, x.2.2.2.2.2.2.2.2.1, x.2.2.2.2.2.2.2.2.2.1, x.2.2.2.2.2.2.2.2.2.2.1, x.2.2.2.2.2.2.2.2.2.2.2.1, x.2.2.2.2.2.2.2.2.2.2.2.2.1, u.2.2.2.2.2, x.2.2.2.2.2.2.2.2.2.2.2.2.2.2.1, x.2.2.2.2.2.2.2.2.2.2.2.2.2.2.2.1, x.2.2.2.2.2.2.2.2.2.2.2.2.2.2.2.2.1, x.2.2.2.2.2.2.2.2.2.2.2.2.2.2.2.2.2.1, x.2.2.2.2.2.2.2.2.2.2.2.2.2.2.2.2.2.2.1, x.2.2.2.2.2.2.2.2.2.2.2.2.2.2.2.2.2.2.2.1, x.2.2.2.2.2.2.2.2.2.2.2.2.2.2.2.2.2.2.2.2.1, x.2.2.2.2.2.2.2.2.2.2.2.2.2.2.2.2.2.2.2.2.2.1, x.2.2.2.2.2.2.2.2.2.2.2.2.2.2.2.2.2.2.2.2.2.2), cwM kI kC am y]) C (c_X8_remove l D kI kC kB ax h_ x.1 x.2.1 x.2.2.1 x.2.2.2.1 x.2.2.2.2.1 x.2.2.2.2.2.1 x.2.2.2.2.2.2.1 x.2.2.2.2.2.2.2.1 x.2.2.2.2.2.2.2.2.1 x.2.2.2.2.2.2.2.2.2.1 x.2.2.2.2.2.2.2.2.2.2.1 x.2.2.2.2.2.2.2.2.2.2.2.1 x.2.2.2.2.2.2.2.2.2.2.2.2.1 x.2.2.2.2.2.2.2.2.2.2.2.2.2.1 x.2.2.2.2.2.2.2.2.2.2.2.2.2.2.1 x.2.2.2.2.2.2.2.2.2.2.2.2.2.2.2.1 x.2.2.2.2.2.2.2.2.2.2.2.2.2.2.2.2.1 x.2.2.2.2.2.2.2.2.2.2.2.2.2.2.2.2.2.1 x.2.2.2.2.2.2.2.2.2.2.2.2.2.2.2.2.2.2.1 x.2.2.2.2.2.2.2.2.2.2.2.2.2.2.2.2.2.2.2.1 x.2.2.2.2.2.2.2.2.2.2.2.2.2.2.2.2.2.2.2.2.1 x.2.2.2.2.2.2.2.2.2.2.2.2.2.2.2.2.2.2.2.2.2.1 x.2.2.2.2.2.2.2.2.2.2.2.2.2.2.2.2.2.2.2.2.2.2 H.size (xs (nI (i + 1)).toNatClampNeg) _ hwx) ⟨rfl, rfl⟩ ce_X8_remove cv_X8_remove tw_439 ⟨(Nat.le_of_ble_eq_true rfl), (Nat.le_of_ble_eq_true rfl)⟩ hP hD hS hA (bfl_p1 [_, _] 0 rfl) (fun u => bfl_p1 [_, _] 0 rfl) rfl rfl rfl hl.1 rfl (Nat.le_of_ble_eq_true rfl) ⟨(Nat.le_of_ble_eq_true rfl), (Nat.le_of_ble_eq_true rfl)⟩ dL_law_291 (fun r1 u H locs hqr1 hP hD hS => ?_)
  obtain ⟨xx, hxx⟩ : ∃ z : XS, z = (x.1, x.2.1, x.2.2.1, u.2.1, u.2.2.1, u.2.2.2.1, u.2.2.2.2.1, x.2.2.2.2.2.2.2.1, x.2.2.2.2.2.2.2.2.1, x.2.2.2.2.2.2.2.2.2.1, x.2.2.2.2.2.2.2.2.2.2.1, x.2.2.2.2.2.2.2.2.2.2.2.1, x.2.2.2.2.2.2.2.2.2.2.2.2.1, u.2.2.2.2.2, x.2.2.2.2.2.2.2.2.2.2.2.2.2.2.1, x.2.2.2.2.2.2.2.2.2.2.2.2.2.2.2.1, x.2.2.2.2.2.2.2.2.2.2.2.2.2.2.2.2.1, x.2.2.2.2.2.2.2.2.2.2.2.2.2.2.2.2.2.1, x.2.2.2.2.2.2.2.2.2.2.2.2.2.2.2.2.2.2.1, x.2.2.2.2.2.2.2.2.2.2.2.2.2.2.2.2.2.2.2.1, x.2.2.2.2.2.2.2.2.2.2.2.2.2.2.2.2.2.2.2.2.1, x.2.2.2.2.2.2.2.2.2.2.2.2.2.2.2.2.2.2.2.2.2.1, x.2.2.2.2.2.2.2.2.2.2.2.2.2.2.2.2.2.2.2.2.2.2) := ⟨_, rfl⟩
  obtain ⟨hh, hhh⟩ : ∃ z : Nat → AdT, z = u.1 := ⟨_, rfl⟩
  replace hqr1 : r1 = r ∧ XOK σ2 xx := by rw [hxx]; exact hqr1
  replace hP : va_P D vwCl (bfl [cwX kI kB ax hh xx, cwM kI kC am y]) H := by rw [hxx, hhh]; exact hP
  replace hD : va_D (fun q : Nat => s.heap.size ≤ q) (bfl [cwX kI kB ax hh xx, cwM kI kC am y]) := by rw [hxx, hhh]; exact hD
  clear hxx hhh
  refine lv_aload_n hx0 hb dL_law_294 rfl (lv_at hl 2 rfl) ?_
  refine lv_aload_n hx0 hb dL_law_295 rfl (lv_at hl 0 rfl) ?_
  refine lv_iload_n hx0 hb dL_law_296 rfl (lv_at hl 3 rfl) ?_
  refine lv_iconst (v := nI 1) hx0 hb dL_law_297 (by decide) ?_
  refine lv_iadd hx0 hb dL_law_298 ?_
  refine lv_topi (fun z ez => ?_)
  obtain rfl : z = nI (i + 1) := by rw [ez, nI_add]
  refine va_sld hx0 hb hX hbl hbA hS (vp_in_nI (by omega) (by omega)) dL_law_299 ?_
  refine kMBi (As := [.int (xs (nI (i + 1)).toNatClampNeg)]) (rest := [.int r1]) (q0 := 0) (ws' := fun u : (Nat → Int32) × Int32 => bfl [cwX kI kB ax hh xx, cwM kI kC am (u.1, y.2.1, y.2.2.1, y.2.2.2.1, u.2, y.2.2.2.2.2.1, y.2.2.2.2.2.2.1, y.2.2.2.2.2.2.2.1, y.2.2.2.2.2.2.2.2.1, y.2.2.2.2.2.2.2.2.2.1, y.2.2.2.2.2.2.2.2.2.2.1, y.2.2.2.2.2.2.2.2.2.2.2.1, y.2.2.2.2.2.2.2.2.2.2.2.2.1, y.2.2.2.2.2.2.2.2.2.2.2.2.2)]) C (c_X9_remove l D kI kC kB am y.1 y.2.1 y.2.2.1 y.2.2.2.1 y.2.2.2.2.1 y.2.2.2.2.2.1 y.2.2.2.2.2.2.1 y.2.2.2.2.2.2.2.1 y.2.2.2.2.2.2.2.2.1 y.2.2.2.2.2.2.2.2.2.1 y.2.2.2.2.2.2.2.2.2.2.1 y.2.2.2.2.2.2.2.2.2.2.2.1 y.2.2.2.2.2.2.2.2.2.2.2.2.1 y.2.2.2.2.2.2.2.2.2.2.2.2.2 H.size (xs (nI (i + 1)).toNatClampNeg) _ hwm) ⟨rfl, rfl⟩ ce_X9_remove cv_X9_remove tw_819 ⟨(Nat.le_of_ble_eq_true rfl), (Nat.le_of_ble_eq_true rfl)⟩ hP hD hS hA (bfl_p1 [_, _] 1 rfl) (fun u => bfl_p1 [_, _] 1 rfl) rfl rfl rfl hl.1 rfl (Nat.le_of_ble_eq_true rfl) ⟨(Nat.le_of_ble_eq_true rfl), (Nat.le_of_ble_eq_true rfl)⟩ dL_law_300 (fun r2 u H locs hqr2 hP hD hS => ?_)
  obtain ⟨yy, hyy⟩ : ∃ z : MS, z = (u.1, y.2.1, y.2.2.1, y.2.2.2.1, u.2, y.2.2.2.2.2.1, y.2.2.2.2.2.2.1, y.2.2.2.2.2.2.2.1, y.2.2.2.2.2.2.2.2.1, y.2.2.2.2.2.2.2.2.2.1, y.2.2.2.2.2.2.2.2.2.2.1, y.2.2.2.2.2.2.2.2.2.2.2.1, y.2.2.2.2.2.2.2.2.2.2.2.2.1, y.2.2.2.2.2.2.2.2.2.2.2.2.2) := ⟨_, rfl⟩
  replace hqr2 : r2 = r ∧ MOK σ2 yy := by rw [hyy]; exact hqr2
  replace hP : va_P D vwCl (bfl [cwX kI kB ax hh xx, cwM kI kC am yy]) H := by rw [hyy]; exact hP
  replace hD : va_D (fun q : Nat => s.heap.size ≤ q) (bfl [cwX kI kB ax hh xx, cwM kI kC am yy]) := by rw [hyy]; exact hD
  refine lv_icmp_eq (tgt := 661) hx0 hb dL_law_303 (by decide) (fun hc => ?_) (fun hc => absurd (hqr1.1.trans hqr2.1.symm) hc)
  exact kn9 hh xx yy σ2 _ _ _ hqr1.2 hqr2.2 hP hD hS hl
set_option maxHeartbeats 1000000 in
set_option maxRecDepth 100000 in
theorem law_lose {p : Program} {l : Launch} {e : Env} {s : State} {m : MethodId} {below : List Frame} {meth : Method} {c : Code} {D : va_G} {kI kC kB : ClassId} {b L : Nat} {xs : Nat → Int32} (C : CtxT p s m #[Value.ref b] meth c code 4 ret "QuireSignsLaw" D kI kC kB) (hX : va_X b L xs s s.heap) (hbl : b < s.heap.size) (hL : L ≤ 2048) (ax : AdT) (h_ : Nat → AdT) (am : AdT) (i : Nat) (hi : i + 4 ≤ L) (kn9 : ∀ (h2 : Nat → AdT) (x2 : XS) (y2 : MS) (σ2 : St) (H : Heap) (locs : List Loc) (ls : Array Slot), XOK σ2 x2 → MOK σ2 y2 → va_P D vwCl (bfl [cwX kI kB ax h2 x2, cwM kI kC am y2]) H → va_D (fun q : Nat => s.heap.size ≤ q) (bfl [cwX kI kB ax h2 x2, cwM kI kC am y2]) → va_S (fun q : Nat => s.heap.size ≤ q) s.heap H locs → lv_has ls 4 [(0, .ref b), (1, .ref (ax 0)), (2, .ref (am 0)), (3, .int (nI i))] → W p l e room_1 s m #[Value.ref b] below meth c H locs 83 3066 (lw_Z below #[Value.ref b] s) (F0 m 661 ls [])) (σ : St) (x : XS) (y : MS) (hx : XOK σ x) (hm : MOK σ y) : ∀ (H : Heap) (locs : List Loc) (ls : Array Slot), va_P D vwCl (bfl [cwX kI kB ax h_ x, cwM kI kC am y]) H → va_D (fun q : Nat => s.heap.size ≤ q) (bfl [cwX kI kB ax h_ x, cwM kI kC am y]) → va_S (fun q : Nat => s.heap.size ≤ q) s.heap H locs → lv_has ls 4 [(0, .ref b), (1, .ref (ax 0)), (2, .ref (am 0)), (3, .int (nI i))] → W p l e room_1 s m #[Value.ref b] below meth c H locs 83 3066 (lw_Z below #[Value.ref b] s) (F0 m 308 ls []) := by
  intro H locs ls hP hD hS hl
  obtain ⟨hx0, hb, hr, hml, hown, hts, hlocks, hK⟩ := id C
  have hA : ∀ q : Nat, s.heap.size ≤ q → (fun q : Nat => s.heap.size ≤ q) q := fun _ h => h
  have hbA : ¬ (fun q : Nat => s.heap.size ≤ q) b := Nat.not_le.mpr hbl
  by_cases hz : (xs (nI (i + 2)).toNatClampNeg) = 0
  · obtain ⟨r, σ2, hwx, hwm⟩ := op_lose σ x y hx hm (xs (nI (i + 1)).toNatClampNeg)  (nI 0)  (by decide)
    refine lv_aload_n hx0 hb dL_law_308 rfl (lv_at hl 1 rfl) ?_
    refine lv_aload_n hx0 hb dL_law_309 rfl (lv_at hl 0 rfl) ?_
    refine lv_iload_n hx0 hb dL_law_310 rfl (lv_at hl 3 rfl) ?_
    refine lv_iconst (v := nI 1) hx0 hb dL_law_311 (by decide) ?_
    refine lv_iadd hx0 hb dL_law_312 ?_
    refine lv_topi (fun z ez => ?_)
    obtain rfl : z = nI (i + 1) := by rw [ez, nI_add]
    refine va_sld hx0 hb hX hbl hbA hS (vp_in_nI (by omega) (by omega)) dL_law_313 ?_
    refine lv_aload_n hx0 hb dL_law_314 rfl (lv_at hl 0 rfl) ?_
    refine lv_iload_n hx0 hb dL_law_315 rfl (lv_at hl 3 rfl) ?_
    refine lv_iconst (v := nI 2) hx0 hb dL_law_316 (by decide) ?_
    refine lv_iadd hx0 hb dL_law_317 ?_
    refine lv_topi (fun z ez => ?_)
    obtain rfl : z = nI (i + 2) := by rw [ez, nI_add]
    refine va_sld hx0 hb hX hbl hbA hS (vp_in_nI (by omega) (by omega)) dL_law_318 ?_
    refine lv_if_eq (tgt := 326) hx0 hb dL_law_319 (by decide) (fun hc => ?_) (fun hc => absurd hz hc)
    refine lv_iconst (v := nI 0) hx0 hb dL_law_326 (by decide) ?_
    refine kMBi (As := [.int (xs (nI (i + 1)).toNatClampNeg), .int (nI 0)]) (rest := []) (q0 := 0) (ws' := fun u : (Nat → AdT) × RowT × RowT × HistT => bfl [cwX kI kB ax u.1 (x.1, x.2.1, x.2.2.1, x.2.2.2.1, x.2.2.2.2.1, u.2.1, u.2.2.1, x.2.2.2.2.2.2.2.1, x.2.2.2.2.2.2.2.2.1, x.2.2.2.2.2.2.2.2.2.1, x.2.2.2.2.2.2.2.2.2.2.1, x.2.2.2.2.2.2.2.2.2.2.2.1, x.2.2.2.2.2.2.2.2.2.2.2.2.1, u.2.2.2, x.2.2.2.2.2.2.2.2.2.2.2.2.2.2.1, x.2.2.2.2.2.2.2.2.2.2.2.2.2.2.2.1, x.2.2.2.2.2.2.2.2.2.2.2.2.2.2.2.2.1, x.2.2.2.2.2.2.2.2.2.2.2.2.2.2.2.2.2.1, x.2.2.2.2.2.2.2.2.2.2.2.2.2.2.2.2.2.2.1, x.2.2.2.2.2.2.2.2.2.2.2.2.2.2.2.2.2.2.2.1, x.2.2.2.2.2.2.2.2.2.2.2.2.2.2.2.2.2.2.2.2.1, x.2.2.2.2.2.2.2.2.2.2.2.2.2.2.2.2.2.2.2.2.2.1, x.2.2.2.2.2.2.2.2.2.2.2.2.2.2.2.2.2.2.2.2.2.2), cwM kI kC am y]) C (c_X8_lose l D kI kC kB ax h_ x.1 x.2.1 x.2.2.1 x.2.2.2.1 x.2.2.2.2.1 x.2.2.2.2.2.1 x.2.2.2.2.2.2.1 x.2.2.2.2.2.2.2.1 x.2.2.2.2.2.2.2.2.1 x.2.2.2.2.2.2.2.2.2.1 x.2.2.2.2.2.2.2.2.2.2.1 x.2.2.2.2.2.2.2.2.2.2.2.1 x.2.2.2.2.2.2.2.2.2.2.2.2.1 x.2.2.2.2.2.2.2.2.2.2.2.2.2.1 x.2.2.2.2.2.2.2.2.2.2.2.2.2.2.1 x.2.2.2.2.2.2.2.2.2.2.2.2.2.2.2.1 x.2.2.2.2.2.2.2.2.2.2.2.2.2.2.2.2.1 x.2.2.2.2.2.2.2.2.2.2.2.2.2.2.2.2.2.1 x.2.2.2.2.2.2.2.2.2.2.2.2.2.2.2.2.2.2.1 x.2.2.2.2.2.2.2.2.2.2.2.2.2.2.2.2.2.2.2.1 x.2.2.2.2.2.2.2.2.2.2.2.2.2.2.2.2.2.2.2.2.1 x.2.2.2.2.2.2.2.2.2.2.2.2.2.2.2.2.2.2.2.2.2.1 x.2.2.2.2.2.2.2.2.2.2.2.2.2.2.2.2.2.2.2.2.2.2 H.size (xs (nI (i + 1)).toNatClampNeg) (nI 0) _ hwx) ⟨rfl, rfl⟩ ce_X8_lose cv_X8_lose tw_455 ⟨(Nat.le_of_ble_eq_true rfl), (Nat.le_of_ble_eq_true rfl)⟩ hP hD hS hA (bfl_p1 [_, _] 0 rfl) (fun u => bfl_p1 [_, _] 0 rfl) rfl rfl rfl hl.1 rfl (Nat.le_of_ble_eq_true rfl) ⟨(Nat.le_of_ble_eq_true rfl), (Nat.le_of_ble_eq_true rfl)⟩ dL_law_327 (fun r1 u H locs hqr1 hP hD hS => ?_)
    obtain ⟨xx, hxx⟩ : ∃ z : XS, z = (x.1, x.2.1, x.2.2.1, x.2.2.2.1, x.2.2.2.2.1, u.2.1, u.2.2.1, x.2.2.2.2.2.2.2.1, x.2.2.2.2.2.2.2.2.1, x.2.2.2.2.2.2.2.2.2.1, x.2.2.2.2.2.2.2.2.2.2.1, x.2.2.2.2.2.2.2.2.2.2.2.1, x.2.2.2.2.2.2.2.2.2.2.2.2.1, u.2.2.2, x.2.2.2.2.2.2.2.2.2.2.2.2.2.2.1, x.2.2.2.2.2.2.2.2.2.2.2.2.2.2.2.1, x.2.2.2.2.2.2.2.2.2.2.2.2.2.2.2.2.1, x.2.2.2.2.2.2.2.2.2.2.2.2.2.2.2.2.2.1, x.2.2.2.2.2.2.2.2.2.2.2.2.2.2.2.2.2.2.1, x.2.2.2.2.2.2.2.2.2.2.2.2.2.2.2.2.2.2.2.1, x.2.2.2.2.2.2.2.2.2.2.2.2.2.2.2.2.2.2.2.2.1, x.2.2.2.2.2.2.2.2.2.2.2.2.2.2.2.2.2.2.2.2.2.1, x.2.2.2.2.2.2.2.2.2.2.2.2.2.2.2.2.2.2.2.2.2.2) := ⟨_, rfl⟩
    obtain ⟨hh, hhh⟩ : ∃ z : Nat → AdT, z = u.1 := ⟨_, rfl⟩
    replace hqr1 : r1 = r ∧ XOK σ2 xx := by rw [hxx]; exact hqr1
    replace hP : va_P D vwCl (bfl [cwX kI kB ax hh xx, cwM kI kC am y]) H := by rw [hxx, hhh]; exact hP
    replace hD : va_D (fun q : Nat => s.heap.size ≤ q) (bfl [cwX kI kB ax hh xx, cwM kI kC am y]) := by rw [hxx, hhh]; exact hD
    clear hxx hhh
    refine lv_aload_n hx0 hb dL_law_330 rfl (lv_at hl 2 rfl) ?_
    refine lv_aload_n hx0 hb dL_law_331 rfl (lv_at hl 0 rfl) ?_
    refine lv_iload_n hx0 hb dL_law_332 rfl (lv_at hl 3 rfl) ?_
    refine lv_iconst (v := nI 1) hx0 hb dL_law_333 (by decide) ?_
    refine lv_iadd hx0 hb dL_law_334 ?_
    refine lv_topi (fun z ez => ?_)
    obtain rfl : z = nI (i + 1) := by rw [ez, nI_add]
    refine va_sld hx0 hb hX hbl hbA hS (vp_in_nI (by omega) (by omega)) dL_law_335 ?_
    refine lv_aload_n hx0 hb dL_law_336 rfl (lv_at hl 0 rfl) ?_
    refine lv_iload_n hx0 hb dL_law_337 rfl (lv_at hl 3 rfl) ?_
    refine lv_iconst (v := nI 2) hx0 hb dL_law_338 (by decide) ?_
    refine lv_iadd hx0 hb dL_law_339 ?_
    refine lv_topi (fun z ez => ?_)
    obtain rfl : z = nI (i + 2) := by rw [ez, nI_add]
    refine va_sld hx0 hb hX hbl hbA hS (vp_in_nI (by omega) (by omega)) dL_law_340 ?_
    refine lv_if_eq (tgt := 348) hx0 hb dL_law_341 (by decide) (fun hc => ?_) (fun hc => absurd hz hc)
    refine lv_iconst (v := nI 0) hx0 hb dL_law_348 (by decide) ?_
    refine kMBi (As := [.int (xs (nI (i + 1)).toNatClampNeg), .int (nI 0)]) (rest := [.int r1]) (q0 := 0) (ws' := fun u : (Nat → Int32) × Int32 => bfl [cwX kI kB ax hh xx, cwM kI kC am (u.1, y.2.1, y.2.2.1, y.2.2.2.1, u.2, y.2.2.2.2.2.1, y.2.2.2.2.2.2.1, y.2.2.2.2.2.2.2.1, y.2.2.2.2.2.2.2.2.1, y.2.2.2.2.2.2.2.2.2.1, y.2.2.2.2.2.2.2.2.2.2.1, y.2.2.2.2.2.2.2.2.2.2.2.1, y.2.2.2.2.2.2.2.2.2.2.2.2.1, y.2.2.2.2.2.2.2.2.2.2.2.2.2)]) C (c_X9_lose l D kI kC kB am y.1 y.2.1 y.2.2.1 y.2.2.2.1 y.2.2.2.2.1 y.2.2.2.2.2.1 y.2.2.2.2.2.2.1 y.2.2.2.2.2.2.2.1 y.2.2.2.2.2.2.2.2.1 y.2.2.2.2.2.2.2.2.2.1 y.2.2.2.2.2.2.2.2.2.2.1 y.2.2.2.2.2.2.2.2.2.2.2.1 y.2.2.2.2.2.2.2.2.2.2.2.2.1 y.2.2.2.2.2.2.2.2.2.2.2.2.2 H.size (xs (nI (i + 1)).toNatClampNeg) (nI 0) _ hwm) ⟨rfl, rfl⟩ ce_X9_lose cv_X9_lose tw_827 ⟨(Nat.le_of_ble_eq_true rfl), (Nat.le_of_ble_eq_true rfl)⟩ hP hD hS hA (bfl_p1 [_, _] 1 rfl) (fun u => bfl_p1 [_, _] 1 rfl) rfl rfl rfl hl.1 rfl (Nat.le_of_ble_eq_true rfl) ⟨(Nat.le_of_ble_eq_true rfl), (Nat.le_of_ble_eq_true rfl)⟩ dL_law_349 (fun r2 u H locs hqr2 hP hD hS => ?_)
    obtain ⟨yy, hyy⟩ : ∃ z : MS, z = (u.1, y.2.1, y.2.2.1, y.2.2.2.1, u.2, y.2.2.2.2.2.1, y.2.2.2.2.2.2.1, y.2.2.2.2.2.2.2.1, y.2.2.2.2.2.2.2.2.1, y.2.2.2.2.2.2.2.2.2.1, y.2.2.2.2.2.2.2.2.2.2.1, y.2.2.2.2.2.2.2.2.2.2.2.1, y.2.2.2.2.2.2.2.2.2.2.2.2.1, y.2.2.2.2.2.2.2.2.2.2.2.2.2) := ⟨_, rfl⟩
    replace hqr2 : r2 = r ∧ MOK σ2 yy := by rw [hyy]; exact hqr2
    replace hP : va_P D vwCl (bfl [cwX kI kB ax hh xx, cwM kI kC am yy]) H := by rw [hyy]; exact hP
    replace hD : va_D (fun q : Nat => s.heap.size ≤ q) (bfl [cwX kI kB ax hh xx, cwM kI kC am yy]) := by rw [hyy]; exact hD
    refine lv_icmp_eq (tgt := 661) hx0 hb dL_law_352 (by decide) (fun hc => ?_) (fun hc => absurd (hqr1.1.trans hqr2.1.symm) hc)
    exact kn9 hh xx yy σ2 _ _ _ hqr1.2 hqr2.2 hP hD hS hl
  · obtain ⟨r, σ2, hwx, hwm⟩ := op_lose σ x y hx hm (xs (nI (i + 1)).toNatClampNeg)  (nI 1)  (by decide)
    refine lv_aload_n hx0 hb dL_law_308 rfl (lv_at hl 1 rfl) ?_
    refine lv_aload_n hx0 hb dL_law_309 rfl (lv_at hl 0 rfl) ?_
    refine lv_iload_n hx0 hb dL_law_310 rfl (lv_at hl 3 rfl) ?_
    refine lv_iconst (v := nI 1) hx0 hb dL_law_311 (by decide) ?_
    refine lv_iadd hx0 hb dL_law_312 ?_
    refine lv_topi (fun z ez => ?_)
    obtain rfl : z = nI (i + 1) := by rw [ez, nI_add]
    refine va_sld hx0 hb hX hbl hbA hS (vp_in_nI (by omega) (by omega)) dL_law_313 ?_
    refine lv_aload_n hx0 hb dL_law_314 rfl (lv_at hl 0 rfl) ?_
    refine lv_iload_n hx0 hb dL_law_315 rfl (lv_at hl 3 rfl) ?_
    refine lv_iconst (v := nI 2) hx0 hb dL_law_316 (by decide) ?_
    refine lv_iadd hx0 hb dL_law_317 ?_
    refine lv_topi (fun z ez => ?_)
    obtain rfl : z = nI (i + 2) := by rw [ez, nI_add]
    refine va_sld hx0 hb hX hbl hbA hS (vp_in_nI (by omega) (by omega)) dL_law_318 ?_
    refine lv_if_eq (tgt := 326) hx0 hb dL_law_319 (by decide) (fun hc => absurd hc hz) (fun hc => ?_)
    refine lv_iconst (v := nI 1) hx0 hb dL_law_322 (by decide) ?_
    refine lv_goto (tgt := 327) hx0 hb dL_law_323 (by decide) ?_
    refine kMBi (As := [.int (xs (nI (i + 1)).toNatClampNeg), .int (nI 1)]) (rest := []) (q0 := 0) (ws' := fun u : (Nat → AdT) × RowT × RowT × HistT => bfl [cwX kI kB ax u.1 (x.1, x.2.1, x.2.2.1, x.2.2.2.1, x.2.2.2.2.1, u.2.1, u.2.2.1, x.2.2.2.2.2.2.2.1, x.2.2.2.2.2.2.2.2.1, x.2.2.2.2.2.2.2.2.2.1, x.2.2.2.2.2.2.2.2.2.2.1, x.2.2.2.2.2.2.2.2.2.2.2.1, x.2.2.2.2.2.2.2.2.2.2.2.2.1, u.2.2.2, x.2.2.2.2.2.2.2.2.2.2.2.2.2.2.1, x.2.2.2.2.2.2.2.2.2.2.2.2.2.2.2.1, x.2.2.2.2.2.2.2.2.2.2.2.2.2.2.2.2.1, x.2.2.2.2.2.2.2.2.2.2.2.2.2.2.2.2.2.1, x.2.2.2.2.2.2.2.2.2.2.2.2.2.2.2.2.2.2.1, x.2.2.2.2.2.2.2.2.2.2.2.2.2.2.2.2.2.2.2.1, x.2.2.2.2.2.2.2.2.2.2.2.2.2.2.2.2.2.2.2.2.1, x.2.2.2.2.2.2.2.2.2.2.2.2.2.2.2.2.2.2.2.2.2.1, x.2.2.2.2.2.2.2.2.2.2.2.2.2.2.2.2.2.2.2.2.2.2), cwM kI kC am y]) C (c_X8_lose l D kI kC kB ax h_ x.1 x.2.1 x.2.2.1 x.2.2.2.1 x.2.2.2.2.1 x.2.2.2.2.2.1 x.2.2.2.2.2.2.1 x.2.2.2.2.2.2.2.1 x.2.2.2.2.2.2.2.2.1 x.2.2.2.2.2.2.2.2.2.1 x.2.2.2.2.2.2.2.2.2.2.1 x.2.2.2.2.2.2.2.2.2.2.2.1 x.2.2.2.2.2.2.2.2.2.2.2.2.1 x.2.2.2.2.2.2.2.2.2.2.2.2.2.1 x.2.2.2.2.2.2.2.2.2.2.2.2.2.2.1 x.2.2.2.2.2.2.2.2.2.2.2.2.2.2.2.1 x.2.2.2.2.2.2.2.2.2.2.2.2.2.2.2.2.1 x.2.2.2.2.2.2.2.2.2.2.2.2.2.2.2.2.2.1 x.2.2.2.2.2.2.2.2.2.2.2.2.2.2.2.2.2.2.1 x.2.2.2.2.2.2.2.2.2.2.2.2.2.2.2.2.2.2.2.1 x.2.2.2.2.2.2.2.2.2.2.2.2.2.2.2.2.2.2.2.2.1 x.2.2.2.2.2.2.2.2.2.2.2.2.2.2.2.2.2.2.2.2.2.1 x.2.2.2.2.2.2.2.2.2.2.2.2.2.2.2.2.2.2.2.2.2.2 H.size (xs (nI (i + 1)).toNatClampNeg) (nI 1) _ hwx) ⟨rfl, rfl⟩ ce_X8_lose cv_X8_lose tw_455 ⟨(Nat.le_of_ble_eq_true rfl), (Nat.le_of_ble_eq_true rfl)⟩ hP hD hS hA (bfl_p1 [_, _] 0 rfl) (fun u => bfl_p1 [_, _] 0 rfl) rfl rfl rfl hl.1 rfl (Nat.le_of_ble_eq_true rfl) ⟨(Nat.le_of_ble_eq_true rfl), (Nat.le_of_ble_eq_true rfl)⟩ dL_law_327 (fun r1 u H locs hqr1 hP hD hS => ?_)
    obtain ⟨xx, hxx⟩ : ∃ z : XS, z = (x.1, x.2.1, x.2.2.1, x.2.2.2.1, x.2.2.2.2.1, u.2.1, u.2.2.1, x.2.2.2.2.2.2.2.1, x.2.2.2.2.2.2.2.2.1, x.2.2.2.2.2.2.2.2.2.1, x.2.2.2.2.2.2.2.2.2.2.1, x.2.2.2.2.2.2.2.2.2.2.2.1, x.2.2.2.2.2.2.2.2.2.2.2.2.1, u.2.2.2, x.2.2.2.2.2.2.2.2.2.2.2.2.2.2.1, x.2.2.2.2.2.2.2.2.2.2.2.2.2.2.2.1, x.2.2.2.2.2.2.2.2.2.2.2.2.2.2.2.2.1, x.2.2.2.2.2.2.2.2.2.2.2.2.2.2.2.2.2.1, x.2.2.2.2.2.2.2.2.2.2.2.2.2.2.2.2.2.2.1, x.2.2.2.2.2.2.2.2.2.2.2.2.2.2.2.2.2.2.2.1, x.2.2.2.2.2.2.2.2.2.2.2.2.2.2.2.2.2.2.2.2.1, x.2.2.2.2.2.2.2.2.2.2.2.2.2.2.2.2.2.2.2.2.2.1, x.2.2.2.2.2.2.2.2.2.2.2.2.2.2.2.2.2.2.2.2.2.2) := ⟨_, rfl⟩
    obtain ⟨hh, hhh⟩ : ∃ z : Nat → AdT, z = u.1 := ⟨_, rfl⟩
    replace hqr1 : r1 = r ∧ XOK σ2 xx := by rw [hxx]; exact hqr1
    replace hP : va_P D vwCl (bfl [cwX kI kB ax hh xx, cwM kI kC am y]) H := by rw [hxx, hhh]; exact hP
    replace hD : va_D (fun q : Nat => s.heap.size ≤ q) (bfl [cwX kI kB ax hh xx, cwM kI kC am y]) := by rw [hxx, hhh]; exact hD
    clear hxx hhh
    refine lv_aload_n hx0 hb dL_law_330 rfl (lv_at hl 2 rfl) ?_
    refine lv_aload_n hx0 hb dL_law_331 rfl (lv_at hl 0 rfl) ?_
    refine lv_iload_n hx0 hb dL_law_332 rfl (lv_at hl 3 rfl) ?_
    refine lv_iconst (v := nI 1) hx0 hb dL_law_333 (by decide) ?_
    refine lv_iadd hx0 hb dL_law_334 ?_
    refine lv_topi (fun z ez => ?_)
    obtain rfl : z = nI (i + 1) := by rw [ez, nI_add]
    refine va_sld hx0 hb hX hbl hbA hS (vp_in_nI (by omega) (by omega)) dL_law_335 ?_
    refine lv_aload_n hx0 hb dL_law_336 rfl (lv_at hl 0 rfl) ?_
    refine lv_iload_n hx0 hb dL_law_337 rfl (lv_at hl 3 rfl) ?_
    refine lv_iconst (v := nI 2) hx0 hb dL_law_338 (by decide) ?_
    refine lv_iadd hx0 hb dL_law_339 ?_
    refine lv_topi (fun z ez => ?_)
    obtain rfl : z = nI (i + 2) := by rw [ez, nI_add]
    refine va_sld hx0 hb hX hbl hbA hS (vp_in_nI (by omega) (by omega)) dL_law_340 ?_
    refine lv_if_eq (tgt := 348) hx0 hb dL_law_341 (by decide) (fun hc => absurd hc hz) (fun hc => ?_)
    refine lv_iconst (v := nI 1) hx0 hb dL_law_344 (by decide) ?_
    refine lv_goto (tgt := 349) hx0 hb dL_law_345 (by decide) ?_
    refine kMBi (As := [.int (xs (nI (i + 1)).toNatClampNeg), .int (nI 1)]) (rest := [.int r1]) (q0 := 0) (ws' := fun u : (Nat → Int32) × Int32 => bfl [cwX kI kB ax hh xx, cwM kI kC am (u.1, y.2.1, y.2.2.1, y.2.2.2.1, u.2, y.2.2.2.2.2.1, y.2.2.2.2.2.2.1, y.2.2.2.2.2.2.2.1, y.2.2.2.2.2.2.2.2.1, y.2.2.2.2.2.2.2.2.2.1, y.2.2.2.2.2.2.2.2.2.2.1, y.2.2.2.2.2.2.2.2.2.2.2.1, y.2.2.2.2.2.2.2.2.2.2.2.2.1, y.2.2.2.2.2.2.2.2.2.2.2.2.2)]) C (c_X9_lose l D kI kC kB am y.1 y.2.1 y.2.2.1 y.2.2.2.1 y.2.2.2.2.1 y.2.2.2.2.2.1 y.2.2.2.2.2.2.1 y.2.2.2.2.2.2.2.1 y.2.2.2.2.2.2.2.2.1 y.2.2.2.2.2.2.2.2.2.1 y.2.2.2.2.2.2.2.2.2.2.1 y.2.2.2.2.2.2.2.2.2.2.2.1 y.2.2.2.2.2.2.2.2.2.2.2.2.1 y.2.2.2.2.2.2.2.2.2.2.2.2.2 H.size (xs (nI (i + 1)).toNatClampNeg) (nI 1) _ hwm) ⟨rfl, rfl⟩ ce_X9_lose cv_X9_lose tw_827 ⟨(Nat.le_of_ble_eq_true rfl), (Nat.le_of_ble_eq_true rfl)⟩ hP hD hS hA (bfl_p1 [_, _] 1 rfl) (fun u => bfl_p1 [_, _] 1 rfl) rfl rfl rfl hl.1 rfl (Nat.le_of_ble_eq_true rfl) ⟨(Nat.le_of_ble_eq_true rfl), (Nat.le_of_ble_eq_true rfl)⟩ dL_law_349 (fun r2 u H locs hqr2 hP hD hS => ?_)
    obtain ⟨yy, hyy⟩ : ∃ z : MS, z = (u.1, y.2.1, y.2.2.1, y.2.2.2.1, u.2, y.2.2.2.2.2.1, y.2.2.2.2.2.2.1, y.2.2.2.2.2.2.2.1, y.2.2.2.2.2.2.2.2.1, y.2.2.2.2.2.2.2.2.2.1, y.2.2.2.2.2.2.2.2.2.2.1, y.2.2.2.2.2.2.2.2.2.2.2.1, y.2.2.2.2.2.2.2.2.2.2.2.2.1, y.2.2.2.2.2.2.2.2.2.2.2.2.2) := ⟨_, rfl⟩
    replace hqr2 : r2 = r ∧ MOK σ2 yy := by rw [hyy]; exact hqr2
    replace hP : va_P D vwCl (bfl [cwX kI kB ax hh xx, cwM kI kC am yy]) H := by rw [hyy]; exact hP
    replace hD : va_D (fun q : Nat => s.heap.size ≤ q) (bfl [cwX kI kB ax hh xx, cwM kI kC am yy]) := by rw [hyy]; exact hD
    refine lv_icmp_eq (tgt := 661) hx0 hb dL_law_352 (by decide) (fun hc => ?_) (fun hc => absurd (hqr1.1.trans hqr2.1.symm) hc)
    exact kn9 hh xx yy σ2 _ _ _ hqr1.2 hqr2.2 hP hD hS hl
set_option maxHeartbeats 1000000 in
set_option maxRecDepth 100000 in
theorem law_readPile {p : Program} {l : Launch} {e : Env} {s : State} {m : MethodId} {below : List Frame} {meth : Method} {c : Code} {D : va_G} {kI kC kB : ClassId} {b L : Nat} {xs : Nat → Int32} (C : CtxT p s m #[Value.ref b] meth c code 4 ret "QuireSignsLaw" D kI kC kB) (hX : va_X b L xs s s.heap) (hbl : b < s.heap.size) (hL : L ≤ 2048) (ax : AdT) (h_ : Nat → AdT) (am : AdT) (i : Nat) (hi : i + 4 ≤ L) (kn9 : ∀ (h2 : Nat → AdT) (x2 : XS) (y2 : MS) (σ2 : St) (H : Heap) (locs : List Loc) (ls : Array Slot), XOK σ2 x2 → MOK σ2 y2 → va_P D vwCl (bfl [cwX kI kB ax h2 x2, cwM kI kC am y2]) H → va_D (fun q : Nat => s.heap.size ≤ q) (bfl [cwX kI kB ax h2 x2, cwM kI kC am y2]) → va_S (fun q : Nat => s.heap.size ≤ q) s.heap H locs → lv_has ls 4 [(0, .ref b), (1, .ref (ax 0)), (2, .ref (am 0)), (3, .int (nI i))] → W p l e room_1 s m #[Value.ref b] below meth c H locs 83 3066 (lw_Z below #[Value.ref b] s) (F0 m 661 ls [])) (σ : St) (x : XS) (y : MS) (hx : XOK σ x) (hm : MOK σ y) : ∀ (H : Heap) (locs : List Loc) (ls : Array Slot), va_P D vwCl (bfl [cwX kI kB ax h_ x, cwM kI kC am y]) H → va_D (fun q : Nat => s.heap.size ≤ q) (bfl [cwX kI kB ax h_ x, cwM kI kC am y]) → va_S (fun q : Nat => s.heap.size ≤ q) s.heap H locs → lv_has ls 4 [(0, .ref b), (1, .ref (ax 0)), (2, .ref (am 0)), (3, .int (nI i))] → W p l e room_1 s m #[Value.ref b] below meth c H locs 83 3066 (lw_Z below #[Value.ref b] s) (F0 m 357 ls []) := by
  intro H locs ls hP hD hS hl
  obtain ⟨hx0, hb, hr, hml, hown, hts, hlocks, hK⟩ := id C
  have hA : ∀ q : Nat, s.heap.size ≤ q → (fun q : Nat => s.heap.size ≤ q) q := fun _ h => h
  have hbA : ¬ (fun q : Nat => s.heap.size ≤ q) b := Nat.not_le.mpr hbl
  obtain ⟨r, σ2, hwx, hwm⟩ := op_readPile σ x y hx hm 
  refine lv_aload_n hx0 hb dL_law_357 rfl (lv_at hl 1 rfl) ?_
  refine kMBi (As := []) (rest := []) (q0 := 0) (ws' := fun u : (Nat → AdT) × RowT × HistT × RowT × RowT × RowT × Int32 × RowT => bfl [cwX kI kB ax u.1 (x.1, x.2.1, x.2.2.1, x.2.2.2.1, x.2.2.2.2.1, x.2.2.2.2.2.1, u.2.1, x.2.2.2.2.2.2.2.1, x.2.2.2.2.2.2.2.2.1, x.2.2.2.2.2.2.2.2.2.1, x.2.2.2.2.2.2.2.2.2.2.1, x.2.2.2.2.2.2.2.2.2.2.2.1, x.2.2.2.2.2.2.2.2.2.2.2.2.1, u.2.2.1, x.2.2.2.2.2.2.2.2.2.2.2.2.2.2.1, u.2.2.2.1, u.2.2.2.2.1, u.2.2.2.2.2.1, u.2.2.2.2.2.2.1, x.2.2.2.2.2.2.2.2.2.2.2.2.2.2.2.2.2.2.2.1, x.2.2.2.2.2.2.2.2.2.2.2.2.2.2.2.2.2.2.2.2.1, x.2.2.2.2.2.2.2.2.2.2.2.2.2.2.2.2.2.2.2.2.2.1, u.2.2.2.2.2.2.2), cwM kI kC am y]) C (c_X8_readPile l D kI kC kB ax h_ x.1 x.2.1 x.2.2.1 x.2.2.2.1 x.2.2.2.2.1 x.2.2.2.2.2.1 x.2.2.2.2.2.2.1 x.2.2.2.2.2.2.2.1 x.2.2.2.2.2.2.2.2.1 x.2.2.2.2.2.2.2.2.2.1 x.2.2.2.2.2.2.2.2.2.2.1 x.2.2.2.2.2.2.2.2.2.2.2.1 x.2.2.2.2.2.2.2.2.2.2.2.2.1 x.2.2.2.2.2.2.2.2.2.2.2.2.2.1 x.2.2.2.2.2.2.2.2.2.2.2.2.2.2.1 x.2.2.2.2.2.2.2.2.2.2.2.2.2.2.2.1 x.2.2.2.2.2.2.2.2.2.2.2.2.2.2.2.2.1 x.2.2.2.2.2.2.2.2.2.2.2.2.2.2.2.2.2.1 x.2.2.2.2.2.2.2.2.2.2.2.2.2.2.2.2.2.2.1 x.2.2.2.2.2.2.2.2.2.2.2.2.2.2.2.2.2.2.2.1 x.2.2.2.2.2.2.2.2.2.2.2.2.2.2.2.2.2.2.2.2.1 x.2.2.2.2.2.2.2.2.2.2.2.2.2.2.2.2.2.2.2.2.2.1 x.2.2.2.2.2.2.2.2.2.2.2.2.2.2.2.2.2.2.2.2.2.2 H.size  _ hwx) ⟨rfl, rfl⟩ ce_X8_readPile cv_X8_readPile tw_491 ⟨(Nat.le_of_ble_eq_true rfl), (Nat.le_of_ble_eq_true rfl)⟩ hP hD hS hA (bfl_p1 [_, _] 0 rfl) (fun u => bfl_p1 [_, _] 0 rfl) rfl rfl rfl hl.1 rfl (Nat.le_of_ble_eq_true rfl) ⟨(Nat.le_of_ble_eq_true rfl), (Nat.le_of_ble_eq_true rfl)⟩ dL_law_358 (fun r1 u H locs hqr1 hP hD hS => ?_)
  obtain ⟨xx, hxx⟩ : ∃ z : XS, z = (x.1, x.2.1, x.2.2.1, x.2.2.2.1, x.2.2.2.2.1, x.2.2.2.2.2.1, u.2.1, x.2.2.2.2.2.2.2.1, x.2.2.2.2.2.2.2.2.1, x.2.2.2.2.2.2.2.2.2.1, x.2.2.2.2.2.2.2.2.2.2.1, x.2.2.2.2.2.2.2.2.2.2.2.1, x.2.2.2.2.2.2.2.2.2.2.2.2.1, u.2.2.1, x.2.2.2.2.2.2.2.2.2.2.2.2.2.2.1, u.2.2.2.1, u.2.2.2.2.1, u.2.2.2.2.2.1, u.2.2.2.2.2.2.1, x.2.2.2.2.2.2.2.2.2.2.2.2.2.2.2.2.2.2.2.1, x.2.2.2.2.2.2.2.2.2.2.2.2.2.2.2.2.2.2.2.2.1, x.2.2.2.2.2.2.2.2.2.2.2.2.2.2.2.2.2.2.2.2.2.1, u.2.2.2.2.2.2.2) := ⟨_, rfl⟩
  obtain ⟨hh, hhh⟩ : ∃ z : Nat → AdT, z = u.1 := ⟨_, rfl⟩
  replace hqr1 : r1 = r ∧ XOK σ2 xx := by rw [hxx]; exact hqr1
  replace hP : va_P D vwCl (bfl [cwX kI kB ax hh xx, cwM kI kC am y]) H := by rw [hxx, hhh]; exact hP
  replace hD : va_D (fun q : Nat => s.heap.size ≤ q) (bfl [cwX kI kB ax hh xx, cwM kI kC am y]) := by rw [hxx, hhh]; exact hD
  clear hxx hhh
  refine lv_aload_n hx0 hb dL_law_361 rfl (lv_at hl 2 rfl) ?_
  refine kMBi (As := []) (rest := [.int r1]) (q0 := 0) (ws' := fun u : (Nat → Int32) × (Nat → Int32) × Int32 × Int32 × Int32 × Int32 × Int32 × Int32 => bfl [cwX kI kB ax hh xx, cwM kI kC am (u.1, y.2.1, u.2.1, y.2.2.2.1, u.2.2.1, y.2.2.2.2.2.1, y.2.2.2.2.2.2.1, u.2.2.2.1, u.2.2.2.2.1, u.2.2.2.2.2.1, u.2.2.2.2.2.2.1, u.2.2.2.2.2.2.2, y.2.2.2.2.2.2.2.2.2.2.2.2.1, y.2.2.2.2.2.2.2.2.2.2.2.2.2)]) C (c_X9_readPile l D kI kC kB am y.1 y.2.1 y.2.2.1 y.2.2.2.1 y.2.2.2.2.1 y.2.2.2.2.2.1 y.2.2.2.2.2.2.1 y.2.2.2.2.2.2.2.1 y.2.2.2.2.2.2.2.2.1 y.2.2.2.2.2.2.2.2.2.1 y.2.2.2.2.2.2.2.2.2.2.1 y.2.2.2.2.2.2.2.2.2.2.2.1 y.2.2.2.2.2.2.2.2.2.2.2.2.1 y.2.2.2.2.2.2.2.2.2.2.2.2.2 H.size  _ hwm) ⟨rfl, rfl⟩ ce_X9_readPile cv_X9_readPile tw_855 ⟨(Nat.le_of_ble_eq_true rfl), (Nat.le_of_ble_eq_true rfl)⟩ hP hD hS hA (bfl_p1 [_, _] 1 rfl) (fun u => bfl_p1 [_, _] 1 rfl) rfl rfl rfl hl.1 rfl (Nat.le_of_ble_eq_true rfl) ⟨(Nat.le_of_ble_eq_true rfl), (Nat.le_of_ble_eq_true rfl)⟩ dL_law_362 (fun r2 u H locs hqr2 hP hD hS => ?_)
  obtain ⟨yy, hyy⟩ : ∃ z : MS, z = (u.1, y.2.1, u.2.1, y.2.2.2.1, u.2.2.1, y.2.2.2.2.2.1, y.2.2.2.2.2.2.1, u.2.2.2.1, u.2.2.2.2.1, u.2.2.2.2.2.1, u.2.2.2.2.2.2.1, u.2.2.2.2.2.2.2, y.2.2.2.2.2.2.2.2.2.2.2.2.1, y.2.2.2.2.2.2.2.2.2.2.2.2.2) := ⟨_, rfl⟩
  replace hqr2 : r2 = r ∧ MOK σ2 yy := by rw [hyy]; exact hqr2
  replace hP : va_P D vwCl (bfl [cwX kI kB ax hh xx, cwM kI kC am yy]) H := by rw [hyy]; exact hP
  replace hD : va_D (fun q : Nat => s.heap.size ≤ q) (bfl [cwX kI kB ax hh xx, cwM kI kC am yy]) := by rw [hyy]; exact hD
  refine lv_icmp_eq (tgt := 661) hx0 hb dL_law_365 (by decide) (fun hc => ?_) (fun hc => absurd (hqr1.1.trans hqr2.1.symm) hc)
  exact kn9 hh xx yy σ2 _ _ _ hqr1.2 hqr2.2 hP hD hS hl
set_option maxHeartbeats 1000000 in
set_option maxRecDepth 100000 in
theorem law_type {p : Program} {l : Launch} {e : Env} {s : State} {m : MethodId} {below : List Frame} {meth : Method} {c : Code} {D : va_G} {kI kC kB : ClassId} {b L : Nat} {xs : Nat → Int32} (C : CtxT p s m #[Value.ref b] meth c code 4 ret "QuireSignsLaw" D kI kC kB) (hX : va_X b L xs s s.heap) (hbl : b < s.heap.size) (hL : L ≤ 2048) (ax : AdT) (h_ : Nat → AdT) (am : AdT) (i : Nat) (hi : i + 4 ≤ L) (kn9 : ∀ (h2 : Nat → AdT) (x2 : XS) (y2 : MS) (σ2 : St) (H : Heap) (locs : List Loc) (ls : Array Slot), XOK σ2 x2 → MOK σ2 y2 → va_P D vwCl (bfl [cwX kI kB ax h2 x2, cwM kI kC am y2]) H → va_D (fun q : Nat => s.heap.size ≤ q) (bfl [cwX kI kB ax h2 x2, cwM kI kC am y2]) → va_S (fun q : Nat => s.heap.size ≤ q) s.heap H locs → lv_has ls 4 [(0, .ref b), (1, .ref (ax 0)), (2, .ref (am 0)), (3, .int (nI i))] → W p l e room_1 s m #[Value.ref b] below meth c H locs 83 3066 (lw_Z below #[Value.ref b] s) (F0 m 661 ls [])) (σ : St) (x : XS) (y : MS) (hx : XOK σ x) (hm : MOK σ y) : ∀ (H : Heap) (locs : List Loc) (ls : Array Slot), va_P D vwCl (bfl [cwX kI kB ax h_ x, cwM kI kC am y]) H → va_D (fun q : Nat => s.heap.size ≤ q) (bfl [cwX kI kB ax h_ x, cwM kI kC am y]) → va_S (fun q : Nat => s.heap.size ≤ q) s.heap H locs → lv_has ls 4 [(0, .ref b), (1, .ref (ax 0)), (2, .ref (am 0)), (3, .int (nI i))] → W p l e room_1 s m #[Value.ref b] below meth c H locs 83 3066 (lw_Z below #[Value.ref b] s) (F0 m 370 ls []) := by
  intro H locs ls hP hD hS hl
  obtain ⟨hx0, hb, hr, hml, hown, hts, hlocks, hK⟩ := id C
  have hA : ∀ q : Nat, s.heap.size ≤ q → (fun q : Nat => s.heap.size ≤ q) q := fun _ h => h
  have hbA : ¬ (fun q : Nat => s.heap.size ≤ q) b := Nat.not_le.mpr hbl
  obtain ⟨r, σ2, hwx, hwm⟩ := op_type σ x y hx hm (xs (nI (i + 1)).toNatClampNeg) 
  refine lv_aload_n hx0 hb dL_law_370 rfl (lv_at hl 1 rfl) ?_
  refine lv_aload_n hx0 hb dL_law_371 rfl (lv_at hl 0 rfl) ?_
  refine lv_iload_n hx0 hb dL_law_372 rfl (lv_at hl 3 rfl) ?_
  refine lv_iconst (v := nI 1) hx0 hb dL_law_373 (by decide) ?_
  refine lv_iadd hx0 hb dL_law_374 ?_
  refine lv_topi (fun z ez => ?_)
  obtain rfl : z = nI (i + 1) := by rw [ez, nI_add]
  refine va_sld hx0 hb hX hbl hbA hS (vp_in_nI (by omega) (by omega)) dL_law_375 ?_
  refine lv_i2c (v := cI (xs (nI (i + 1)).toNatClampNeg)) hx0 hb dL_law_376 rfl ?_
  refine kMBi (As := [.int (cI (xs (nI (i + 1)).toNatClampNeg))]) (rest := []) (q0 := 0) (ws' := fun u : RowT => bfl [cwX kI kB ax h_ (x.1, x.2.1, x.2.2.1, x.2.2.2.1, x.2.2.2.2.1, x.2.2.2.2.2.1, x.2.2.2.2.2.2.1, x.2.2.2.2.2.2.2.1, x.2.2.2.2.2.2.2.2.1, x.2.2.2.2.2.2.2.2.2.1, x.2.2.2.2.2.2.2.2.2.2.1, x.2.2.2.2.2.2.2.2.2.2.2.1, x.2.2.2.2.2.2.2.2.2.2.2.2.1, x.2.2.2.2.2.2.2.2.2.2.2.2.2.1, u, x.2.2.2.2.2.2.2.2.2.2.2.2.2.2.2.1, x.2.2.2.2.2.2.2.2.2.2.2.2.2.2.2.2.1, x.2.2.2.2.2.2.2.2.2.2.2.2.2.2.2.2.2.1, x.2.2.2.2.2.2.2.2.2.2.2.2.2.2.2.2.2.2.1, x.2.2.2.2.2.2.2.2.2.2.2.2.2.2.2.2.2.2.2.1, x.2.2.2.2.2.2.2.2.2.2.2.2.2.2.2.2.2.2.2.2.1, x.2.2.2.2.2.2.2.2.2.2.2.2.2.2.2.2.2.2.2.2.2.1, x.2.2.2.2.2.2.2.2.2.2.2.2.2.2.2.2.2.2.2.2.2.2), cwM kI kC am y]) C (c_X8_type l D kI kC kB ax h_ x.1 x.2.1 x.2.2.1 x.2.2.2.1 x.2.2.2.2.1 x.2.2.2.2.2.1 x.2.2.2.2.2.2.1 x.2.2.2.2.2.2.2.1 x.2.2.2.2.2.2.2.2.1 x.2.2.2.2.2.2.2.2.2.1 x.2.2.2.2.2.2.2.2.2.2.1 x.2.2.2.2.2.2.2.2.2.2.2.1 x.2.2.2.2.2.2.2.2.2.2.2.2.1 x.2.2.2.2.2.2.2.2.2.2.2.2.2.1 x.2.2.2.2.2.2.2.2.2.2.2.2.2.2.1 x.2.2.2.2.2.2.2.2.2.2.2.2.2.2.2.1 x.2.2.2.2.2.2.2.2.2.2.2.2.2.2.2.2.1 x.2.2.2.2.2.2.2.2.2.2.2.2.2.2.2.2.2.1 x.2.2.2.2.2.2.2.2.2.2.2.2.2.2.2.2.2.2.1 x.2.2.2.2.2.2.2.2.2.2.2.2.2.2.2.2.2.2.2.1 x.2.2.2.2.2.2.2.2.2.2.2.2.2.2.2.2.2.2.2.2.1 x.2.2.2.2.2.2.2.2.2.2.2.2.2.2.2.2.2.2.2.2.2.1 x.2.2.2.2.2.2.2.2.2.2.2.2.2.2.2.2.2.2.2.2.2.2 H.size (cI (xs (nI (i + 1)).toNatClampNeg)) _ hwx) ⟨rfl, rfl⟩ ce_X8_type cv_X8_type tw_523 ⟨(Nat.le_of_ble_eq_true rfl), (Nat.le_of_ble_eq_true rfl)⟩ hP hD hS hA (bfl_p1 [_, _] 0 rfl) (fun u => bfl_p1 [_, _] 0 rfl) rfl rfl rfl hl.1 rfl (Nat.le_of_ble_eq_true rfl) ⟨(Nat.le_of_ble_eq_true rfl), (Nat.le_of_ble_eq_true rfl)⟩ dL_law_377 (fun r1 u H locs hqr1 hP hD hS => ?_)
  obtain ⟨xx, hxx⟩ : ∃ z : XS, z = (x.1, x.2.1, x.2.2.1, x.2.2.2.1, x.2.2.2.2.1, x.2.2.2.2.2.1, x.2.2.2.2.2.2.1, x.2.2.2.2.2.2.2.1, x.2.2.2.2.2.2.2.2.1, x.2.2.2.2.2.2.2.2.2.1, x.2.2.2.2.2.2.2.2.2.2.1, x.2.2.2.2.2.2.2.2.2.2.2.1, x.2.2.2.2.2.2.2.2.2.2.2.2.1, x.2.2.2.2.2.2.2.2.2.2.2.2.2.1, u, x.2.2.2.2.2.2.2.2.2.2.2.2.2.2.2.1, x.2.2.2.2.2.2.2.2.2.2.2.2.2.2.2.2.1, x.2.2.2.2.2.2.2.2.2.2.2.2.2.2.2.2.2.1, x.2.2.2.2.2.2.2.2.2.2.2.2.2.2.2.2.2.2.1, x.2.2.2.2.2.2.2.2.2.2.2.2.2.2.2.2.2.2.2.1, x.2.2.2.2.2.2.2.2.2.2.2.2.2.2.2.2.2.2.2.2.1, x.2.2.2.2.2.2.2.2.2.2.2.2.2.2.2.2.2.2.2.2.2.1, x.2.2.2.2.2.2.2.2.2.2.2.2.2.2.2.2.2.2.2.2.2.2) := ⟨_, rfl⟩
  obtain ⟨hh, hhh⟩ : ∃ z : Nat → AdT, z = h_ := ⟨_, rfl⟩
  replace hqr1 : r1 = r ∧ XOK σ2 xx := by rw [hxx]; exact hqr1
  replace hP : va_P D vwCl (bfl [cwX kI kB ax hh xx, cwM kI kC am y]) H := by rw [hxx, hhh]; exact hP
  replace hD : va_D (fun q : Nat => s.heap.size ≤ q) (bfl [cwX kI kB ax hh xx, cwM kI kC am y]) := by rw [hxx, hhh]; exact hD
  clear hxx hhh
  refine lv_aload_n hx0 hb dL_law_380 rfl (lv_at hl 2 rfl) ?_
  refine lv_aload_n hx0 hb dL_law_381 rfl (lv_at hl 0 rfl) ?_
  refine lv_iload_n hx0 hb dL_law_382 rfl (lv_at hl 3 rfl) ?_
  refine lv_iconst (v := nI 1) hx0 hb dL_law_383 (by decide) ?_
  refine lv_iadd hx0 hb dL_law_384 ?_
  refine lv_topi (fun z ez => ?_)
  obtain rfl : z = nI (i + 1) := by rw [ez, nI_add]
  refine va_sld hx0 hb hX hbl hbA hS (vp_in_nI (by omega) (by omega)) dL_law_385 ?_
  refine lv_i2c (v := cI (xs (nI (i + 1)).toNatClampNeg)) hx0 hb dL_law_386 rfl ?_
  refine kMBi (As := [.int (cI (xs (nI (i + 1)).toNatClampNeg))]) (rest := [.int r1]) (q0 := 0) (ws' := fun u : (Nat → Int32) × Int32 => bfl [cwX kI kB ax hh xx, cwM kI kC am (y.1, u.1, y.2.2.1, y.2.2.2.1, y.2.2.2.2.1, y.2.2.2.2.2.1, u.2, y.2.2.2.2.2.2.2.1, y.2.2.2.2.2.2.2.2.1, y.2.2.2.2.2.2.2.2.2.1, y.2.2.2.2.2.2.2.2.2.2.1, y.2.2.2.2.2.2.2.2.2.2.2.1, y.2.2.2.2.2.2.2.2.2.2.2.2.1, y.2.2.2.2.2.2.2.2.2.2.2.2.2)]) C (c_X9_type l D kI kC kB am y.1 y.2.1 y.2.2.1 y.2.2.2.1 y.2.2.2.2.1 y.2.2.2.2.2.1 y.2.2.2.2.2.2.1 y.2.2.2.2.2.2.2.1 y.2.2.2.2.2.2.2.2.1 y.2.2.2.2.2.2.2.2.2.1 y.2.2.2.2.2.2.2.2.2.2.1 y.2.2.2.2.2.2.2.2.2.2.2.1 y.2.2.2.2.2.2.2.2.2.2.2.2.1 y.2.2.2.2.2.2.2.2.2.2.2.2.2 H.size (cI (xs (nI (i + 1)).toNatClampNeg)) _ hwm) ⟨rfl, rfl⟩ ce_X9_type cv_X9_type tw_863 ⟨(Nat.le_of_ble_eq_true rfl), (Nat.le_of_ble_eq_true rfl)⟩ hP hD hS hA (bfl_p1 [_, _] 1 rfl) (fun u => bfl_p1 [_, _] 1 rfl) rfl rfl rfl hl.1 rfl (Nat.le_of_ble_eq_true rfl) ⟨(Nat.le_of_ble_eq_true rfl), (Nat.le_of_ble_eq_true rfl)⟩ dL_law_387 (fun r2 u H locs hqr2 hP hD hS => ?_)
  obtain ⟨yy, hyy⟩ : ∃ z : MS, z = (y.1, u.1, y.2.2.1, y.2.2.2.1, y.2.2.2.2.1, y.2.2.2.2.2.1, u.2, y.2.2.2.2.2.2.2.1, y.2.2.2.2.2.2.2.2.1, y.2.2.2.2.2.2.2.2.2.1, y.2.2.2.2.2.2.2.2.2.2.1, y.2.2.2.2.2.2.2.2.2.2.2.1, y.2.2.2.2.2.2.2.2.2.2.2.2.1, y.2.2.2.2.2.2.2.2.2.2.2.2.2) := ⟨_, rfl⟩
  replace hqr2 : r2 = r ∧ MOK σ2 yy := by rw [hyy]; exact hqr2
  replace hP : va_P D vwCl (bfl [cwX kI kB ax hh xx, cwM kI kC am yy]) H := by rw [hyy]; exact hP
  replace hD : va_D (fun q : Nat => s.heap.size ≤ q) (bfl [cwX kI kB ax hh xx, cwM kI kC am yy]) := by rw [hyy]; exact hD
  refine lv_icmp_eq (tgt := 661) hx0 hb dL_law_390 (by decide) (fun hc => ?_) (fun hc => absurd (hqr1.1.trans hqr2.1.symm) hc)
  exact kn9 hh xx yy σ2 _ _ _ hqr1.2 hqr2.2 hP hD hS hl
set_option maxHeartbeats 1000000 in
set_option maxRecDepth 100000 in
theorem law_clearText {p : Program} {l : Launch} {e : Env} {s : State} {m : MethodId} {below : List Frame} {meth : Method} {c : Code} {D : va_G} {kI kC kB : ClassId} {b L : Nat} {xs : Nat → Int32} (C : CtxT p s m #[Value.ref b] meth c code 4 ret "QuireSignsLaw" D kI kC kB) (hX : va_X b L xs s s.heap) (hbl : b < s.heap.size) (hL : L ≤ 2048) (ax : AdT) (h_ : Nat → AdT) (am : AdT) (i : Nat) (hi : i + 4 ≤ L) (kn9 : ∀ (h2 : Nat → AdT) (x2 : XS) (y2 : MS) (σ2 : St) (H : Heap) (locs : List Loc) (ls : Array Slot), XOK σ2 x2 → MOK σ2 y2 → va_P D vwCl (bfl [cwX kI kB ax h2 x2, cwM kI kC am y2]) H → va_D (fun q : Nat => s.heap.size ≤ q) (bfl [cwX kI kB ax h2 x2, cwM kI kC am y2]) → va_S (fun q : Nat => s.heap.size ≤ q) s.heap H locs → lv_has ls 4 [(0, .ref b), (1, .ref (ax 0)), (2, .ref (am 0)), (3, .int (nI i))] → W p l e room_1 s m #[Value.ref b] below meth c H locs 83 3066 (lw_Z below #[Value.ref b] s) (F0 m 661 ls [])) (σ : St) (x : XS) (y : MS) (hx : XOK σ x) (hm : MOK σ y) : ∀ (H : Heap) (locs : List Loc) (ls : Array Slot), va_P D vwCl (bfl [cwX kI kB ax h_ x, cwM kI kC am y]) H → va_D (fun q : Nat => s.heap.size ≤ q) (bfl [cwX kI kB ax h_ x, cwM kI kC am y]) → va_S (fun q : Nat => s.heap.size ≤ q) s.heap H locs → lv_has ls 4 [(0, .ref b), (1, .ref (ax 0)), (2, .ref (am 0)), (3, .int (nI i))] → W p l e room_1 s m #[Value.ref b] below meth c H locs 83 3066 (lw_Z below #[Value.ref b] s) (F0 m 395 ls []) := by
  intro H locs ls hP hD hS hl
  obtain ⟨hx0, hb, hr, hml, hown, hts, hlocks, hK⟩ := id C
  have hA : ∀ q : Nat, s.heap.size ≤ q → (fun q : Nat => s.heap.size ≤ q) q := fun _ h => h
  have hbA : ¬ (fun q : Nat => s.heap.size ≤ q) b := Nat.not_le.mpr hbl
  obtain ⟨r, σ2, hwx, hwm⟩ := op_clearText σ x y hx hm 
  refine lv_aload_n hx0 hb dL_law_395 rfl (lv_at hl 1 rfl) ?_
  refine kMBi (As := []) (rest := []) (q0 := 0) (ws' := fun u : RowT => bfl [cwX kI kB ax h_ (x.1, x.2.1, x.2.2.1, x.2.2.2.1, x.2.2.2.2.1, x.2.2.2.2.2.1, x.2.2.2.2.2.2.1, x.2.2.2.2.2.2.2.1, x.2.2.2.2.2.2.2.2.1, x.2.2.2.2.2.2.2.2.2.1, x.2.2.2.2.2.2.2.2.2.2.1, x.2.2.2.2.2.2.2.2.2.2.2.1, x.2.2.2.2.2.2.2.2.2.2.2.2.1, x.2.2.2.2.2.2.2.2.2.2.2.2.2.1, u, x.2.2.2.2.2.2.2.2.2.2.2.2.2.2.2.1, x.2.2.2.2.2.2.2.2.2.2.2.2.2.2.2.2.1, x.2.2.2.2.2.2.2.2.2.2.2.2.2.2.2.2.2.1, x.2.2.2.2.2.2.2.2.2.2.2.2.2.2.2.2.2.2.1, x.2.2.2.2.2.2.2.2.2.2.2.2.2.2.2.2.2.2.2.1, x.2.2.2.2.2.2.2.2.2.2.2.2.2.2.2.2.2.2.2.2.1, x.2.2.2.2.2.2.2.2.2.2.2.2.2.2.2.2.2.2.2.2.2.1, x.2.2.2.2.2.2.2.2.2.2.2.2.2.2.2.2.2.2.2.2.2.2), cwM kI kC am y]) C (c_X8_clearText l D kI kC kB ax h_ x.1 x.2.1 x.2.2.1 x.2.2.2.1 x.2.2.2.2.1 x.2.2.2.2.2.1 x.2.2.2.2.2.2.1 x.2.2.2.2.2.2.2.1 x.2.2.2.2.2.2.2.2.1 x.2.2.2.2.2.2.2.2.2.1 x.2.2.2.2.2.2.2.2.2.2.1 x.2.2.2.2.2.2.2.2.2.2.2.1 x.2.2.2.2.2.2.2.2.2.2.2.2.1 x.2.2.2.2.2.2.2.2.2.2.2.2.2.1 x.2.2.2.2.2.2.2.2.2.2.2.2.2.2.1 x.2.2.2.2.2.2.2.2.2.2.2.2.2.2.2.1 x.2.2.2.2.2.2.2.2.2.2.2.2.2.2.2.2.1 x.2.2.2.2.2.2.2.2.2.2.2.2.2.2.2.2.2.1 x.2.2.2.2.2.2.2.2.2.2.2.2.2.2.2.2.2.2.1 x.2.2.2.2.2.2.2.2.2.2.2.2.2.2.2.2.2.2.2.1 x.2.2.2.2.2.2.2.2.2.2.2.2.2.2.2.2.2.2.2.2.1 x.2.2.2.2.2.2.2.2.2.2.2.2.2.2.2.2.2.2.2.2.2.1 x.2.2.2.2.2.2.2.2.2.2.2.2.2.2.2.2.2.2.2.2.2.2 H.size  _ hwx) ⟨rfl, rfl⟩ ce_X8_clearText cv_X8_clearText tw_535 ⟨(Nat.le_of_ble_eq_true rfl), (Nat.le_of_ble_eq_true rfl)⟩ hP hD hS hA (bfl_p1 [_, _] 0 rfl) (fun u => bfl_p1 [_, _] 0 rfl) rfl rfl rfl hl.1 rfl (Nat.le_of_ble_eq_true rfl) ⟨(Nat.le_of_ble_eq_true rfl), (Nat.le_of_ble_eq_true rfl)⟩ dL_law_396 (fun r1 u H locs hqr1 hP hD hS => ?_)
  obtain ⟨xx, hxx⟩ : ∃ z : XS, z = (x.1, x.2.1, x.2.2.1, x.2.2.2.1, x.2.2.2.2.1, x.2.2.2.2.2.1, x.2.2.2.2.2.2.1, x.2.2.2.2.2.2.2.1, x.2.2.2.2.2.2.2.2.1, x.2.2.2.2.2.2.2.2.2.1, x.2.2.2.2.2.2.2.2.2.2.1, x.2.2.2.2.2.2.2.2.2.2.2.1, x.2.2.2.2.2.2.2.2.2.2.2.2.1, x.2.2.2.2.2.2.2.2.2.2.2.2.2.1, u, x.2.2.2.2.2.2.2.2.2.2.2.2.2.2.2.1, x.2.2.2.2.2.2.2.2.2.2.2.2.2.2.2.2.1, x.2.2.2.2.2.2.2.2.2.2.2.2.2.2.2.2.2.1, x.2.2.2.2.2.2.2.2.2.2.2.2.2.2.2.2.2.2.1, x.2.2.2.2.2.2.2.2.2.2.2.2.2.2.2.2.2.2.2.1, x.2.2.2.2.2.2.2.2.2.2.2.2.2.2.2.2.2.2.2.2.1, x.2.2.2.2.2.2.2.2.2.2.2.2.2.2.2.2.2.2.2.2.2.1, x.2.2.2.2.2.2.2.2.2.2.2.2.2.2.2.2.2.2.2.2.2.2) := ⟨_, rfl⟩
  obtain ⟨hh, hhh⟩ : ∃ z : Nat → AdT, z = h_ := ⟨_, rfl⟩
  replace hqr1 : r1 = r ∧ XOK σ2 xx := by rw [hxx]; exact hqr1
  replace hP : va_P D vwCl (bfl [cwX kI kB ax hh xx, cwM kI kC am y]) H := by rw [hxx, hhh]; exact hP
  replace hD : va_D (fun q : Nat => s.heap.size ≤ q) (bfl [cwX kI kB ax hh xx, cwM kI kC am y]) := by rw [hxx, hhh]; exact hD
  clear hxx hhh
  refine lv_aload_n hx0 hb dL_law_399 rfl (lv_at hl 2 rfl) ?_
  refine kMBi (As := []) (rest := [.int r1]) (q0 := 0) (ws' := fun u : Int32 => bfl [cwX kI kB ax hh xx, cwM kI kC am (y.1, y.2.1, y.2.2.1, y.2.2.2.1, y.2.2.2.2.1, y.2.2.2.2.2.1, u, y.2.2.2.2.2.2.2.1, y.2.2.2.2.2.2.2.2.1, y.2.2.2.2.2.2.2.2.2.1, y.2.2.2.2.2.2.2.2.2.2.1, y.2.2.2.2.2.2.2.2.2.2.2.1, y.2.2.2.2.2.2.2.2.2.2.2.2.1, y.2.2.2.2.2.2.2.2.2.2.2.2.2)]) C (c_X9_clearText l D kI kC kB am y.1 y.2.1 y.2.2.1 y.2.2.2.1 y.2.2.2.2.1 y.2.2.2.2.2.1 y.2.2.2.2.2.2.1 y.2.2.2.2.2.2.2.1 y.2.2.2.2.2.2.2.2.1 y.2.2.2.2.2.2.2.2.2.1 y.2.2.2.2.2.2.2.2.2.2.1 y.2.2.2.2.2.2.2.2.2.2.2.1 y.2.2.2.2.2.2.2.2.2.2.2.2.1 y.2.2.2.2.2.2.2.2.2.2.2.2.2 H.size  _ hwm) ⟨rfl, rfl⟩ ce_X9_clearText cv_X9_clearText tw_867 ⟨(Nat.le_of_ble_eq_true rfl), (Nat.le_of_ble_eq_true rfl)⟩ hP hD hS hA (bfl_p1 [_, _] 1 rfl) (fun u => bfl_p1 [_, _] 1 rfl) rfl rfl rfl hl.1 rfl (Nat.le_of_ble_eq_true rfl) ⟨(Nat.le_of_ble_eq_true rfl), (Nat.le_of_ble_eq_true rfl)⟩ dL_law_400 (fun r2 u H locs hqr2 hP hD hS => ?_)
  obtain ⟨yy, hyy⟩ : ∃ z : MS, z = (y.1, y.2.1, y.2.2.1, y.2.2.2.1, y.2.2.2.2.1, y.2.2.2.2.2.1, u, y.2.2.2.2.2.2.2.1, y.2.2.2.2.2.2.2.2.1, y.2.2.2.2.2.2.2.2.2.1, y.2.2.2.2.2.2.2.2.2.2.1, y.2.2.2.2.2.2.2.2.2.2.2.1, y.2.2.2.2.2.2.2.2.2.2.2.2.1, y.2.2.2.2.2.2.2.2.2.2.2.2.2) := ⟨_, rfl⟩
  replace hqr2 : r2 = r ∧ MOK σ2 yy := by rw [hyy]; exact hqr2
  replace hP : va_P D vwCl (bfl [cwX kI kB ax hh xx, cwM kI kC am yy]) H := by rw [hyy]; exact hP
  replace hD : va_D (fun q : Nat => s.heap.size ≤ q) (bfl [cwX kI kB ax hh xx, cwM kI kC am yy]) := by rw [hyy]; exact hD
  refine lv_icmp_eq (tgt := 661) hx0 hb dL_law_403 (by decide) (fun hc => ?_) (fun hc => absurd (hqr1.1.trans hqr2.1.symm) hc)
  exact kn9 hh xx yy σ2 _ _ _ hqr1.2 hqr2.2 hP hD hS hl
set_option maxHeartbeats 1000000 in
set_option maxRecDepth 100000 in
theorem law_undo {p : Program} {l : Launch} {e : Env} {s : State} {m : MethodId} {below : List Frame} {meth : Method} {c : Code} {D : va_G} {kI kC kB : ClassId} {b L : Nat} {xs : Nat → Int32} (C : CtxT p s m #[Value.ref b] meth c code 4 ret "QuireSignsLaw" D kI kC kB) (hX : va_X b L xs s s.heap) (hbl : b < s.heap.size) (hL : L ≤ 2048) (ax : AdT) (h_ : Nat → AdT) (am : AdT) (i : Nat) (hi : i + 4 ≤ L) (kn9 : ∀ (h2 : Nat → AdT) (x2 : XS) (y2 : MS) (σ2 : St) (H : Heap) (locs : List Loc) (ls : Array Slot), XOK σ2 x2 → MOK σ2 y2 → va_P D vwCl (bfl [cwX kI kB ax h2 x2, cwM kI kC am y2]) H → va_D (fun q : Nat => s.heap.size ≤ q) (bfl [cwX kI kB ax h2 x2, cwM kI kC am y2]) → va_S (fun q : Nat => s.heap.size ≤ q) s.heap H locs → lv_has ls 4 [(0, .ref b), (1, .ref (ax 0)), (2, .ref (am 0)), (3, .int (nI i))] → W p l e room_1 s m #[Value.ref b] below meth c H locs 83 3066 (lw_Z below #[Value.ref b] s) (F0 m 661 ls [])) (σ : St) (x : XS) (y : MS) (hx : XOK σ x) (hm : MOK σ y) : ∀ (H : Heap) (locs : List Loc) (ls : Array Slot), va_P D vwCl (bfl [cwX kI kB ax h_ x, cwM kI kC am y]) H → va_D (fun q : Nat => s.heap.size ≤ q) (bfl [cwX kI kB ax h_ x, cwM kI kC am y]) → va_S (fun q : Nat => s.heap.size ≤ q) s.heap H locs → lv_has ls 4 [(0, .ref b), (1, .ref (ax 0)), (2, .ref (am 0)), (3, .int (nI i))] → W p l e room_1 s m #[Value.ref b] below meth c H locs 83 3066 (lw_Z below #[Value.ref b] s) (F0 m 408 ls []) := by
  intro H locs ls hP hD hS hl
  obtain ⟨hx0, hb, hr, hml, hown, hts, hlocks, hK⟩ := id C
  have hA : ∀ q : Nat, s.heap.size ≤ q → (fun q : Nat => s.heap.size ≤ q) q := fun _ h => h
  have hbA : ¬ (fun q : Nat => s.heap.size ≤ q) b := Nat.not_le.mpr hbl
  obtain ⟨r, σ2, hwx, hwm⟩ := op_undo σ x y hx hm 
  refine lv_aload_n hx0 hb dL_law_408 rfl (lv_at hl 1 rfl) ?_
  refine kMBi (As := []) (rest := []) (q0 := 0) (ws' := fun u : Int32 × Int32 × RowT × RowT × RowT × RowT × HistT => bfl [cwX kI kB ax h_ (x.1, u.1, u.2.1, u.2.2.1, u.2.2.2.1, u.2.2.2.2.1, u.2.2.2.2.2.1, x.2.2.2.2.2.2.2.1, x.2.2.2.2.2.2.2.2.1, x.2.2.2.2.2.2.2.2.2.1, x.2.2.2.2.2.2.2.2.2.2.1, x.2.2.2.2.2.2.2.2.2.2.2.1, x.2.2.2.2.2.2.2.2.2.2.2.2.1, u.2.2.2.2.2.2, x.2.2.2.2.2.2.2.2.2.2.2.2.2.2.1, x.2.2.2.2.2.2.2.2.2.2.2.2.2.2.2.1, x.2.2.2.2.2.2.2.2.2.2.2.2.2.2.2.2.1, x.2.2.2.2.2.2.2.2.2.2.2.2.2.2.2.2.2.1, x.2.2.2.2.2.2.2.2.2.2.2.2.2.2.2.2.2.2.1, x.2.2.2.2.2.2.2.2.2.2.2.2.2.2.2.2.2.2.2.1, x.2.2.2.2.2.2.2.2.2.2.2.2.2.2.2.2.2.2.2.2.1, x.2.2.2.2.2.2.2.2.2.2.2.2.2.2.2.2.2.2.2.2.2.1, x.2.2.2.2.2.2.2.2.2.2.2.2.2.2.2.2.2.2.2.2.2.2), cwM kI kC am y]) C (c_X8_undo l D kI kC kB ax h_ x.1 x.2.1 x.2.2.1 x.2.2.2.1 x.2.2.2.2.1 x.2.2.2.2.2.1 x.2.2.2.2.2.2.1 x.2.2.2.2.2.2.2.1 x.2.2.2.2.2.2.2.2.1 x.2.2.2.2.2.2.2.2.2.1 x.2.2.2.2.2.2.2.2.2.2.1 x.2.2.2.2.2.2.2.2.2.2.2.1 x.2.2.2.2.2.2.2.2.2.2.2.2.1 x.2.2.2.2.2.2.2.2.2.2.2.2.2.1 x.2.2.2.2.2.2.2.2.2.2.2.2.2.2.1 x.2.2.2.2.2.2.2.2.2.2.2.2.2.2.2.1 x.2.2.2.2.2.2.2.2.2.2.2.2.2.2.2.2.1 x.2.2.2.2.2.2.2.2.2.2.2.2.2.2.2.2.2.1 x.2.2.2.2.2.2.2.2.2.2.2.2.2.2.2.2.2.2.1 x.2.2.2.2.2.2.2.2.2.2.2.2.2.2.2.2.2.2.2.1 x.2.2.2.2.2.2.2.2.2.2.2.2.2.2.2.2.2.2.2.2.1 x.2.2.2.2.2.2.2.2.2.2.2.2.2.2.2.2.2.2.2.2.2.1 x.2.2.2.2.2.2.2.2.2.2.2.2.2.2.2.2.2.2.2.2.2.2 H.size  _ hwx) ⟨rfl, rfl⟩ ce_X8_undo cv_X8_undo tw_543 ⟨(Nat.le_of_ble_eq_true rfl), (Nat.le_of_ble_eq_true rfl)⟩ hP hD hS hA (bfl_p1 [_, _] 0 rfl) (fun u => bfl_p1 [_, _] 0 rfl) rfl rfl rfl hl.1 rfl (Nat.le_of_ble_eq_true rfl) ⟨(Nat.le_of_ble_eq_true rfl), (Nat.le_of_ble_eq_true rfl)⟩ dL_law_409 (fun r1 u H locs hqr1 hP hD hS => ?_)
  obtain ⟨xx, hxx⟩ : ∃ z : XS, z = (x.1, u.1, u.2.1, u.2.2.1, u.2.2.2.1, u.2.2.2.2.1, u.2.2.2.2.2.1, x.2.2.2.2.2.2.2.1, x.2.2.2.2.2.2.2.2.1, x.2.2.2.2.2.2.2.2.2.1, x.2.2.2.2.2.2.2.2.2.2.1, x.2.2.2.2.2.2.2.2.2.2.2.1, x.2.2.2.2.2.2.2.2.2.2.2.2.1, u.2.2.2.2.2.2, x.2.2.2.2.2.2.2.2.2.2.2.2.2.2.1, x.2.2.2.2.2.2.2.2.2.2.2.2.2.2.2.1, x.2.2.2.2.2.2.2.2.2.2.2.2.2.2.2.2.1, x.2.2.2.2.2.2.2.2.2.2.2.2.2.2.2.2.2.1, x.2.2.2.2.2.2.2.2.2.2.2.2.2.2.2.2.2.2.1, x.2.2.2.2.2.2.2.2.2.2.2.2.2.2.2.2.2.2.2.1, x.2.2.2.2.2.2.2.2.2.2.2.2.2.2.2.2.2.2.2.2.1, x.2.2.2.2.2.2.2.2.2.2.2.2.2.2.2.2.2.2.2.2.2.1, x.2.2.2.2.2.2.2.2.2.2.2.2.2.2.2.2.2.2.2.2.2.2) := ⟨_, rfl⟩
  obtain ⟨hh, hhh⟩ : ∃ z : Nat → AdT, z = h_ := ⟨_, rfl⟩
  replace hqr1 : r1 = r ∧ XOK σ2 xx := by rw [hxx]; exact hqr1
  replace hP : va_P D vwCl (bfl [cwX kI kB ax hh xx, cwM kI kC am y]) H := by rw [hxx, hhh]; exact hP
  replace hD : va_D (fun q : Nat => s.heap.size ≤ q) (bfl [cwX kI kB ax hh xx, cwM kI kC am y]) := by rw [hxx, hhh]; exact hD
  clear hxx hhh
  refine lv_aload_n hx0 hb dL_law_412 rfl (lv_at hl 2 rfl) ?_
  refine kMBi (As := []) (rest := [.int r1]) (q0 := 0) (ws' := fun u : (Nat → Int32) × Int32 => bfl [cwX kI kB ax hh xx, cwM kI kC am (u.1, y.2.1, y.2.2.1, y.2.2.2.1, u.2, y.2.2.2.2.2.1, y.2.2.2.2.2.2.1, y.2.2.2.2.2.2.2.1, y.2.2.2.2.2.2.2.2.1, y.2.2.2.2.2.2.2.2.2.1, y.2.2.2.2.2.2.2.2.2.2.1, y.2.2.2.2.2.2.2.2.2.2.2.1, y.2.2.2.2.2.2.2.2.2.2.2.2.1, y.2.2.2.2.2.2.2.2.2.2.2.2.2)]) C (c_X9_undo l D kI kC kB am y.1 y.2.1 y.2.2.1 y.2.2.2.1 y.2.2.2.2.1 y.2.2.2.2.2.1 y.2.2.2.2.2.2.1 y.2.2.2.2.2.2.2.1 y.2.2.2.2.2.2.2.2.1 y.2.2.2.2.2.2.2.2.2.1 y.2.2.2.2.2.2.2.2.2.2.1 y.2.2.2.2.2.2.2.2.2.2.2.1 y.2.2.2.2.2.2.2.2.2.2.2.2.1 y.2.2.2.2.2.2.2.2.2.2.2.2.2 H.size  _ hwm) ⟨rfl, rfl⟩ ce_X9_undo cv_X9_undo tw_871 ⟨(Nat.le_of_ble_eq_true rfl), (Nat.le_of_ble_eq_true rfl)⟩ hP hD hS hA (bfl_p1 [_, _] 1 rfl) (fun u => bfl_p1 [_, _] 1 rfl) rfl rfl rfl hl.1 rfl (Nat.le_of_ble_eq_true rfl) ⟨(Nat.le_of_ble_eq_true rfl), (Nat.le_of_ble_eq_true rfl)⟩ dL_law_413 (fun r2 u H locs hqr2 hP hD hS => ?_)
  obtain ⟨yy, hyy⟩ : ∃ z : MS, z = (u.1, y.2.1, y.2.2.1, y.2.2.2.1, u.2, y.2.2.2.2.2.1, y.2.2.2.2.2.2.1, y.2.2.2.2.2.2.2.1, y.2.2.2.2.2.2.2.2.1, y.2.2.2.2.2.2.2.2.2.1, y.2.2.2.2.2.2.2.2.2.2.1, y.2.2.2.2.2.2.2.2.2.2.2.1, y.2.2.2.2.2.2.2.2.2.2.2.2.1, y.2.2.2.2.2.2.2.2.2.2.2.2.2) := ⟨_, rfl⟩
  replace hqr2 : r2 = r ∧ MOK σ2 yy := by rw [hyy]; exact hqr2
  replace hP : va_P D vwCl (bfl [cwX kI kB ax hh xx, cwM kI kC am yy]) H := by rw [hyy]; exact hP
  replace hD : va_D (fun q : Nat => s.heap.size ≤ q) (bfl [cwX kI kB ax hh xx, cwM kI kC am yy]) := by rw [hyy]; exact hD
  refine lv_icmp_eq (tgt := 661) hx0 hb dL_law_416 (by decide) (fun hc => ?_) (fun hc => absurd (hqr1.1.trans hqr2.1.symm) hc)
  exact kn9 hh xx yy σ2 _ _ _ hqr1.2 hqr2.2 hP hD hS hl
set_option maxHeartbeats 1000000 in
set_option maxRecDepth 100000 in
theorem law_keep {p : Program} {l : Launch} {e : Env} {s : State} {m : MethodId} {below : List Frame} {meth : Method} {c : Code} {D : va_G} {kI kC kB : ClassId} {b L : Nat} {xs : Nat → Int32} (C : CtxT p s m #[Value.ref b] meth c code 4 ret "QuireSignsLaw" D kI kC kB) (hX : va_X b L xs s s.heap) (hbl : b < s.heap.size) (hL : L ≤ 2048) (ax : AdT) (h_ : Nat → AdT) (am : AdT) (i : Nat) (hi : i + 4 ≤ L) (kn9 : ∀ (h2 : Nat → AdT) (x2 : XS) (y2 : MS) (σ2 : St) (H : Heap) (locs : List Loc) (ls : Array Slot), XOK σ2 x2 → MOK σ2 y2 → va_P D vwCl (bfl [cwX kI kB ax h2 x2, cwM kI kC am y2]) H → va_D (fun q : Nat => s.heap.size ≤ q) (bfl [cwX kI kB ax h2 x2, cwM kI kC am y2]) → va_S (fun q : Nat => s.heap.size ≤ q) s.heap H locs → lv_has ls 4 [(0, .ref b), (1, .ref (ax 0)), (2, .ref (am 0)), (3, .int (nI i))] → W p l e room_1 s m #[Value.ref b] below meth c H locs 83 3066 (lw_Z below #[Value.ref b] s) (F0 m 661 ls [])) (σ : St) (x : XS) (y : MS) (hx : XOK σ x) (hm : MOK σ y) : ∀ (H : Heap) (locs : List Loc) (ls : Array Slot), va_P D vwCl (bfl [cwX kI kB ax h_ x, cwM kI kC am y]) H → va_D (fun q : Nat => s.heap.size ≤ q) (bfl [cwX kI kB ax h_ x, cwM kI kC am y]) → va_S (fun q : Nat => s.heap.size ≤ q) s.heap H locs → lv_has ls 4 [(0, .ref b), (1, .ref (ax 0)), (2, .ref (am 0)), (3, .int (nI i))] → W p l e room_1 s m #[Value.ref b] below meth c H locs 83 3066 (lw_Z below #[Value.ref b] s) (F0 m 421 ls []) := by
  intro H locs ls hP hD hS hl
  obtain ⟨hx0, hb, hr, hml, hown, hts, hlocks, hK⟩ := id C
  have hA : ∀ q : Nat, s.heap.size ≤ q → (fun q : Nat => s.heap.size ≤ q) q := fun _ h => h
  have hbA : ¬ (fun q : Nat => s.heap.size ≤ q) b := Nat.not_le.mpr hbl
  obtain ⟨r, σ2, hwx, hwm⟩ := op_keep σ x y hx hm 
  refine lv_aload_n hx0 hb dL_law_421 rfl (lv_at hl 1 rfl) ?_
  refine kMBi (As := []) (rest := []) (q0 := 0) (ws' := fun u : Int32 × Int32 × Int32 × RowT × RowT × RowT × RowT => bfl [cwX kI kB ax h_ (u.1, x.2.1, x.2.2.1, x.2.2.2.1, x.2.2.2.2.1, x.2.2.2.2.2.1, x.2.2.2.2.2.2.1, u.2.1, u.2.2.1, u.2.2.2.1, u.2.2.2.2.1, u.2.2.2.2.2.1, u.2.2.2.2.2.2, x.2.2.2.2.2.2.2.2.2.2.2.2.2.1, x.2.2.2.2.2.2.2.2.2.2.2.2.2.2.1, x.2.2.2.2.2.2.2.2.2.2.2.2.2.2.2.1, x.2.2.2.2.2.2.2.2.2.2.2.2.2.2.2.2.1, x.2.2.2.2.2.2.2.2.2.2.2.2.2.2.2.2.2.1, x.2.2.2.2.2.2.2.2.2.2.2.2.2.2.2.2.2.2.1, x.2.2.2.2.2.2.2.2.2.2.2.2.2.2.2.2.2.2.2.1, x.2.2.2.2.2.2.2.2.2.2.2.2.2.2.2.2.2.2.2.2.1, x.2.2.2.2.2.2.2.2.2.2.2.2.2.2.2.2.2.2.2.2.2.1, x.2.2.2.2.2.2.2.2.2.2.2.2.2.2.2.2.2.2.2.2.2.2), cwM kI kC am y]) C (c_X8_keep l D kI kC kB ax h_ x.1 x.2.1 x.2.2.1 x.2.2.2.1 x.2.2.2.2.1 x.2.2.2.2.2.1 x.2.2.2.2.2.2.1 x.2.2.2.2.2.2.2.1 x.2.2.2.2.2.2.2.2.1 x.2.2.2.2.2.2.2.2.2.1 x.2.2.2.2.2.2.2.2.2.2.1 x.2.2.2.2.2.2.2.2.2.2.2.1 x.2.2.2.2.2.2.2.2.2.2.2.2.1 x.2.2.2.2.2.2.2.2.2.2.2.2.2.1 x.2.2.2.2.2.2.2.2.2.2.2.2.2.2.1 x.2.2.2.2.2.2.2.2.2.2.2.2.2.2.2.1 x.2.2.2.2.2.2.2.2.2.2.2.2.2.2.2.2.1 x.2.2.2.2.2.2.2.2.2.2.2.2.2.2.2.2.2.1 x.2.2.2.2.2.2.2.2.2.2.2.2.2.2.2.2.2.2.1 x.2.2.2.2.2.2.2.2.2.2.2.2.2.2.2.2.2.2.2.1 x.2.2.2.2.2.2.2.2.2.2.2.2.2.2.2.2.2.2.2.2.1 x.2.2.2.2.2.2.2.2.2.2.2.2.2.2.2.2.2.2.2.2.2.1 x.2.2.2.2.2.2.2.2.2.2.2.2.2.2.2.2.2.2.2.2.2.2 H.size  _ hwx) ⟨rfl, rfl⟩ ce_X8_keep cv_X8_keep tw_555 ⟨(Nat.le_of_ble_eq_true rfl), (Nat.le_of_ble_eq_true rfl)⟩ hP hD hS hA (bfl_p1 [_, _] 0 rfl) (fun u => bfl_p1 [_, _] 0 rfl) rfl rfl rfl hl.1 rfl (Nat.le_of_ble_eq_true rfl) ⟨(Nat.le_of_ble_eq_true rfl), (Nat.le_of_ble_eq_true rfl)⟩ dL_law_422 (fun r1 u H locs hqr1 hP hD hS => ?_)
  obtain ⟨xx, hxx⟩ : ∃ z : XS, z = (u.1, x.2.1, x.2.2.1, x.2.2.2.1, x.2.2.2.2.1, x.2.2.2.2.2.1, x.2.2.2.2.2.2.1, u.2.1, u.2.2.1, u.2.2.2.1, u.2.2.2.2.1, u.2.2.2.2.2.1, u.2.2.2.2.2.2, x.2.2.2.2.2.2.2.2.2.2.2.2.2.1, x.2.2.2.2.2.2.2.2.2.2.2.2.2.2.1, x.2.2.2.2.2.2.2.2.2.2.2.2.2.2.2.1, x.2.2.2.2.2.2.2.2.2.2.2.2.2.2.2.2.1, x.2.2.2.2.2.2.2.2.2.2.2.2.2.2.2.2.2.1, x.2.2.2.2.2.2.2.2.2.2.2.2.2.2.2.2.2.2.1, x.2.2.2.2.2.2.2.2.2.2.2.2.2.2.2.2.2.2.2.1, x.2.2.2.2.2.2.2.2.2.2.2.2.2.2.2.2.2.2.2.2.1, x.2.2.2.2.2.2.2.2.2.2.2.2.2.2.2.2.2.2.2.2.2.1, x.2.2.2.2.2.2.2.2.2.2.2.2.2.2.2.2.2.2.2.2.2.2) := ⟨_, rfl⟩
  obtain ⟨hh, hhh⟩ : ∃ z : Nat → AdT, z = h_ := ⟨_, rfl⟩
  replace hqr1 : r1 = r ∧ XOK σ2 xx := by rw [hxx]; exact hqr1
  replace hP : va_P D vwCl (bfl [cwX kI kB ax hh xx, cwM kI kC am y]) H := by rw [hxx, hhh]; exact hP
  replace hD : va_D (fun q : Nat => s.heap.size ≤ q) (bfl [cwX kI kB ax hh xx, cwM kI kC am y]) := by rw [hxx, hhh]; exact hD
  clear hxx hhh
  refine lv_aload_n hx0 hb dL_law_425 rfl (lv_at hl 2 rfl) ?_
  refine kMBi (As := []) (rest := [.int r1]) (q0 := 0) (ws' := fun u : (Nat → Int32) × Int32 => bfl [cwX kI kB ax hh xx, cwM kI kC am (u.1, y.2.1, y.2.2.1, y.2.2.2.1, y.2.2.2.2.1, u.2, y.2.2.2.2.2.2.1, y.2.2.2.2.2.2.2.1, y.2.2.2.2.2.2.2.2.1, y.2.2.2.2.2.2.2.2.2.1, y.2.2.2.2.2.2.2.2.2.2.1, y.2.2.2.2.2.2.2.2.2.2.2.1, y.2.2.2.2.2.2.2.2.2.2.2.2.1, y.2.2.2.2.2.2.2.2.2.2.2.2.2)]) C (c_X9_keep l D kI kC kB am y.1 y.2.1 y.2.2.1 y.2.2.2.1 y.2.2.2.2.1 y.2.2.2.2.2.1 y.2.2.2.2.2.2.1 y.2.2.2.2.2.2.2.1 y.2.2.2.2.2.2.2.2.1 y.2.2.2.2.2.2.2.2.2.1 y.2.2.2.2.2.2.2.2.2.2.1 y.2.2.2.2.2.2.2.2.2.2.2.1 y.2.2.2.2.2.2.2.2.2.2.2.2.1 y.2.2.2.2.2.2.2.2.2.2.2.2.2 H.size  _ hwm) ⟨rfl, rfl⟩ ce_X9_keep cv_X9_keep tw_875 ⟨(Nat.le_of_ble_eq_true rfl), (Nat.le_of_ble_eq_true rfl)⟩ hP hD hS hA (bfl_p1 [_, _] 1 rfl) (fun u => bfl_p1 [_, _] 1 rfl) rfl rfl rfl hl.1 rfl (Nat.le_of_ble_eq_true rfl) ⟨(Nat.le_of_ble_eq_true rfl), (Nat.le_of_ble_eq_true rfl)⟩ dL_law_426 (fun r2 u H locs hqr2 hP hD hS => ?_)
  obtain ⟨yy, hyy⟩ : ∃ z : MS, z = (u.1, y.2.1, y.2.2.1, y.2.2.2.1, y.2.2.2.2.1, u.2, y.2.2.2.2.2.2.1, y.2.2.2.2.2.2.2.1, y.2.2.2.2.2.2.2.2.1, y.2.2.2.2.2.2.2.2.2.1, y.2.2.2.2.2.2.2.2.2.2.1, y.2.2.2.2.2.2.2.2.2.2.2.1, y.2.2.2.2.2.2.2.2.2.2.2.2.1, y.2.2.2.2.2.2.2.2.2.2.2.2.2) := ⟨_, rfl⟩
  replace hqr2 : r2 = r ∧ MOK σ2 yy := by rw [hyy]; exact hqr2
  replace hP : va_P D vwCl (bfl [cwX kI kB ax hh xx, cwM kI kC am yy]) H := by rw [hyy]; exact hP
  replace hD : va_D (fun q : Nat => s.heap.size ≤ q) (bfl [cwX kI kB ax hh xx, cwM kI kC am yy]) := by rw [hyy]; exact hD
  refine lv_icmp_eq (tgt := 661) hx0 hb dL_law_429 (by decide) (fun hc => ?_) (fun hc => absurd (hqr1.1.trans hqr2.1.symm) hc)
  exact kn9 hh xx yy σ2 _ _ _ hqr1.2 hqr2.2 hP hD hS hl
set_option maxHeartbeats 1000000 in
set_option maxRecDepth 100000 in
theorem law_restore {p : Program} {l : Launch} {e : Env} {s : State} {m : MethodId} {below : List Frame} {meth : Method} {c : Code} {D : va_G} {kI kC kB : ClassId} {b L : Nat} {xs : Nat → Int32} (C : CtxT p s m #[Value.ref b] meth c code 4 ret "QuireSignsLaw" D kI kC kB) (hX : va_X b L xs s s.heap) (hbl : b < s.heap.size) (hL : L ≤ 2048) (ax : AdT) (h_ : Nat → AdT) (am : AdT) (i : Nat) (hi : i + 4 ≤ L) (kn9 : ∀ (h2 : Nat → AdT) (x2 : XS) (y2 : MS) (σ2 : St) (H : Heap) (locs : List Loc) (ls : Array Slot), XOK σ2 x2 → MOK σ2 y2 → va_P D vwCl (bfl [cwX kI kB ax h2 x2, cwM kI kC am y2]) H → va_D (fun q : Nat => s.heap.size ≤ q) (bfl [cwX kI kB ax h2 x2, cwM kI kC am y2]) → va_S (fun q : Nat => s.heap.size ≤ q) s.heap H locs → lv_has ls 4 [(0, .ref b), (1, .ref (ax 0)), (2, .ref (am 0)), (3, .int (nI i))] → W p l e room_1 s m #[Value.ref b] below meth c H locs 83 3066 (lw_Z below #[Value.ref b] s) (F0 m 661 ls [])) (σ : St) (x : XS) (y : MS) (hx : XOK σ x) (hm : MOK σ y) : ∀ (H : Heap) (locs : List Loc) (ls : Array Slot), va_P D vwCl (bfl [cwX kI kB ax h_ x, cwM kI kC am y]) H → va_D (fun q : Nat => s.heap.size ≤ q) (bfl [cwX kI kB ax h_ x, cwM kI kC am y]) → va_S (fun q : Nat => s.heap.size ≤ q) s.heap H locs → lv_has ls 4 [(0, .ref b), (1, .ref (ax 0)), (2, .ref (am 0)), (3, .int (nI i))] → W p l e room_1 s m #[Value.ref b] below meth c H locs 83 3066 (lw_Z below #[Value.ref b] s) (F0 m 434 ls []) := by
  intro H locs ls hP hD hS hl
  obtain ⟨hx0, hb, hr, hml, hown, hts, hlocks, hK⟩ := id C
  have hA : ∀ q : Nat, s.heap.size ≤ q → (fun q : Nat => s.heap.size ≤ q) q := fun _ h => h
  have hbA : ¬ (fun q : Nat => s.heap.size ≤ q) b := Nat.not_le.mpr hbl
  obtain ⟨r, σ2, hwx, hwm⟩ := op_restore σ x y hx hm 
  refine lv_aload_n hx0 hb dL_law_434 rfl (lv_at hl 1 rfl) ?_
  refine kMBi (As := []) (rest := []) (q0 := 0) (ws' := fun u : (Nat → AdT) × Int32 × Int32 × RowT × RowT × RowT × RowT × HistT => bfl [cwX kI kB ax u.1 (x.1, u.2.1, u.2.2.1, u.2.2.2.1, u.2.2.2.2.1, u.2.2.2.2.2.1, u.2.2.2.2.2.2.1, x.2.2.2.2.2.2.2.1, x.2.2.2.2.2.2.2.2.1, x.2.2.2.2.2.2.2.2.2.1, x.2.2.2.2.2.2.2.2.2.2.1, x.2.2.2.2.2.2.2.2.2.2.2.1, x.2.2.2.2.2.2.2.2.2.2.2.2.1, u.2.2.2.2.2.2.2, x.2.2.2.2.2.2.2.2.2.2.2.2.2.2.1, x.2.2.2.2.2.2.2.2.2.2.2.2.2.2.2.1, x.2.2.2.2.2.2.2.2.2.2.2.2.2.2.2.2.1, x.2.2.2.2.2.2.2.2.2.2.2.2.2.2.2.2.2.1, x.2.2.2.2.2.2.2.2.2.2.2.2.2.2.2.2.2.2.1, x.2.2.2.2.2.2.2.2.2.2.2.2.2.2.2.2.2.2.2.1, x.2.2.2.2.2.2.2.2.2.2.2.2.2.2.2.2.2.2.2.2.1, x.2.2.2.2.2.2.2.2.2.2.2.2.2.2.2.2.2.2.2.2.2.1, x.2.2.2.2.2.2.2.2.2.2.2.2.2.2.2.2.2.2.2.2.2.2), cwM kI kC am y]) C (c_X8_restore l D kI kC kB ax h_ x.1 x.2.1 x.2.2.1 x.2.2.2.1 x.2.2.2.2.1 x.2.2.2.2.2.1 x.2.2.2.2.2.2.1 x.2.2.2.2.2.2.2.1 x.2.2.2.2.2.2.2.2.1 x.2.2.2.2.2.2.2.2.2.1 x.2.2.2.2.2.2.2.2.2.2.1 x.2.2.2.2.2.2.2.2.2.2.2.1 x.2.2.2.2.2.2.2.2.2.2.2.2.1 x.2.2.2.2.2.2.2.2.2.2.2.2.2.1 x.2.2.2.2.2.2.2.2.2.2.2.2.2.2.1 x.2.2.2.2.2.2.2.2.2.2.2.2.2.2.2.1 x.2.2.2.2.2.2.2.2.2.2.2.2.2.2.2.2.1 x.2.2.2.2.2.2.2.2.2.2.2.2.2.2.2.2.2.1 x.2.2.2.2.2.2.2.2.2.2.2.2.2.2.2.2.2.2.1 x.2.2.2.2.2.2.2.2.2.2.2.2.2.2.2.2.2.2.2.1 x.2.2.2.2.2.2.2.2.2.2.2.2.2.2.2.2.2.2.2.2.1 x.2.2.2.2.2.2.2.2.2.2.2.2.2.2.2.2.2.2.2.2.2.1 x.2.2.2.2.2.2.2.2.2.2.2.2.2.2.2.2.2.2.2.2.2.2 H.size  _ hwx) ⟨rfl, rfl⟩ ce_X8_restore cv_X8_restore tw_560 ⟨(Nat.le_of_ble_eq_true rfl), (Nat.le_of_ble_eq_true rfl)⟩ hP hD hS hA (bfl_p1 [_, _] 0 rfl) (fun u => bfl_p1 [_, _] 0 rfl) rfl rfl rfl hl.1 rfl (Nat.le_of_ble_eq_true rfl) ⟨(Nat.le_of_ble_eq_true rfl), (Nat.le_of_ble_eq_true rfl)⟩ dL_law_435 (fun r1 u H locs hqr1 hP hD hS => ?_)
  obtain ⟨xx, hxx⟩ : ∃ z : XS, z = (x.1, u.2.1, u.2.2.1, u.2.2.2.1, u.2.2.2.2.1, u.2.2.2.2.2.1, u.2.2.2.2.2.2.1, x.2.2.2.2.2.2.2.1, x.2.2.2.2.2.2.2.2.1, x.2.2.2.2.2.2.2.2.2.1, x.2.2.2.2.2.2.2.2.2.2.1, x.2.2.2.2.2.2.2.2.2.2.2.1, x.2.2.2.2.2.2.2.2.2.2.2.2.1, u.2.2.2.2.2.2.2, x.2.2.2.2.2.2.2.2.2.2.2.2.2.2.1, x.2.2.2.2.2.2.2.2.2.2.2.2.2.2.2.1, x.2.2.2.2.2.2.2.2.2.2.2.2.2.2.2.2.1, x.2.2.2.2.2.2.2.2.2.2.2.2.2.2.2.2.2.1, x.2.2.2.2.2.2.2.2.2.2.2.2.2.2.2.2.2.2.1, x.2.2.2.2.2.2.2.2.2.2.2.2.2.2.2.2.2.2.2.1, x.2.2.2.2.2.2.2.2.2.2.2.2.2.2.2.2.2.2.2.2.1, x.2.2.2.2.2.2.2.2.2.2.2.2.2.2.2.2.2.2.2.2.2.1, x.2.2.2.2.2.2.2.2.2.2.2.2.2.2.2.2.2.2.2.2.2.2) := ⟨_, rfl⟩
  obtain ⟨hh, hhh⟩ : ∃ z : Nat → AdT, z = u.1 := ⟨_, rfl⟩
  replace hqr1 : r1 = r ∧ XOK σ2 xx := by rw [hxx]; exact hqr1
  replace hP : va_P D vwCl (bfl [cwX kI kB ax hh xx, cwM kI kC am y]) H := by rw [hxx, hhh]; exact hP
  replace hD : va_D (fun q : Nat => s.heap.size ≤ q) (bfl [cwX kI kB ax hh xx, cwM kI kC am y]) := by rw [hxx, hhh]; exact hD
  clear hxx hhh
  refine lv_aload_n hx0 hb dL_law_438 rfl (lv_at hl 2 rfl) ?_
  refine kMBi (As := []) (rest := [.int r1]) (q0 := 0) (ws' := fun u : (Nat → Int32) × Int32 => bfl [cwX kI kB ax hh xx, cwM kI kC am (u.1, y.2.1, y.2.2.1, y.2.2.2.1, u.2, y.2.2.2.2.2.1, y.2.2.2.2.2.2.1, y.2.2.2.2.2.2.2.1, y.2.2.2.2.2.2.2.2.1, y.2.2.2.2.2.2.2.2.2.1, y.2.2.2.2.2.2.2.2.2.2.1, y.2.2.2.2.2.2.2.2.2.2.2.1, y.2.2.2.2.2.2.2.2.2.2.2.2.1, y.2.2.2.2.2.2.2.2.2.2.2.2.2)]) C (c_X9_restore l D kI kC kB am y.1 y.2.1 y.2.2.1 y.2.2.2.1 y.2.2.2.2.1 y.2.2.2.2.2.1 y.2.2.2.2.2.2.1 y.2.2.2.2.2.2.2.1 y.2.2.2.2.2.2.2.2.1 y.2.2.2.2.2.2.2.2.2.1 y.2.2.2.2.2.2.2.2.2.2.1 y.2.2.2.2.2.2.2.2.2.2.2.1 y.2.2.2.2.2.2.2.2.2.2.2.2.1 y.2.2.2.2.2.2.2.2.2.2.2.2.2 H.size  _ hwm) ⟨rfl, rfl⟩ ce_X9_restore cv_X9_restore tw_879 ⟨(Nat.le_of_ble_eq_true rfl), (Nat.le_of_ble_eq_true rfl)⟩ hP hD hS hA (bfl_p1 [_, _] 1 rfl) (fun u => bfl_p1 [_, _] 1 rfl) rfl rfl rfl hl.1 rfl (Nat.le_of_ble_eq_true rfl) ⟨(Nat.le_of_ble_eq_true rfl), (Nat.le_of_ble_eq_true rfl)⟩ dL_law_439 (fun r2 u H locs hqr2 hP hD hS => ?_)
  obtain ⟨yy, hyy⟩ : ∃ z : MS, z = (u.1, y.2.1, y.2.2.1, y.2.2.2.1, u.2, y.2.2.2.2.2.1, y.2.2.2.2.2.2.1, y.2.2.2.2.2.2.2.1, y.2.2.2.2.2.2.2.2.1, y.2.2.2.2.2.2.2.2.2.1, y.2.2.2.2.2.2.2.2.2.2.1, y.2.2.2.2.2.2.2.2.2.2.2.1, y.2.2.2.2.2.2.2.2.2.2.2.2.1, y.2.2.2.2.2.2.2.2.2.2.2.2.2) := ⟨_, rfl⟩
  replace hqr2 : r2 = r ∧ MOK σ2 yy := by rw [hyy]; exact hqr2
  replace hP : va_P D vwCl (bfl [cwX kI kB ax hh xx, cwM kI kC am yy]) H := by rw [hyy]; exact hP
  replace hD : va_D (fun q : Nat => s.heap.size ≤ q) (bfl [cwX kI kB ax hh xx, cwM kI kC am yy]) := by rw [hyy]; exact hD
  refine lv_icmp_eq (tgt := 661) hx0 hb dL_law_442 (by decide) (fun hc => ?_) (fun hc => absurd (hqr1.1.trans hqr2.1.symm) hc)
  exact kn9 hh xx yy σ2 _ _ _ hqr1.2 hqr2.2 hP hD hS hl
set_option maxHeartbeats 1000000 in
set_option maxRecDepth 100000 in
theorem law_quire {p : Program} {l : Launch} {e : Env} {s : State} {m : MethodId} {below : List Frame} {meth : Method} {c : Code} {D : va_G} {kI kC kB : ClassId} {b L : Nat} {xs : Nat → Int32} (C : CtxT p s m #[Value.ref b] meth c code 4 ret "QuireSignsLaw" D kI kC kB) (hX : va_X b L xs s s.heap) (hbl : b < s.heap.size) (hL : L ≤ 2048) (ax : AdT) (h_ : Nat → AdT) (am : AdT) (i : Nat) (hi : i + 4 ≤ L) (kn9 : ∀ (h2 : Nat → AdT) (x2 : XS) (y2 : MS) (σ2 : St) (H : Heap) (locs : List Loc) (ls : Array Slot), XOK σ2 x2 → MOK σ2 y2 → va_P D vwCl (bfl [cwX kI kB ax h2 x2, cwM kI kC am y2]) H → va_D (fun q : Nat => s.heap.size ≤ q) (bfl [cwX kI kB ax h2 x2, cwM kI kC am y2]) → va_S (fun q : Nat => s.heap.size ≤ q) s.heap H locs → lv_has ls 4 [(0, .ref b), (1, .ref (ax 0)), (2, .ref (am 0)), (3, .int (nI i))] → W p l e room_1 s m #[Value.ref b] below meth c H locs 83 3066 (lw_Z below #[Value.ref b] s) (F0 m 661 ls [])) (σ : St) (x : XS) (y : MS) (hx : XOK σ x) (hm : MOK σ y) : ∀ (H : Heap) (locs : List Loc) (ls : Array Slot), va_P D vwCl (bfl [cwX kI kB ax h_ x, cwM kI kC am y]) H → va_D (fun q : Nat => s.heap.size ≤ q) (bfl [cwX kI kB ax h_ x, cwM kI kC am y]) → va_S (fun q : Nat => s.heap.size ≤ q) s.heap H locs → lv_has ls 4 [(0, .ref b), (1, .ref (ax 0)), (2, .ref (am 0)), (3, .int (nI i))] → W p l e room_1 s m #[Value.ref b] below meth c H locs 83 3066 (lw_Z below #[Value.ref b] s) (F0 m 447 ls []) := by
  intro H locs ls hP hD hS hl
  obtain ⟨hx0, hb, hr, hml, hown, hts, hlocks, hK⟩ := id C
  have hA : ∀ q : Nat, s.heap.size ≤ q → (fun q : Nat => s.heap.size ≤ q) q := fun _ h => h
  have hbA : ¬ (fun q : Nat => s.heap.size ≤ q) b := Nat.not_le.mpr hbl
  obtain ⟨r, σ2, hwx, hwm⟩ := op_quire σ x y hx hm (xs (nI (i + 1)).toNatClampNeg)  (xs (nI (i + 2)).toNatClampNeg) 
  refine lv_aload_n hx0 hb dL_law_447 rfl (lv_at hl 1 rfl) ?_
  refine lv_aload_n hx0 hb dL_law_448 rfl (lv_at hl 0 rfl) ?_
  refine lv_iload_n hx0 hb dL_law_449 rfl (lv_at hl 3 rfl) ?_
  refine lv_iconst (v := nI 1) hx0 hb dL_law_450 (by decide) ?_
  refine lv_iadd hx0 hb dL_law_451 ?_
  refine lv_topi (fun z ez => ?_)
  obtain rfl : z = nI (i + 1) := by rw [ez, nI_add]
  refine va_sld hx0 hb hX hbl hbA hS (vp_in_nI (by omega) (by omega)) dL_law_452 ?_
  refine lv_aload_n hx0 hb dL_law_453 rfl (lv_at hl 0 rfl) ?_
  refine lv_iload_n hx0 hb dL_law_454 rfl (lv_at hl 3 rfl) ?_
  refine lv_iconst (v := nI 2) hx0 hb dL_law_455 (by decide) ?_
  refine lv_iadd hx0 hb dL_law_456 ?_
  refine lv_topi (fun z ez => ?_)
  obtain rfl : z = nI (i + 2) := by rw [ez, nI_add]
  refine va_sld hx0 hb hX hbl hbA hS (vp_in_nI (by omega) (by omega)) dL_law_457 ?_
  refine kRB (As := [.int (xs (nI (i + 1)).toNatClampNeg), .int (xs (nI (i + 2)).toNatClampNeg)]) (rest := []) (q0 := 0) C (c_X8_quire l D kI kC kB ax h_ x.1 x.2.1 x.2.2.1 x.2.2.2.1 x.2.2.2.2.1 x.2.2.2.2.2.1 x.2.2.2.2.2.2.1 x.2.2.2.2.2.2.2.1 x.2.2.2.2.2.2.2.2.1 x.2.2.2.2.2.2.2.2.2.1 x.2.2.2.2.2.2.2.2.2.2.1 x.2.2.2.2.2.2.2.2.2.2.2.1 x.2.2.2.2.2.2.2.2.2.2.2.2.1 x.2.2.2.2.2.2.2.2.2.2.2.2.2.1 x.2.2.2.2.2.2.2.2.2.2.2.2.2.2.1 x.2.2.2.2.2.2.2.2.2.2.2.2.2.2.2.1 x.2.2.2.2.2.2.2.2.2.2.2.2.2.2.2.2.1 x.2.2.2.2.2.2.2.2.2.2.2.2.2.2.2.2.2.1 x.2.2.2.2.2.2.2.2.2.2.2.2.2.2.2.2.2.2.1 x.2.2.2.2.2.2.2.2.2.2.2.2.2.2.2.2.2.2.2.1 x.2.2.2.2.2.2.2.2.2.2.2.2.2.2.2.2.2.2.2.2.1 x.2.2.2.2.2.2.2.2.2.2.2.2.2.2.2.2.2.2.2.2.2.1 x.2.2.2.2.2.2.2.2.2.2.2.2.2.2.2.2.2.2.2.2.2.2 (xs (nI (i + 1)).toNatClampNeg) (xs (nI (i + 2)).toNatClampNeg) _ hwx) ⟨rfl, rfl⟩ ce_X8_quire cv_X8_quire tw_564 ⟨(Nat.le_of_ble_eq_true rfl), (Nat.le_of_ble_eq_true rfl)⟩ hP  (bfl_p1 [_, _] 0 rfl) rfl rfl rfl hl.1 rfl (Nat.le_of_ble_eq_true rfl) ⟨(Nat.le_of_ble_eq_true rfl), (Nat.le_of_ble_eq_true rfl)⟩ dL_law_458 (fun r1 hqr1 => ?_)
  obtain ⟨xx, hxx⟩ : ∃ z : XS, z = x := ⟨_, rfl⟩
  obtain ⟨hh, hhh⟩ : ∃ z : Nat → AdT, z = h_ := ⟨_, rfl⟩
  rw [← hxx, ← hhh] at hP hD
  rw [← hxx] at hqr1
  refine lv_aload_n hx0 hb dL_law_461 rfl (lv_at hl 2 rfl) ?_
  refine lv_aload_n hx0 hb dL_law_462 rfl (lv_at hl 0 rfl) ?_
  refine lv_iload_n hx0 hb dL_law_463 rfl (lv_at hl 3 rfl) ?_
  refine lv_iconst (v := nI 1) hx0 hb dL_law_464 (by decide) ?_
  refine lv_iadd hx0 hb dL_law_465 ?_
  refine lv_topi (fun z ez => ?_)
  obtain rfl : z = nI (i + 1) := by rw [ez, nI_add]
  refine va_sld hx0 hb hX hbl hbA hS (vp_in_nI (by omega) (by omega)) dL_law_466 ?_
  refine lv_aload_n hx0 hb dL_law_467 rfl (lv_at hl 0 rfl) ?_
  refine lv_iload_n hx0 hb dL_law_468 rfl (lv_at hl 3 rfl) ?_
  refine lv_iconst (v := nI 2) hx0 hb dL_law_469 (by decide) ?_
  refine lv_iadd hx0 hb dL_law_470 ?_
  refine lv_topi (fun z ez => ?_)
  obtain rfl : z = nI (i + 2) := by rw [ez, nI_add]
  refine va_sld hx0 hb hX hbl hbA hS (vp_in_nI (by omega) (by omega)) dL_law_471 ?_
  refine kRB (As := [.int (xs (nI (i + 1)).toNatClampNeg), .int (xs (nI (i + 2)).toNatClampNeg)]) (rest := [.int r1]) (q0 := 0) C (c_X9_quire l D kI kC kB am y.1 y.2.1 y.2.2.1 y.2.2.2.1 y.2.2.2.2.1 y.2.2.2.2.2.1 y.2.2.2.2.2.2.1 y.2.2.2.2.2.2.2.1 y.2.2.2.2.2.2.2.2.1 y.2.2.2.2.2.2.2.2.2.1 y.2.2.2.2.2.2.2.2.2.2.1 y.2.2.2.2.2.2.2.2.2.2.2.1 y.2.2.2.2.2.2.2.2.2.2.2.2.1 y.2.2.2.2.2.2.2.2.2.2.2.2.2 (xs (nI (i + 1)).toNatClampNeg) (xs (nI (i + 2)).toNatClampNeg) _ hwm) ⟨rfl, rfl⟩ ce_X9_quire cv_X9_quire tw_883 ⟨(Nat.le_of_ble_eq_true rfl), (Nat.le_of_ble_eq_true rfl)⟩ hP  (bfl_p1 [_, _] 1 rfl) rfl rfl rfl hl.1 rfl (Nat.le_of_ble_eq_true rfl) ⟨(Nat.le_of_ble_eq_true rfl), (Nat.le_of_ble_eq_true rfl)⟩ dL_law_472 (fun r2 hqr2 => ?_)
  obtain ⟨yy, hyy⟩ : ∃ z : MS, z = y := ⟨_, rfl⟩
  rw [← hyy] at hP hD hqr2
  refine lv_icmp_eq (tgt := 661) hx0 hb dL_law_475 (by decide) (fun hc => ?_) (fun hc => absurd (hqr1.1.trans hqr2.1.symm) hc)
  exact kn9 hh xx yy σ2 _ _ _ hqr1.2 hqr2.2 hP hD hS hl
set_option maxHeartbeats 1000000 in
set_option maxRecDepth 100000 in
theorem law_leaf {p : Program} {l : Launch} {e : Env} {s : State} {m : MethodId} {below : List Frame} {meth : Method} {c : Code} {D : va_G} {kI kC kB : ClassId} {b L : Nat} {xs : Nat → Int32} (C : CtxT p s m #[Value.ref b] meth c code 4 ret "QuireSignsLaw" D kI kC kB) (hX : va_X b L xs s s.heap) (hbl : b < s.heap.size) (hL : L ≤ 2048) (ax : AdT) (h_ : Nat → AdT) (am : AdT) (i : Nat) (hi : i + 4 ≤ L) (kn9 : ∀ (h2 : Nat → AdT) (x2 : XS) (y2 : MS) (σ2 : St) (H : Heap) (locs : List Loc) (ls : Array Slot), XOK σ2 x2 → MOK σ2 y2 → va_P D vwCl (bfl [cwX kI kB ax h2 x2, cwM kI kC am y2]) H → va_D (fun q : Nat => s.heap.size ≤ q) (bfl [cwX kI kB ax h2 x2, cwM kI kC am y2]) → va_S (fun q : Nat => s.heap.size ≤ q) s.heap H locs → lv_has ls 4 [(0, .ref b), (1, .ref (ax 0)), (2, .ref (am 0)), (3, .int (nI i))] → W p l e room_1 s m #[Value.ref b] below meth c H locs 83 3066 (lw_Z below #[Value.ref b] s) (F0 m 661 ls [])) (σ : St) (x : XS) (y : MS) (hx : XOK σ x) (hm : MOK σ y) : ∀ (H : Heap) (locs : List Loc) (ls : Array Slot), va_P D vwCl (bfl [cwX kI kB ax h_ x, cwM kI kC am y]) H → va_D (fun q : Nat => s.heap.size ≤ q) (bfl [cwX kI kB ax h_ x, cwM kI kC am y]) → va_S (fun q : Nat => s.heap.size ≤ q) s.heap H locs → lv_has ls 4 [(0, .ref b), (1, .ref (ax 0)), (2, .ref (am 0)), (3, .int (nI i))] → W p l e room_1 s m #[Value.ref b] below meth c H locs 83 3066 (lw_Z below #[Value.ref b] s) (F0 m 480 ls []) := by
  intro H locs ls hP hD hS hl
  obtain ⟨hx0, hb, hr, hml, hown, hts, hlocks, hK⟩ := id C
  have hA : ∀ q : Nat, s.heap.size ≤ q → (fun q : Nat => s.heap.size ≤ q) q := fun _ h => h
  have hbA : ¬ (fun q : Nat => s.heap.size ≤ q) b := Nat.not_le.mpr hbl
  obtain ⟨r, σ2, hwx, hwm⟩ := op_leaf σ x y hx hm (xs (nI (i + 1)).toNatClampNeg)  (xs (nI (i + 2)).toNatClampNeg) 
  refine lv_aload_n hx0 hb dL_law_480 rfl (lv_at hl 1 rfl) ?_
  refine lv_aload_n hx0 hb dL_law_481 rfl (lv_at hl 0 rfl) ?_
  refine lv_iload_n hx0 hb dL_law_482 rfl (lv_at hl 3 rfl) ?_
  refine lv_iconst (v := nI 1) hx0 hb dL_law_483 (by decide) ?_
  refine lv_iadd hx0 hb dL_law_484 ?_
  refine lv_topi (fun z ez => ?_)
  obtain rfl : z = nI (i + 1) := by rw [ez, nI_add]
  refine va_sld hx0 hb hX hbl hbA hS (vp_in_nI (by omega) (by omega)) dL_law_485 ?_
  refine lv_aload_n hx0 hb dL_law_486 rfl (lv_at hl 0 rfl) ?_
  refine lv_iload_n hx0 hb dL_law_487 rfl (lv_at hl 3 rfl) ?_
  refine lv_iconst (v := nI 2) hx0 hb dL_law_488 (by decide) ?_
  refine lv_iadd hx0 hb dL_law_489 ?_
  refine lv_topi (fun z ez => ?_)
  obtain rfl : z = nI (i + 2) := by rw [ez, nI_add]
  refine va_sld hx0 hb hX hbl hbA hS (vp_in_nI (by omega) (by omega)) dL_law_490 ?_
  refine kRB (As := [.int (xs (nI (i + 1)).toNatClampNeg), .int (xs (nI (i + 2)).toNatClampNeg)]) (rest := []) (q0 := 0) C (c_X8_leaf l D kI kC kB ax h_ x.1 x.2.1 x.2.2.1 x.2.2.2.1 x.2.2.2.2.1 x.2.2.2.2.2.1 x.2.2.2.2.2.2.1 x.2.2.2.2.2.2.2.1 x.2.2.2.2.2.2.2.2.1 x.2.2.2.2.2.2.2.2.2.1 x.2.2.2.2.2.2.2.2.2.2.1 x.2.2.2.2.2.2.2.2.2.2.2.1 x.2.2.2.2.2.2.2.2.2.2.2.2.1 x.2.2.2.2.2.2.2.2.2.2.2.2.2.1 x.2.2.2.2.2.2.2.2.2.2.2.2.2.2.1 x.2.2.2.2.2.2.2.2.2.2.2.2.2.2.2.1 x.2.2.2.2.2.2.2.2.2.2.2.2.2.2.2.2.1 x.2.2.2.2.2.2.2.2.2.2.2.2.2.2.2.2.2.1 x.2.2.2.2.2.2.2.2.2.2.2.2.2.2.2.2.2.2.1 x.2.2.2.2.2.2.2.2.2.2.2.2.2.2.2.2.2.2.2.1 x.2.2.2.2.2.2.2.2.2.2.2.2.2.2.2.2.2.2.2.2.1 x.2.2.2.2.2.2.2.2.2.2.2.2.2.2.2.2.2.2.2.2.2.1 x.2.2.2.2.2.2.2.2.2.2.2.2.2.2.2.2.2.2.2.2.2.2 (xs (nI (i + 1)).toNatClampNeg) (xs (nI (i + 2)).toNatClampNeg) _ hwx) ⟨rfl, rfl⟩ ce_X8_leaf cv_X8_leaf tw_580 ⟨(Nat.le_of_ble_eq_true rfl), (Nat.le_of_ble_eq_true rfl)⟩ hP  (bfl_p1 [_, _] 0 rfl) rfl rfl rfl hl.1 rfl (Nat.le_of_ble_eq_true rfl) ⟨(Nat.le_of_ble_eq_true rfl), (Nat.le_of_ble_eq_true rfl)⟩ dL_law_491 (fun r1 hqr1 => ?_)
  obtain ⟨xx, hxx⟩ : ∃ z : XS, z = x := ⟨_, rfl⟩
  obtain ⟨hh, hhh⟩ : ∃ z : Nat → AdT, z = h_ := ⟨_, rfl⟩
  rw [← hxx, ← hhh] at hP hD
  rw [← hxx] at hqr1
  refine lv_aload_n hx0 hb dL_law_494 rfl (lv_at hl 2 rfl) ?_
  refine lv_aload_n hx0 hb dL_law_495 rfl (lv_at hl 0 rfl) ?_
  refine lv_iload_n hx0 hb dL_law_496 rfl (lv_at hl 3 rfl) ?_
  refine lv_iconst (v := nI 1) hx0 hb dL_law_497 (by decide) ?_
  refine lv_iadd hx0 hb dL_law_498 ?_
  refine lv_topi (fun z ez => ?_)
  obtain rfl : z = nI (i + 1) := by rw [ez, nI_add]
  refine va_sld hx0 hb hX hbl hbA hS (vp_in_nI (by omega) (by omega)) dL_law_499 ?_
  refine lv_aload_n hx0 hb dL_law_500 rfl (lv_at hl 0 rfl) ?_
  refine lv_iload_n hx0 hb dL_law_501 rfl (lv_at hl 3 rfl) ?_
  refine lv_iconst (v := nI 2) hx0 hb dL_law_502 (by decide) ?_
  refine lv_iadd hx0 hb dL_law_503 ?_
  refine lv_topi (fun z ez => ?_)
  obtain rfl : z = nI (i + 2) := by rw [ez, nI_add]
  refine va_sld hx0 hb hX hbl hbA hS (vp_in_nI (by omega) (by omega)) dL_law_504 ?_
  refine kRB (As := [.int (xs (nI (i + 1)).toNatClampNeg), .int (xs (nI (i + 2)).toNatClampNeg)]) (rest := [.int r1]) (q0 := 0) C (c_X9_leaf l D kI kC kB am y.1 y.2.1 y.2.2.1 y.2.2.2.1 y.2.2.2.2.1 y.2.2.2.2.2.1 y.2.2.2.2.2.2.1 y.2.2.2.2.2.2.2.1 y.2.2.2.2.2.2.2.2.1 y.2.2.2.2.2.2.2.2.2.1 y.2.2.2.2.2.2.2.2.2.2.1 y.2.2.2.2.2.2.2.2.2.2.2.1 y.2.2.2.2.2.2.2.2.2.2.2.2.1 y.2.2.2.2.2.2.2.2.2.2.2.2.2 (xs (nI (i + 1)).toNatClampNeg) (xs (nI (i + 2)).toNatClampNeg) _ hwm) ⟨rfl, rfl⟩ ce_X9_leaf cv_X9_leaf tw_895 ⟨(Nat.le_of_ble_eq_true rfl), (Nat.le_of_ble_eq_true rfl)⟩ hP  (bfl_p1 [_, _] 1 rfl) rfl rfl rfl hl.1 rfl (Nat.le_of_ble_eq_true rfl) ⟨(Nat.le_of_ble_eq_true rfl), (Nat.le_of_ble_eq_true rfl)⟩ dL_law_505 (fun r2 hqr2 => ?_)
  obtain ⟨yy, hyy⟩ : ∃ z : MS, z = y := ⟨_, rfl⟩
  rw [← hyy] at hP hD hqr2
  refine lv_icmp_eq (tgt := 661) hx0 hb dL_law_508 (by decide) (fun hc => ?_) (fun hc => absurd (hqr1.1.trans hqr2.1.symm) hc)
  exact kn9 hh xx yy σ2 _ _ _ hqr1.2 hqr2.2 hP hD hS hl
set_option maxHeartbeats 1000000 in
set_option maxRecDepth 100000 in
theorem law_find {p : Program} {l : Launch} {e : Env} {s : State} {m : MethodId} {below : List Frame} {meth : Method} {c : Code} {D : va_G} {kI kC kB : ClassId} {b L : Nat} {xs : Nat → Int32} (C : CtxT p s m #[Value.ref b] meth c code 4 ret "QuireSignsLaw" D kI kC kB) (hX : va_X b L xs s s.heap) (hbl : b < s.heap.size) (hL : L ≤ 2048) (ax : AdT) (h_ : Nat → AdT) (am : AdT) (i : Nat) (hi : i + 4 ≤ L) (kn9 : ∀ (h2 : Nat → AdT) (x2 : XS) (y2 : MS) (σ2 : St) (H : Heap) (locs : List Loc) (ls : Array Slot), XOK σ2 x2 → MOK σ2 y2 → va_P D vwCl (bfl [cwX kI kB ax h2 x2, cwM kI kC am y2]) H → va_D (fun q : Nat => s.heap.size ≤ q) (bfl [cwX kI kB ax h2 x2, cwM kI kC am y2]) → va_S (fun q : Nat => s.heap.size ≤ q) s.heap H locs → lv_has ls 4 [(0, .ref b), (1, .ref (ax 0)), (2, .ref (am 0)), (3, .int (nI i))] → W p l e room_1 s m #[Value.ref b] below meth c H locs 83 3066 (lw_Z below #[Value.ref b] s) (F0 m 661 ls [])) (σ : St) (x : XS) (y : MS) (hx : XOK σ x) (hm : MOK σ y) : ∀ (H : Heap) (locs : List Loc) (ls : Array Slot), va_P D vwCl (bfl [cwX kI kB ax h_ x, cwM kI kC am y]) H → va_D (fun q : Nat => s.heap.size ≤ q) (bfl [cwX kI kB ax h_ x, cwM kI kC am y]) → va_S (fun q : Nat => s.heap.size ≤ q) s.heap H locs → lv_has ls 4 [(0, .ref b), (1, .ref (ax 0)), (2, .ref (am 0)), (3, .int (nI i))] → W p l e room_1 s m #[Value.ref b] below meth c H locs 83 3066 (lw_Z below #[Value.ref b] s) (F0 m 513 ls []) := by
  intro H locs ls hP hD hS hl
  obtain ⟨hx0, hb, hr, hml, hown, hts, hlocks, hK⟩ := id C
  have hA : ∀ q : Nat, s.heap.size ≤ q → (fun q : Nat => s.heap.size ≤ q) q := fun _ h => h
  have hbA : ¬ (fun q : Nat => s.heap.size ≤ q) b := Nat.not_le.mpr hbl
  obtain ⟨r, σ2, hwx, hwm⟩ := op_find σ x y hx hm 
  refine lv_aload_n hx0 hb dL_law_513 rfl (lv_at hl 1 rfl) ?_
  refine kMBi (As := []) (rest := []) (q0 := 0) (ws' := fun u : RowT × RowT × RowT × Int32 => bfl [cwX kI kB ax h_ (x.1, x.2.1, x.2.2.1, x.2.2.2.1, x.2.2.2.2.1, x.2.2.2.2.2.1, x.2.2.2.2.2.2.1, x.2.2.2.2.2.2.2.1, x.2.2.2.2.2.2.2.2.1, x.2.2.2.2.2.2.2.2.2.1, x.2.2.2.2.2.2.2.2.2.2.1, x.2.2.2.2.2.2.2.2.2.2.2.1, x.2.2.2.2.2.2.2.2.2.2.2.2.1, x.2.2.2.2.2.2.2.2.2.2.2.2.2.1, x.2.2.2.2.2.2.2.2.2.2.2.2.2.2.1, u.1, u.2.1, u.2.2.1, u.2.2.2, x.2.2.2.2.2.2.2.2.2.2.2.2.2.2.2.2.2.2.2.1, x.2.2.2.2.2.2.2.2.2.2.2.2.2.2.2.2.2.2.2.2.1, x.2.2.2.2.2.2.2.2.2.2.2.2.2.2.2.2.2.2.2.2.2.1, x.2.2.2.2.2.2.2.2.2.2.2.2.2.2.2.2.2.2.2.2.2.2), cwM kI kC am y]) C (c_X8_find l D kI kC kB ax h_ x.1 x.2.1 x.2.2.1 x.2.2.2.1 x.2.2.2.2.1 x.2.2.2.2.2.1 x.2.2.2.2.2.2.1 x.2.2.2.2.2.2.2.1 x.2.2.2.2.2.2.2.2.1 x.2.2.2.2.2.2.2.2.2.1 x.2.2.2.2.2.2.2.2.2.2.1 x.2.2.2.2.2.2.2.2.2.2.2.1 x.2.2.2.2.2.2.2.2.2.2.2.2.1 x.2.2.2.2.2.2.2.2.2.2.2.2.2.1 x.2.2.2.2.2.2.2.2.2.2.2.2.2.2.1 x.2.2.2.2.2.2.2.2.2.2.2.2.2.2.2.1 x.2.2.2.2.2.2.2.2.2.2.2.2.2.2.2.2.1 x.2.2.2.2.2.2.2.2.2.2.2.2.2.2.2.2.2.1 x.2.2.2.2.2.2.2.2.2.2.2.2.2.2.2.2.2.2.1 x.2.2.2.2.2.2.2.2.2.2.2.2.2.2.2.2.2.2.2.1 x.2.2.2.2.2.2.2.2.2.2.2.2.2.2.2.2.2.2.2.2.1 x.2.2.2.2.2.2.2.2.2.2.2.2.2.2.2.2.2.2.2.2.2.1 x.2.2.2.2.2.2.2.2.2.2.2.2.2.2.2.2.2.2.2.2.2.2 H.size  _ hwx) ⟨rfl, rfl⟩ ce_X8_find cv_X8_find tw_591 ⟨(Nat.le_of_ble_eq_true rfl), (Nat.le_of_ble_eq_true rfl)⟩ hP hD hS hA (bfl_p1 [_, _] 0 rfl) (fun u => bfl_p1 [_, _] 0 rfl) rfl rfl rfl hl.1 rfl (Nat.le_of_ble_eq_true rfl) ⟨(Nat.le_of_ble_eq_true rfl), (Nat.le_of_ble_eq_true rfl)⟩ dL_law_514 (fun r1 u H locs hqr1 hP hD hS => ?_)
  obtain ⟨xx, hxx⟩ : ∃ z : XS, z = (x.1, x.2.1, x.2.2.1, x.2.2.2.1, x.2.2.2.2.1, x.2.2.2.2.2.1, x.2.2.2.2.2.2.1, x.2.2.2.2.2.2.2.1, x.2.2.2.2.2.2.2.2.1, x.2.2.2.2.2.2.2.2.2.1, x.2.2.2.2.2.2.2.2.2.2.1, x.2.2.2.2.2.2.2.2.2.2.2.1, x.2.2.2.2.2.2.2.2.2.2.2.2.1, x.2.2.2.2.2.2.2.2.2.2.2.2.2.1, x.2.2.2.2.2.2.2.2.2.2.2.2.2.2.1, u.1, u.2.1, u.2.2.1, u.2.2.2, x.2.2.2.2.2.2.2.2.2.2.2.2.2.2.2.2.2.2.2.1, x.2.2.2.2.2.2.2.2.2.2.2.2.2.2.2.2.2.2.2.2.1, x.2.2.2.2.2.2.2.2.2.2.2.2.2.2.2.2.2.2.2.2.2.1, x.2.2.2.2.2.2.2.2.2.2.2.2.2.2.2.2.2.2.2.2.2.2) := ⟨_, rfl⟩
  obtain ⟨hh, hhh⟩ : ∃ z : Nat → AdT, z = h_ := ⟨_, rfl⟩
  replace hqr1 : r1 = r ∧ XOK σ2 xx := by rw [hxx]; exact hqr1
  replace hP : va_P D vwCl (bfl [cwX kI kB ax hh xx, cwM kI kC am y]) H := by rw [hxx, hhh]; exact hP
  replace hD : va_D (fun q : Nat => s.heap.size ≤ q) (bfl [cwX kI kB ax hh xx, cwM kI kC am y]) := by rw [hxx, hhh]; exact hD
  clear hxx hhh
  refine lv_aload_n hx0 hb dL_law_517 rfl (lv_at hl 2 rfl) ?_
  refine kMBi (As := []) (rest := [.int r1]) (q0 := 0) (ws' := fun u : (Nat → Int32) × Int32 × Int32 × Int32 × Int32 × Int32 => bfl [cwX kI kB ax hh xx, cwM kI kC am (y.1, y.2.1, u.1, y.2.2.2.1, y.2.2.2.2.1, y.2.2.2.2.2.1, y.2.2.2.2.2.2.1, u.2.1, u.2.2.1, u.2.2.2.1, u.2.2.2.2.1, u.2.2.2.2.2, y.2.2.2.2.2.2.2.2.2.2.2.2.1, y.2.2.2.2.2.2.2.2.2.2.2.2.2)]) C (c_X9_find l D kI kC kB am y.1 y.2.1 y.2.2.1 y.2.2.2.1 y.2.2.2.2.1 y.2.2.2.2.2.1 y.2.2.2.2.2.2.1 y.2.2.2.2.2.2.2.1 y.2.2.2.2.2.2.2.2.1 y.2.2.2.2.2.2.2.2.2.1 y.2.2.2.2.2.2.2.2.2.2.1 y.2.2.2.2.2.2.2.2.2.2.2.1 y.2.2.2.2.2.2.2.2.2.2.2.2.1 y.2.2.2.2.2.2.2.2.2.2.2.2.2 H.size  _ hwm) ⟨rfl, rfl⟩ ce_X9_find cv_X9_find tw_903 ⟨(Nat.le_of_ble_eq_true rfl), (Nat.le_of_ble_eq_true rfl)⟩ hP hD hS hA (bfl_p1 [_, _] 1 rfl) (fun u => bfl_p1 [_, _] 1 rfl) rfl rfl rfl hl.1 rfl (Nat.le_of_ble_eq_true rfl) ⟨(Nat.le_of_ble_eq_true rfl), (Nat.le_of_ble_eq_true rfl)⟩ dL_law_518 (fun r2 u H locs hqr2 hP hD hS => ?_)
  obtain ⟨yy, hyy⟩ : ∃ z : MS, z = (y.1, y.2.1, u.1, y.2.2.2.1, y.2.2.2.2.1, y.2.2.2.2.2.1, y.2.2.2.2.2.2.1, u.2.1, u.2.2.1, u.2.2.2.1, u.2.2.2.2.1, u.2.2.2.2.2, y.2.2.2.2.2.2.2.2.2.2.2.2.1, y.2.2.2.2.2.2.2.2.2.2.2.2.2) := ⟨_, rfl⟩
  replace hqr2 : r2 = r ∧ MOK σ2 yy := by rw [hyy]; exact hqr2
  replace hP : va_P D vwCl (bfl [cwX kI kB ax hh xx, cwM kI kC am yy]) H := by rw [hyy]; exact hP
  replace hD : va_D (fun q : Nat => s.heap.size ≤ q) (bfl [cwX kI kB ax hh xx, cwM kI kC am yy]) := by rw [hyy]; exact hD
  refine lv_icmp_eq (tgt := 661) hx0 hb dL_law_521 (by decide) (fun hc => ?_) (fun hc => absurd (hqr1.1.trans hqr2.1.symm) hc)
  exact kn9 hh xx yy σ2 _ _ _ hqr1.2 hqr2.2 hP hD hS hl
set_option maxHeartbeats 1000000 in
set_option maxRecDepth 100000 in
theorem law_lapse {p : Program} {l : Launch} {e : Env} {s : State} {m : MethodId} {below : List Frame} {meth : Method} {c : Code} {D : va_G} {kI kC kB : ClassId} {b L : Nat} {xs : Nat → Int32} (C : CtxT p s m #[Value.ref b] meth c code 4 ret "QuireSignsLaw" D kI kC kB) (hX : va_X b L xs s s.heap) (hbl : b < s.heap.size) (hL : L ≤ 2048) (ax : AdT) (h_ : Nat → AdT) (am : AdT) (i : Nat) (hi : i + 4 ≤ L) (kn9 : ∀ (h2 : Nat → AdT) (x2 : XS) (y2 : MS) (σ2 : St) (H : Heap) (locs : List Loc) (ls : Array Slot), XOK σ2 x2 → MOK σ2 y2 → va_P D vwCl (bfl [cwX kI kB ax h2 x2, cwM kI kC am y2]) H → va_D (fun q : Nat => s.heap.size ≤ q) (bfl [cwX kI kB ax h2 x2, cwM kI kC am y2]) → va_S (fun q : Nat => s.heap.size ≤ q) s.heap H locs → lv_has ls 4 [(0, .ref b), (1, .ref (ax 0)), (2, .ref (am 0)), (3, .int (nI i))] → W p l e room_1 s m #[Value.ref b] below meth c H locs 83 3066 (lw_Z below #[Value.ref b] s) (F0 m 661 ls [])) (σ : St) (x : XS) (y : MS) (hx : XOK σ x) (hm : MOK σ y) : ∀ (H : Heap) (locs : List Loc) (ls : Array Slot), va_P D vwCl (bfl [cwX kI kB ax h_ x, cwM kI kC am y]) H → va_D (fun q : Nat => s.heap.size ≤ q) (bfl [cwX kI kB ax h_ x, cwM kI kC am y]) → va_S (fun q : Nat => s.heap.size ≤ q) s.heap H locs → lv_has ls 4 [(0, .ref b), (1, .ref (ax 0)), (2, .ref (am 0)), (3, .int (nI i))] → W p l e room_1 s m #[Value.ref b] below meth c H locs 83 3066 (lw_Z below #[Value.ref b] s) (F0 m 526 ls []) := by
  intro H locs ls hP hD hS hl
  obtain ⟨hx0, hb, hr, hml, hown, hts, hlocks, hK⟩ := id C
  have hA : ∀ q : Nat, s.heap.size ≤ q → (fun q : Nat => s.heap.size ≤ q) q := fun _ h => h
  have hbA : ¬ (fun q : Nat => s.heap.size ≤ q) b := Nat.not_le.mpr hbl
  obtain ⟨r, σ2, hwx, hwm⟩ := op_lapse σ x y hx hm (xs (nI (i + 1)).toNatClampNeg)  (xs (nI (i + 2)).toNatClampNeg) 
  refine lv_aload_n hx0 hb dL_law_526 rfl (lv_at hl 1 rfl) ?_
  refine lv_aload_n hx0 hb dL_law_527 rfl (lv_at hl 0 rfl) ?_
  refine lv_iload_n hx0 hb dL_law_528 rfl (lv_at hl 3 rfl) ?_
  refine lv_iconst (v := nI 1) hx0 hb dL_law_529 (by decide) ?_
  refine lv_iadd hx0 hb dL_law_530 ?_
  refine lv_topi (fun z ez => ?_)
  obtain rfl : z = nI (i + 1) := by rw [ez, nI_add]
  refine va_sld hx0 hb hX hbl hbA hS (vp_in_nI (by omega) (by omega)) dL_law_531 ?_
  refine lv_aload_n hx0 hb dL_law_532 rfl (lv_at hl 0 rfl) ?_
  refine lv_iload_n hx0 hb dL_law_533 rfl (lv_at hl 3 rfl) ?_
  refine lv_iconst (v := nI 2) hx0 hb dL_law_534 (by decide) ?_
  refine lv_iadd hx0 hb dL_law_535 ?_
  refine lv_topi (fun z ez => ?_)
  obtain rfl : z = nI (i + 2) := by rw [ez, nI_add]
  refine va_sld hx0 hb hX hbl hbA hS (vp_in_nI (by omega) (by omega)) dL_law_536 ?_
  refine kRB (As := [.int (xs (nI (i + 1)).toNatClampNeg), .int (xs (nI (i + 2)).toNatClampNeg)]) (rest := []) (q0 := 0) C (c_X8_lapse l D kI kC kB ax h_ x.1 x.2.1 x.2.2.1 x.2.2.2.1 x.2.2.2.2.1 x.2.2.2.2.2.1 x.2.2.2.2.2.2.1 x.2.2.2.2.2.2.2.1 x.2.2.2.2.2.2.2.2.1 x.2.2.2.2.2.2.2.2.2.1 x.2.2.2.2.2.2.2.2.2.2.1 x.2.2.2.2.2.2.2.2.2.2.2.1 x.2.2.2.2.2.2.2.2.2.2.2.2.1 x.2.2.2.2.2.2.2.2.2.2.2.2.2.1 x.2.2.2.2.2.2.2.2.2.2.2.2.2.2.1 x.2.2.2.2.2.2.2.2.2.2.2.2.2.2.2.1 x.2.2.2.2.2.2.2.2.2.2.2.2.2.2.2.2.1 x.2.2.2.2.2.2.2.2.2.2.2.2.2.2.2.2.2.1 x.2.2.2.2.2.2.2.2.2.2.2.2.2.2.2.2.2.2.1 x.2.2.2.2.2.2.2.2.2.2.2.2.2.2.2.2.2.2.2.1 x.2.2.2.2.2.2.2.2.2.2.2.2.2.2.2.2.2.2.2.2.1 x.2.2.2.2.2.2.2.2.2.2.2.2.2.2.2.2.2.2.2.2.2.1 x.2.2.2.2.2.2.2.2.2.2.2.2.2.2.2.2.2.2.2.2.2.2 (xs (nI (i + 1)).toNatClampNeg) (xs (nI (i + 2)).toNatClampNeg) _ hwx) ⟨rfl, rfl⟩ ce_X8_lapse cv_X8_lapse tw_595 ⟨(Nat.le_of_ble_eq_true rfl), (Nat.le_of_ble_eq_true rfl)⟩ hP  (bfl_p1 [_, _] 0 rfl) rfl rfl rfl hl.1 rfl (Nat.le_of_ble_eq_true rfl) ⟨(Nat.le_of_ble_eq_true rfl), (Nat.le_of_ble_eq_true rfl)⟩ dL_law_537 (fun r1 hqr1 => ?_)
  obtain ⟨xx, hxx⟩ : ∃ z : XS, z = x := ⟨_, rfl⟩
  obtain ⟨hh, hhh⟩ : ∃ z : Nat → AdT, z = h_ := ⟨_, rfl⟩
  rw [← hxx, ← hhh] at hP hD
  rw [← hxx] at hqr1
  refine lv_aload_n hx0 hb dL_law_540 rfl (lv_at hl 2 rfl) ?_
  refine lv_aload_n hx0 hb dL_law_541 rfl (lv_at hl 0 rfl) ?_
  refine lv_iload_n hx0 hb dL_law_542 rfl (lv_at hl 3 rfl) ?_
  refine lv_iconst (v := nI 1) hx0 hb dL_law_543 (by decide) ?_
  refine lv_iadd hx0 hb dL_law_544 ?_
  refine lv_topi (fun z ez => ?_)
  obtain rfl : z = nI (i + 1) := by rw [ez, nI_add]
  refine va_sld hx0 hb hX hbl hbA hS (vp_in_nI (by omega) (by omega)) dL_law_545 ?_
  refine lv_aload_n hx0 hb dL_law_546 rfl (lv_at hl 0 rfl) ?_
  refine lv_iload_n hx0 hb dL_law_547 rfl (lv_at hl 3 rfl) ?_
  refine lv_iconst (v := nI 2) hx0 hb dL_law_548 (by decide) ?_
  refine lv_iadd hx0 hb dL_law_549 ?_
  refine lv_topi (fun z ez => ?_)
  obtain rfl : z = nI (i + 2) := by rw [ez, nI_add]
  refine va_sld hx0 hb hX hbl hbA hS (vp_in_nI (by omega) (by omega)) dL_law_550 ?_
  refine kRB (As := [.int (xs (nI (i + 1)).toNatClampNeg), .int (xs (nI (i + 2)).toNatClampNeg)]) (rest := [.int r1]) (q0 := 0) C (c_X9_lapse l D kI kC kB am y.1 y.2.1 y.2.2.1 y.2.2.2.1 y.2.2.2.2.1 y.2.2.2.2.2.1 y.2.2.2.2.2.2.1 y.2.2.2.2.2.2.2.1 y.2.2.2.2.2.2.2.2.1 y.2.2.2.2.2.2.2.2.2.1 y.2.2.2.2.2.2.2.2.2.2.1 y.2.2.2.2.2.2.2.2.2.2.2.1 y.2.2.2.2.2.2.2.2.2.2.2.2.1 y.2.2.2.2.2.2.2.2.2.2.2.2.2 (xs (nI (i + 1)).toNatClampNeg) (xs (nI (i + 2)).toNatClampNeg) _ hwm) ⟨rfl, rfl⟩ ce_X9_lapse cv_X9_lapse tw_907 ⟨(Nat.le_of_ble_eq_true rfl), (Nat.le_of_ble_eq_true rfl)⟩ hP  (bfl_p1 [_, _] 1 rfl) rfl rfl rfl hl.1 rfl (Nat.le_of_ble_eq_true rfl) ⟨(Nat.le_of_ble_eq_true rfl), (Nat.le_of_ble_eq_true rfl)⟩ dL_law_551 (fun r2 hqr2 => ?_)
  obtain ⟨yy, hyy⟩ : ∃ z : MS, z = y := ⟨_, rfl⟩
  rw [← hyy] at hP hD hqr2
  refine lv_icmp_eq (tgt := 661) hx0 hb dL_law_554 (by decide) (fun hc => ?_) (fun hc => absurd (hqr1.1.trans hqr2.1.symm) hc)
  exact kn9 hh xx yy σ2 _ _ _ hqr1.2 hqr2.2 hP hD hS hl
set_option maxHeartbeats 1000000 in
set_option maxRecDepth 100000 in
theorem law_piled {p : Program} {l : Launch} {e : Env} {s : State} {m : MethodId} {below : List Frame} {meth : Method} {c : Code} {D : va_G} {kI kC kB : ClassId} {b L : Nat} {xs : Nat → Int32} (C : CtxT p s m #[Value.ref b] meth c code 4 ret "QuireSignsLaw" D kI kC kB) (hX : va_X b L xs s s.heap) (hbl : b < s.heap.size) (hL : L ≤ 2048) (ax : AdT) (h_ : Nat → AdT) (am : AdT) (i : Nat) (hi : i + 4 ≤ L) (kn9 : ∀ (h2 : Nat → AdT) (x2 : XS) (y2 : MS) (σ2 : St) (H : Heap) (locs : List Loc) (ls : Array Slot), XOK σ2 x2 → MOK σ2 y2 → va_P D vwCl (bfl [cwX kI kB ax h2 x2, cwM kI kC am y2]) H → va_D (fun q : Nat => s.heap.size ≤ q) (bfl [cwX kI kB ax h2 x2, cwM kI kC am y2]) → va_S (fun q : Nat => s.heap.size ≤ q) s.heap H locs → lv_has ls 4 [(0, .ref b), (1, .ref (ax 0)), (2, .ref (am 0)), (3, .int (nI i))] → W p l e room_1 s m #[Value.ref b] below meth c H locs 83 3066 (lw_Z below #[Value.ref b] s) (F0 m 661 ls [])) (σ : St) (x : XS) (y : MS) (hx : XOK σ x) (hm : MOK σ y) : ∀ (H : Heap) (locs : List Loc) (ls : Array Slot), va_P D vwCl (bfl [cwX kI kB ax h_ x, cwM kI kC am y]) H → va_D (fun q : Nat => s.heap.size ≤ q) (bfl [cwX kI kB ax h_ x, cwM kI kC am y]) → va_S (fun q : Nat => s.heap.size ≤ q) s.heap H locs → lv_has ls 4 [(0, .ref b), (1, .ref (ax 0)), (2, .ref (am 0)), (3, .int (nI i))] → W p l e room_1 s m #[Value.ref b] below meth c H locs 83 3066 (lw_Z below #[Value.ref b] s) (F0 m 559 ls []) := by
  intro H locs ls hP hD hS hl
  obtain ⟨hx0, hb, hr, hml, hown, hts, hlocks, hK⟩ := id C
  have hA : ∀ q : Nat, s.heap.size ≤ q → (fun q : Nat => s.heap.size ≤ q) q := fun _ h => h
  have hbA : ¬ (fun q : Nat => s.heap.size ≤ q) b := Nat.not_le.mpr hbl
  obtain ⟨r, σ2, hwx, hwm⟩ := op_piled σ x y hx hm (xs (nI (i + 1)).toNatClampNeg)  (xs (nI (i + 2)).toNatClampNeg) 
  refine lv_aload_n hx0 hb dL_law_559 rfl (lv_at hl 1 rfl) ?_
  refine lv_aload_n hx0 hb dL_law_560 rfl (lv_at hl 0 rfl) ?_
  refine lv_iload_n hx0 hb dL_law_561 rfl (lv_at hl 3 rfl) ?_
  refine lv_iconst (v := nI 1) hx0 hb dL_law_562 (by decide) ?_
  refine lv_iadd hx0 hb dL_law_563 ?_
  refine lv_topi (fun z ez => ?_)
  obtain rfl : z = nI (i + 1) := by rw [ez, nI_add]
  refine va_sld hx0 hb hX hbl hbA hS (vp_in_nI (by omega) (by omega)) dL_law_564 ?_
  refine lv_aload_n hx0 hb dL_law_565 rfl (lv_at hl 0 rfl) ?_
  refine lv_iload_n hx0 hb dL_law_566 rfl (lv_at hl 3 rfl) ?_
  refine lv_iconst (v := nI 2) hx0 hb dL_law_567 (by decide) ?_
  refine lv_iadd hx0 hb dL_law_568 ?_
  refine lv_topi (fun z ez => ?_)
  obtain rfl : z = nI (i + 2) := by rw [ez, nI_add]
  refine va_sld hx0 hb hX hbl hbA hS (vp_in_nI (by omega) (by omega)) dL_law_569 ?_
  refine kRB (As := [.int (xs (nI (i + 1)).toNatClampNeg), .int (xs (nI (i + 2)).toNatClampNeg)]) (rest := []) (q0 := 0) C (c_X8_piled l D kI kC kB ax h_ x.1 x.2.1 x.2.2.1 x.2.2.2.1 x.2.2.2.2.1 x.2.2.2.2.2.1 x.2.2.2.2.2.2.1 x.2.2.2.2.2.2.2.1 x.2.2.2.2.2.2.2.2.1 x.2.2.2.2.2.2.2.2.2.1 x.2.2.2.2.2.2.2.2.2.2.1 x.2.2.2.2.2.2.2.2.2.2.2.1 x.2.2.2.2.2.2.2.2.2.2.2.2.1 x.2.2.2.2.2.2.2.2.2.2.2.2.2.1 x.2.2.2.2.2.2.2.2.2.2.2.2.2.2.1 x.2.2.2.2.2.2.2.2.2.2.2.2.2.2.2.1 x.2.2.2.2.2.2.2.2.2.2.2.2.2.2.2.2.1 x.2.2.2.2.2.2.2.2.2.2.2.2.2.2.2.2.2.1 x.2.2.2.2.2.2.2.2.2.2.2.2.2.2.2.2.2.2.1 x.2.2.2.2.2.2.2.2.2.2.2.2.2.2.2.2.2.2.2.1 x.2.2.2.2.2.2.2.2.2.2.2.2.2.2.2.2.2.2.2.2.1 x.2.2.2.2.2.2.2.2.2.2.2.2.2.2.2.2.2.2.2.2.2.1 x.2.2.2.2.2.2.2.2.2.2.2.2.2.2.2.2.2.2.2.2.2.2 (xs (nI (i + 1)).toNatClampNeg) (xs (nI (i + 2)).toNatClampNeg) _ hwx) ⟨rfl, rfl⟩ ce_X8_piled cv_X8_piled tw_615 ⟨(Nat.le_of_ble_eq_true rfl), (Nat.le_of_ble_eq_true rfl)⟩ hP  (bfl_p1 [_, _] 0 rfl) rfl rfl rfl hl.1 rfl (Nat.le_of_ble_eq_true rfl) ⟨(Nat.le_of_ble_eq_true rfl), (Nat.le_of_ble_eq_true rfl)⟩ dL_law_570 (fun r1 hqr1 => ?_)
  obtain ⟨xx, hxx⟩ : ∃ z : XS, z = x := ⟨_, rfl⟩
  obtain ⟨hh, hhh⟩ : ∃ z : Nat → AdT, z = h_ := ⟨_, rfl⟩
  rw [← hxx, ← hhh] at hP hD
  rw [← hxx] at hqr1
  refine lv_aload_n hx0 hb dL_law_573 rfl (lv_at hl 2 rfl) ?_
  refine lv_aload_n hx0 hb dL_law_574 rfl (lv_at hl 0 rfl) ?_
  refine lv_iload_n hx0 hb dL_law_575 rfl (lv_at hl 3 rfl) ?_
  refine lv_iconst (v := nI 1) hx0 hb dL_law_576 (by decide) ?_
  refine lv_iadd hx0 hb dL_law_577 ?_
  refine lv_topi (fun z ez => ?_)
  obtain rfl : z = nI (i + 1) := by rw [ez, nI_add]
  refine va_sld hx0 hb hX hbl hbA hS (vp_in_nI (by omega) (by omega)) dL_law_578 ?_
  refine lv_aload_n hx0 hb dL_law_579 rfl (lv_at hl 0 rfl) ?_
  refine lv_iload_n hx0 hb dL_law_580 rfl (lv_at hl 3 rfl) ?_
  refine lv_iconst (v := nI 2) hx0 hb dL_law_581 (by decide) ?_
  refine lv_iadd hx0 hb dL_law_582 ?_
  refine lv_topi (fun z ez => ?_)
  obtain rfl : z = nI (i + 2) := by rw [ez, nI_add]
  refine va_sld hx0 hb hX hbl hbA hS (vp_in_nI (by omega) (by omega)) dL_law_583 ?_
  refine kRB (As := [.int (xs (nI (i + 1)).toNatClampNeg), .int (xs (nI (i + 2)).toNatClampNeg)]) (rest := [.int r1]) (q0 := 0) C (c_X9_piled l D kI kC kB am y.1 y.2.1 y.2.2.1 y.2.2.2.1 y.2.2.2.2.1 y.2.2.2.2.2.1 y.2.2.2.2.2.2.1 y.2.2.2.2.2.2.2.1 y.2.2.2.2.2.2.2.2.1 y.2.2.2.2.2.2.2.2.2.1 y.2.2.2.2.2.2.2.2.2.2.1 y.2.2.2.2.2.2.2.2.2.2.2.1 y.2.2.2.2.2.2.2.2.2.2.2.2.1 y.2.2.2.2.2.2.2.2.2.2.2.2.2 (xs (nI (i + 1)).toNatClampNeg) (xs (nI (i + 2)).toNatClampNeg) _ hwm) ⟨rfl, rfl⟩ ce_X9_piled cv_X9_piled tw_923 ⟨(Nat.le_of_ble_eq_true rfl), (Nat.le_of_ble_eq_true rfl)⟩ hP  (bfl_p1 [_, _] 1 rfl) rfl rfl rfl hl.1 rfl (Nat.le_of_ble_eq_true rfl) ⟨(Nat.le_of_ble_eq_true rfl), (Nat.le_of_ble_eq_true rfl)⟩ dL_law_584 (fun r2 hqr2 => ?_)
  obtain ⟨yy, hyy⟩ : ∃ z : MS, z = y := ⟨_, rfl⟩
  rw [← hyy] at hP hD hqr2
  refine lv_icmp_eq (tgt := 661) hx0 hb dL_law_587 (by decide) (fun hc => ?_) (fun hc => absurd (hqr1.1.trans hqr2.1.symm) hc)
  exact kn9 hh xx yy σ2 _ _ _ hqr1.2 hqr2.2 hP hD hS hl
set_option maxHeartbeats 1000000 in
set_option maxRecDepth 100000 in
theorem law_sheets {p : Program} {l : Launch} {e : Env} {s : State} {m : MethodId} {below : List Frame} {meth : Method} {c : Code} {D : va_G} {kI kC kB : ClassId} {b L : Nat} {xs : Nat → Int32} (C : CtxT p s m #[Value.ref b] meth c code 4 ret "QuireSignsLaw" D kI kC kB) (hX : va_X b L xs s s.heap) (hbl : b < s.heap.size) (hL : L ≤ 2048) (ax : AdT) (h_ : Nat → AdT) (am : AdT) (i : Nat) (hi : i + 4 ≤ L) (kn9 : ∀ (h2 : Nat → AdT) (x2 : XS) (y2 : MS) (σ2 : St) (H : Heap) (locs : List Loc) (ls : Array Slot), XOK σ2 x2 → MOK σ2 y2 → va_P D vwCl (bfl [cwX kI kB ax h2 x2, cwM kI kC am y2]) H → va_D (fun q : Nat => s.heap.size ≤ q) (bfl [cwX kI kB ax h2 x2, cwM kI kC am y2]) → va_S (fun q : Nat => s.heap.size ≤ q) s.heap H locs → lv_has ls 4 [(0, .ref b), (1, .ref (ax 0)), (2, .ref (am 0)), (3, .int (nI i))] → W p l e room_1 s m #[Value.ref b] below meth c H locs 83 3066 (lw_Z below #[Value.ref b] s) (F0 m 661 ls [])) (σ : St) (x : XS) (y : MS) (hx : XOK σ x) (hm : MOK σ y) : ∀ (H : Heap) (locs : List Loc) (ls : Array Slot), va_P D vwCl (bfl [cwX kI kB ax h_ x, cwM kI kC am y]) H → va_D (fun q : Nat => s.heap.size ≤ q) (bfl [cwX kI kB ax h_ x, cwM kI kC am y]) → va_S (fun q : Nat => s.heap.size ≤ q) s.heap H locs → lv_has ls 4 [(0, .ref b), (1, .ref (ax 0)), (2, .ref (am 0)), (3, .int (nI i))] → W p l e room_1 s m #[Value.ref b] below meth c H locs 83 3066 (lw_Z below #[Value.ref b] s) (F0 m 592 ls []) := by
  intro H locs ls hP hD hS hl
  obtain ⟨hx0, hb, hr, hml, hown, hts, hlocks, hK⟩ := id C
  have hA : ∀ q : Nat, s.heap.size ≤ q → (fun q : Nat => s.heap.size ≤ q) q := fun _ h => h
  have hbA : ¬ (fun q : Nat => s.heap.size ≤ q) b := Nat.not_le.mpr hbl
  obtain ⟨r, σ2, hwx, hwm⟩ := op_sheets σ x y hx hm (xs (nI (i + 1)).toNatClampNeg) 
  refine lv_aload_n hx0 hb dL_law_592 rfl (lv_at hl 1 rfl) ?_
  refine lv_aload_n hx0 hb dL_law_593 rfl (lv_at hl 0 rfl) ?_
  refine lv_iload_n hx0 hb dL_law_594 rfl (lv_at hl 3 rfl) ?_
  refine lv_iconst (v := nI 1) hx0 hb dL_law_595 (by decide) ?_
  refine lv_iadd hx0 hb dL_law_596 ?_
  refine lv_topi (fun z ez => ?_)
  obtain rfl : z = nI (i + 1) := by rw [ez, nI_add]
  refine va_sld hx0 hb hX hbl hbA hS (vp_in_nI (by omega) (by omega)) dL_law_597 ?_
  refine kRB (As := [.int (xs (nI (i + 1)).toNatClampNeg)]) (rest := []) (q0 := 0) C (c_X8_sheets l D kI kC kB ax h_ x.1 x.2.1 x.2.2.1 x.2.2.2.1 x.2.2.2.2.1 x.2.2.2.2.2.1 x.2.2.2.2.2.2.1 x.2.2.2.2.2.2.2.1 x.2.2.2.2.2.2.2.2.1 x.2.2.2.2.2.2.2.2.2.1 x.2.2.2.2.2.2.2.2.2.2.1 x.2.2.2.2.2.2.2.2.2.2.2.1 x.2.2.2.2.2.2.2.2.2.2.2.2.1 x.2.2.2.2.2.2.2.2.2.2.2.2.2.1 x.2.2.2.2.2.2.2.2.2.2.2.2.2.2.1 x.2.2.2.2.2.2.2.2.2.2.2.2.2.2.2.1 x.2.2.2.2.2.2.2.2.2.2.2.2.2.2.2.2.1 x.2.2.2.2.2.2.2.2.2.2.2.2.2.2.2.2.2.1 x.2.2.2.2.2.2.2.2.2.2.2.2.2.2.2.2.2.2.1 x.2.2.2.2.2.2.2.2.2.2.2.2.2.2.2.2.2.2.2.1 x.2.2.2.2.2.2.2.2.2.2.2.2.2.2.2.2.2.2.2.2.1 x.2.2.2.2.2.2.2.2.2.2.2.2.2.2.2.2.2.2.2.2.2.1 x.2.2.2.2.2.2.2.2.2.2.2.2.2.2.2.2.2.2.2.2.2.2 (xs (nI (i + 1)).toNatClampNeg) _ hwx) ⟨rfl, rfl⟩ ce_X8_sheets cv_X8_sheets tw_619 ⟨(Nat.le_of_ble_eq_true rfl), (Nat.le_of_ble_eq_true rfl)⟩ hP  (bfl_p1 [_, _] 0 rfl) rfl rfl rfl hl.1 rfl (Nat.le_of_ble_eq_true rfl) ⟨(Nat.le_of_ble_eq_true rfl), (Nat.le_of_ble_eq_true rfl)⟩ dL_law_598 (fun r1 hqr1 => ?_)
  obtain ⟨xx, hxx⟩ : ∃ z : XS, z = x := ⟨_, rfl⟩
  obtain ⟨hh, hhh⟩ : ∃ z : Nat → AdT, z = h_ := ⟨_, rfl⟩
  rw [← hxx, ← hhh] at hP hD
  rw [← hxx] at hqr1
  refine lv_aload_n hx0 hb dL_law_601 rfl (lv_at hl 2 rfl) ?_
  refine lv_aload_n hx0 hb dL_law_602 rfl (lv_at hl 0 rfl) ?_
  refine lv_iload_n hx0 hb dL_law_603 rfl (lv_at hl 3 rfl) ?_
  refine lv_iconst (v := nI 1) hx0 hb dL_law_604 (by decide) ?_
  refine lv_iadd hx0 hb dL_law_605 ?_
  refine lv_topi (fun z ez => ?_)
  obtain rfl : z = nI (i + 1) := by rw [ez, nI_add]
  refine va_sld hx0 hb hX hbl hbA hS (vp_in_nI (by omega) (by omega)) dL_law_606 ?_
  refine kRB (As := [.int (xs (nI (i + 1)).toNatClampNeg)]) (rest := [.int r1]) (q0 := 0) C (c_X9_sheets l D kI kC kB am y.1 y.2.1 y.2.2.1 y.2.2.2.1 y.2.2.2.2.1 y.2.2.2.2.2.1 y.2.2.2.2.2.2.1 y.2.2.2.2.2.2.2.1 y.2.2.2.2.2.2.2.2.1 y.2.2.2.2.2.2.2.2.2.1 y.2.2.2.2.2.2.2.2.2.2.1 y.2.2.2.2.2.2.2.2.2.2.2.1 y.2.2.2.2.2.2.2.2.2.2.2.2.1 y.2.2.2.2.2.2.2.2.2.2.2.2.2 (xs (nI (i + 1)).toNatClampNeg) _ hwm) ⟨rfl, rfl⟩ ce_X9_sheets cv_X9_sheets tw_931 ⟨(Nat.le_of_ble_eq_true rfl), (Nat.le_of_ble_eq_true rfl)⟩ hP  (bfl_p1 [_, _] 1 rfl) rfl rfl rfl hl.1 rfl (Nat.le_of_ble_eq_true rfl) ⟨(Nat.le_of_ble_eq_true rfl), (Nat.le_of_ble_eq_true rfl)⟩ dL_law_607 (fun r2 hqr2 => ?_)
  obtain ⟨yy, hyy⟩ : ∃ z : MS, z = y := ⟨_, rfl⟩
  rw [← hyy] at hP hD hqr2
  refine lv_icmp_eq (tgt := 661) hx0 hb dL_law_610 (by decide) (fun hc => ?_) (fun hc => absurd (hqr1.1.trans hqr2.1.symm) hc)
  exact kn9 hh xx yy σ2 _ _ _ hqr1.2 hqr2.2 hP hD hS hl
set_option maxHeartbeats 1000000 in
set_option maxRecDepth 100000 in
theorem law_formula {p : Program} {l : Launch} {e : Env} {s : State} {m : MethodId} {below : List Frame} {meth : Method} {c : Code} {D : va_G} {kI kC kB : ClassId} {b L : Nat} {xs : Nat → Int32} (C : CtxT p s m #[Value.ref b] meth c code 4 ret "QuireSignsLaw" D kI kC kB) (hX : va_X b L xs s s.heap) (hbl : b < s.heap.size) (hL : L ≤ 2048) (ax : AdT) (h_ : Nat → AdT) (am : AdT) (i : Nat) (hi : i + 4 ≤ L) (kn9 : ∀ (h2 : Nat → AdT) (x2 : XS) (y2 : MS) (σ2 : St) (H : Heap) (locs : List Loc) (ls : Array Slot), XOK σ2 x2 → MOK σ2 y2 → va_P D vwCl (bfl [cwX kI kB ax h2 x2, cwM kI kC am y2]) H → va_D (fun q : Nat => s.heap.size ≤ q) (bfl [cwX kI kB ax h2 x2, cwM kI kC am y2]) → va_S (fun q : Nat => s.heap.size ≤ q) s.heap H locs → lv_has ls 4 [(0, .ref b), (1, .ref (ax 0)), (2, .ref (am 0)), (3, .int (nI i))] → W p l e room_1 s m #[Value.ref b] below meth c H locs 83 3066 (lw_Z below #[Value.ref b] s) (F0 m 661 ls [])) (σ : St) (x : XS) (y : MS) (hx : XOK σ x) (hm : MOK σ y) : ∀ (H : Heap) (locs : List Loc) (ls : Array Slot), va_P D vwCl (bfl [cwX kI kB ax h_ x, cwM kI kC am y]) H → va_D (fun q : Nat => s.heap.size ≤ q) (bfl [cwX kI kB ax h_ x, cwM kI kC am y]) → va_S (fun q : Nat => s.heap.size ≤ q) s.heap H locs → lv_has ls 4 [(0, .ref b), (1, .ref (ax 0)), (2, .ref (am 0)), (3, .int (nI i))] → W p l e room_1 s m #[Value.ref b] below meth c H locs 83 3066 (lw_Z below #[Value.ref b] s) (F0 m 615 ls []) := by
  intro H locs ls hP hD hS hl
  obtain ⟨hx0, hb, hr, hml, hown, hts, hlocks, hK⟩ := id C
  have hA : ∀ q : Nat, s.heap.size ≤ q → (fun q : Nat => s.heap.size ≤ q) q := fun _ h => h
  have hbA : ¬ (fun q : Nat => s.heap.size ≤ q) b := Nat.not_le.mpr hbl
  obtain ⟨r, σ2, hwx, hwm⟩ := op_formula σ x y hx hm (xs (nI (i + 1)).toNatClampNeg) 
  refine lv_aload_n hx0 hb dL_law_615 rfl (lv_at hl 1 rfl) ?_
  refine lv_aload_n hx0 hb dL_law_616 rfl (lv_at hl 0 rfl) ?_
  refine lv_iload_n hx0 hb dL_law_617 rfl (lv_at hl 3 rfl) ?_
  refine lv_iconst (v := nI 1) hx0 hb dL_law_618 (by decide) ?_
  refine lv_iadd hx0 hb dL_law_619 ?_
  refine lv_topi (fun z ez => ?_)
  obtain rfl : z = nI (i + 1) := by rw [ez, nI_add]
  refine va_sld hx0 hb hX hbl hbA hS (vp_in_nI (by omega) (by omega)) dL_law_620 ?_
  refine kMBi (As := [.int (xs (nI (i + 1)).toNatClampNeg)]) (rest := []) (q0 := 0) (ws' := fun u : RowT × Int32 => bfl [cwX kI kB ax h_ (x.1, x.2.1, x.2.2.1, x.2.2.2.1, x.2.2.2.2.1, x.2.2.2.2.2.1, x.2.2.2.2.2.2.1, x.2.2.2.2.2.2.2.1, x.2.2.2.2.2.2.2.2.1, x.2.2.2.2.2.2.2.2.2.1, x.2.2.2.2.2.2.2.2.2.2.1, x.2.2.2.2.2.2.2.2.2.2.2.1, x.2.2.2.2.2.2.2.2.2.2.2.2.1, x.2.2.2.2.2.2.2.2.2.2.2.2.2.1, x.2.2.2.2.2.2.2.2.2.2.2.2.2.2.1, x.2.2.2.2.2.2.2.2.2.2.2.2.2.2.2.1, x.2.2.2.2.2.2.2.2.2.2.2.2.2.2.2.2.1, x.2.2.2.2.2.2.2.2.2.2.2.2.2.2.2.2.2.1, x.2.2.2.2.2.2.2.2.2.2.2.2.2.2.2.2.2.2.1, x.2.2.2.2.2.2.2.2.2.2.2.2.2.2.2.2.2.2.2.1, u.1, u.2, x.2.2.2.2.2.2.2.2.2.2.2.2.2.2.2.2.2.2.2.2.2.2), cwM kI kC am y]) C (c_X8_formula l D kI kC kB ax h_ x.1 x.2.1 x.2.2.1 x.2.2.2.1 x.2.2.2.2.1 x.2.2.2.2.2.1 x.2.2.2.2.2.2.1 x.2.2.2.2.2.2.2.1 x.2.2.2.2.2.2.2.2.1 x.2.2.2.2.2.2.2.2.2.1 x.2.2.2.2.2.2.2.2.2.2.1 x.2.2.2.2.2.2.2.2.2.2.2.1 x.2.2.2.2.2.2.2.2.2.2.2.2.1 x.2.2.2.2.2.2.2.2.2.2.2.2.2.1 x.2.2.2.2.2.2.2.2.2.2.2.2.2.2.1 x.2.2.2.2.2.2.2.2.2.2.2.2.2.2.2.1 x.2.2.2.2.2.2.2.2.2.2.2.2.2.2.2.2.1 x.2.2.2.2.2.2.2.2.2.2.2.2.2.2.2.2.2.1 x.2.2.2.2.2.2.2.2.2.2.2.2.2.2.2.2.2.2.1 x.2.2.2.2.2.2.2.2.2.2.2.2.2.2.2.2.2.2.2.1 x.2.2.2.2.2.2.2.2.2.2.2.2.2.2.2.2.2.2.2.2.1 x.2.2.2.2.2.2.2.2.2.2.2.2.2.2.2.2.2.2.2.2.2.1 x.2.2.2.2.2.2.2.2.2.2.2.2.2.2.2.2.2.2.2.2.2.2 H.size (xs (nI (i + 1)).toNatClampNeg) _ hwx) ⟨rfl, rfl⟩ ce_X8_formula cv_X8_formula tw_623 ⟨(Nat.le_of_ble_eq_true rfl), (Nat.le_of_ble_eq_true rfl)⟩ hP hD hS hA (bfl_p1 [_, _] 0 rfl) (fun u => bfl_p1 [_, _] 0 rfl) rfl rfl rfl hl.1 rfl (Nat.le_of_ble_eq_true rfl) ⟨(Nat.le_of_ble_eq_true rfl), (Nat.le_of_ble_eq_true rfl)⟩ dL_law_621 (fun r1 u H locs hqr1 hP hD hS => ?_)
  obtain ⟨xx, hxx⟩ : ∃ z : XS, z = (x.1, x.2.1, x.2.2.1, x.2.2.2.1, x.2.2.2.2.1, x.2.2.2.2.2.1, x.2.2.2.2.2.2.1, x.2.2.2.2.2.2.2.1, x.2.2.2.2.2.2.2.2.1, x.2.2.2.2.2.2.2.2.2.1, x.2.2.2.2.2.2.2.2.2.2.1, x.2.2.2.2.2.2.2.2.2.2.2.1, x.2.2.2.2.2.2.2.2.2.2.2.2.1, x.2.2.2.2.2.2.2.2.2.2.2.2.2.1, x.2.2.2.2.2.2.2.2.2.2.2.2.2.2.1, x.2.2.2.2.2.2.2.2.2.2.2.2.2.2.2.1, x.2.2.2.2.2.2.2.2.2.2.2.2.2.2.2.2.1, x.2.2.2.2.2.2.2.2.2.2.2.2.2.2.2.2.2.1, x.2.2.2.2.2.2.2.2.2.2.2.2.2.2.2.2.2.2.1, x.2.2.2.2.2.2.2.2.2.2.2.2.2.2.2.2.2.2.2.1, u.1, u.2, x.2.2.2.2.2.2.2.2.2.2.2.2.2.2.2.2.2.2.2.2.2.2) := ⟨_, rfl⟩
  obtain ⟨hh, hhh⟩ : ∃ z : Nat → AdT, z = h_ := ⟨_, rfl⟩
  replace hqr1 : r1 = r ∧ XOK σ2 xx := by rw [hxx]; exact hqr1
  replace hP : va_P D vwCl (bfl [cwX kI kB ax hh xx, cwM kI kC am y]) H := by rw [hxx, hhh]; exact hP
  replace hD : va_D (fun q : Nat => s.heap.size ≤ q) (bfl [cwX kI kB ax hh xx, cwM kI kC am y]) := by rw [hxx, hhh]; exact hD
  clear hxx hhh
  refine lv_aload_n hx0 hb dL_law_624 rfl (lv_at hl 2 rfl) ?_
  refine lv_aload_n hx0 hb dL_law_625 rfl (lv_at hl 0 rfl) ?_
  refine lv_iload_n hx0 hb dL_law_626 rfl (lv_at hl 3 rfl) ?_
  refine lv_iconst (v := nI 1) hx0 hb dL_law_627 (by decide) ?_
  refine lv_iadd hx0 hb dL_law_628 ?_
  refine lv_topi (fun z ez => ?_)
  obtain rfl : z = nI (i + 1) := by rw [ez, nI_add]
  refine va_sld hx0 hb hX hbl hbA hS (vp_in_nI (by omega) (by omega)) dL_law_629 ?_
  refine kMBi (As := [.int (xs (nI (i + 1)).toNatClampNeg)]) (rest := [.int r1]) (q0 := 0) (ws' := fun u : (Nat → Int32) × Int32 × Int32 => bfl [cwX kI kB ax hh xx, cwM kI kC am (y.1, y.2.1, y.2.2.1, u.1, y.2.2.2.2.1, y.2.2.2.2.2.1, y.2.2.2.2.2.2.1, y.2.2.2.2.2.2.2.1, y.2.2.2.2.2.2.2.2.1, y.2.2.2.2.2.2.2.2.2.1, y.2.2.2.2.2.2.2.2.2.2.1, y.2.2.2.2.2.2.2.2.2.2.2.1, u.2.1, u.2.2)]) C (c_X9_formula l D kI kC kB am y.1 y.2.1 y.2.2.1 y.2.2.2.1 y.2.2.2.2.1 y.2.2.2.2.2.1 y.2.2.2.2.2.2.1 y.2.2.2.2.2.2.2.1 y.2.2.2.2.2.2.2.2.1 y.2.2.2.2.2.2.2.2.2.1 y.2.2.2.2.2.2.2.2.2.2.1 y.2.2.2.2.2.2.2.2.2.2.2.1 y.2.2.2.2.2.2.2.2.2.2.2.2.1 y.2.2.2.2.2.2.2.2.2.2.2.2.2 H.size (xs (nI (i + 1)).toNatClampNeg) _ hwm) ⟨rfl, rfl⟩ ce_X9_formula cv_X9_formula tw_935 ⟨(Nat.le_of_ble_eq_true rfl), (Nat.le_of_ble_eq_true rfl)⟩ hP hD hS hA (bfl_p1 [_, _] 1 rfl) (fun u => bfl_p1 [_, _] 1 rfl) rfl rfl rfl hl.1 rfl (Nat.le_of_ble_eq_true rfl) ⟨(Nat.le_of_ble_eq_true rfl), (Nat.le_of_ble_eq_true rfl)⟩ dL_law_630 (fun r2 u H locs hqr2 hP hD hS => ?_)
  obtain ⟨yy, hyy⟩ : ∃ z : MS, z = (y.1, y.2.1, y.2.2.1, u.1, y.2.2.2.2.1, y.2.2.2.2.2.1, y.2.2.2.2.2.2.1, y.2.2.2.2.2.2.2.1, y.2.2.2.2.2.2.2.2.1, y.2.2.2.2.2.2.2.2.2.1, y.2.2.2.2.2.2.2.2.2.2.1, y.2.2.2.2.2.2.2.2.2.2.2.1, u.2.1, u.2.2) := ⟨_, rfl⟩
  replace hqr2 : r2 = r ∧ MOK σ2 yy := by rw [hyy]; exact hqr2
  replace hP : va_P D vwCl (bfl [cwX kI kB ax hh xx, cwM kI kC am yy]) H := by rw [hyy]; exact hP
  replace hD : va_D (fun q : Nat => s.heap.size ≤ q) (bfl [cwX kI kB ax hh xx, cwM kI kC am yy]) := by rw [hyy]; exact hD
  refine lv_icmp_eq (tgt := 661) hx0 hb dL_law_633 (by decide) (fun hc => ?_) (fun hc => absurd (hqr1.1.trans hqr2.1.symm) hc)
  exact kn9 hh xx yy σ2 _ _ _ hqr1.2 hqr2.2 hP hD hS hl
set_option maxHeartbeats 1000000 in
set_option maxRecDepth 100000 in
theorem law_count {p : Program} {l : Launch} {e : Env} {s : State} {m : MethodId} {below : List Frame} {meth : Method} {c : Code} {D : va_G} {kI kC kB : ClassId} {b L : Nat} {xs : Nat → Int32} (C : CtxT p s m #[Value.ref b] meth c code 4 ret "QuireSignsLaw" D kI kC kB) (hX : va_X b L xs s s.heap) (hbl : b < s.heap.size) (hL : L ≤ 2048) (ax : AdT) (h_ : Nat → AdT) (am : AdT) (i : Nat) (hi : i + 4 ≤ L) (kn9 : ∀ (h2 : Nat → AdT) (x2 : XS) (y2 : MS) (σ2 : St) (H : Heap) (locs : List Loc) (ls : Array Slot), XOK σ2 x2 → MOK σ2 y2 → va_P D vwCl (bfl [cwX kI kB ax h2 x2, cwM kI kC am y2]) H → va_D (fun q : Nat => s.heap.size ≤ q) (bfl [cwX kI kB ax h2 x2, cwM kI kC am y2]) → va_S (fun q : Nat => s.heap.size ≤ q) s.heap H locs → lv_has ls 4 [(0, .ref b), (1, .ref (ax 0)), (2, .ref (am 0)), (3, .int (nI i))] → W p l e room_1 s m #[Value.ref b] below meth c H locs 83 3066 (lw_Z below #[Value.ref b] s) (F0 m 661 ls [])) (σ : St) (x : XS) (y : MS) (hx : XOK σ x) (hm : MOK σ y) : ∀ (H : Heap) (locs : List Loc) (ls : Array Slot), va_P D vwCl (bfl [cwX kI kB ax h_ x, cwM kI kC am y]) H → va_D (fun q : Nat => s.heap.size ≤ q) (bfl [cwX kI kB ax h_ x, cwM kI kC am y]) → va_S (fun q : Nat => s.heap.size ≤ q) s.heap H locs → lv_has ls 4 [(0, .ref b), (1, .ref (ax 0)), (2, .ref (am 0)), (3, .int (nI i))] → W p l e room_1 s m #[Value.ref b] below meth c H locs 83 3066 (lw_Z below #[Value.ref b] s) (F0 m 638 ls []) := by
  intro H locs ls hP hD hS hl
  obtain ⟨hx0, hb, hr, hml, hown, hts, hlocks, hK⟩ := id C
  have hA : ∀ q : Nat, s.heap.size ≤ q → (fun q : Nat => s.heap.size ≤ q) q := fun _ h => h
  have hbA : ¬ (fun q : Nat => s.heap.size ≤ q) b := Nat.not_le.mpr hbl
  obtain ⟨r, σ2, hwx, hwm⟩ := op_count σ x y hx hm (xs (nI (i + 1)).toNatClampNeg) 
  refine lv_aload_n hx0 hb dL_law_638 rfl (lv_at hl 1 rfl) ?_
  refine lv_aload_n hx0 hb dL_law_639 rfl (lv_at hl 0 rfl) ?_
  refine lv_iload_n hx0 hb dL_law_640 rfl (lv_at hl 3 rfl) ?_
  refine lv_iconst (v := nI 1) hx0 hb dL_law_641 (by decide) ?_
  refine lv_iadd hx0 hb dL_law_642 ?_
  refine lv_topi (fun z ez => ?_)
  obtain rfl : z = nI (i + 1) := by rw [ez, nI_add]
  refine va_sld hx0 hb hX hbl hbA hS (vp_in_nI (by omega) (by omega)) dL_law_643 ?_
  refine kMBi (As := [.int (xs (nI (i + 1)).toNatClampNeg)]) (rest := []) (q0 := 0) (ws' := fun u : RowT × Int32 => bfl [cwX kI kB ax h_ (x.1, x.2.1, x.2.2.1, x.2.2.2.1, x.2.2.2.2.1, x.2.2.2.2.2.1, x.2.2.2.2.2.2.1, x.2.2.2.2.2.2.2.1, x.2.2.2.2.2.2.2.2.1, x.2.2.2.2.2.2.2.2.2.1, x.2.2.2.2.2.2.2.2.2.2.1, x.2.2.2.2.2.2.2.2.2.2.2.1, x.2.2.2.2.2.2.2.2.2.2.2.2.1, x.2.2.2.2.2.2.2.2.2.2.2.2.2.1, x.2.2.2.2.2.2.2.2.2.2.2.2.2.2.1, x.2.2.2.2.2.2.2.2.2.2.2.2.2.2.2.1, x.2.2.2.2.2.2.2.2.2.2.2.2.2.2.2.2.1, x.2.2.2.2.2.2.2.2.2.2.2.2.2.2.2.2.2.1, x.2.2.2.2.2.2.2.2.2.2.2.2.2.2.2.2.2.2.1, x.2.2.2.2.2.2.2.2.2.2.2.2.2.2.2.2.2.2.2.1, u.1, u.2, x.2.2.2.2.2.2.2.2.2.2.2.2.2.2.2.2.2.2.2.2.2.2), cwM kI kC am y]) C (c_X8_count l D kI kC kB ax h_ x.1 x.2.1 x.2.2.1 x.2.2.2.1 x.2.2.2.2.1 x.2.2.2.2.2.1 x.2.2.2.2.2.2.1 x.2.2.2.2.2.2.2.1 x.2.2.2.2.2.2.2.2.1 x.2.2.2.2.2.2.2.2.2.1 x.2.2.2.2.2.2.2.2.2.2.1 x.2.2.2.2.2.2.2.2.2.2.2.1 x.2.2.2.2.2.2.2.2.2.2.2.2.1 x.2.2.2.2.2.2.2.2.2.2.2.2.2.1 x.2.2.2.2.2.2.2.2.2.2.2.2.2.2.1 x.2.2.2.2.2.2.2.2.2.2.2.2.2.2.2.1 x.2.2.2.2.2.2.2.2.2.2.2.2.2.2.2.2.1 x.2.2.2.2.2.2.2.2.2.2.2.2.2.2.2.2.2.1 x.2.2.2.2.2.2.2.2.2.2.2.2.2.2.2.2.2.2.1 x.2.2.2.2.2.2.2.2.2.2.2.2.2.2.2.2.2.2.2.1 x.2.2.2.2.2.2.2.2.2.2.2.2.2.2.2.2.2.2.2.2.1 x.2.2.2.2.2.2.2.2.2.2.2.2.2.2.2.2.2.2.2.2.2.1 x.2.2.2.2.2.2.2.2.2.2.2.2.2.2.2.2.2.2.2.2.2.2 H.size (xs (nI (i + 1)).toNatClampNeg) _ hwx) ⟨rfl, rfl⟩ ce_X8_count cv_X8_count tw_663 ⟨(Nat.le_of_ble_eq_true rfl), (Nat.le_of_ble_eq_true rfl)⟩ hP hD hS hA (bfl_p1 [_, _] 0 rfl) (fun u => bfl_p1 [_, _] 0 rfl) rfl rfl rfl hl.1 rfl (Nat.le_of_ble_eq_true rfl) ⟨(Nat.le_of_ble_eq_true rfl), (Nat.le_of_ble_eq_true rfl)⟩ dL_law_644 (fun r1 u H locs hqr1 hP hD hS => ?_)
  obtain ⟨xx, hxx⟩ : ∃ z : XS, z = (x.1, x.2.1, x.2.2.1, x.2.2.2.1, x.2.2.2.2.1, x.2.2.2.2.2.1, x.2.2.2.2.2.2.1, x.2.2.2.2.2.2.2.1, x.2.2.2.2.2.2.2.2.1, x.2.2.2.2.2.2.2.2.2.1, x.2.2.2.2.2.2.2.2.2.2.1, x.2.2.2.2.2.2.2.2.2.2.2.1, x.2.2.2.2.2.2.2.2.2.2.2.2.1, x.2.2.2.2.2.2.2.2.2.2.2.2.2.1, x.2.2.2.2.2.2.2.2.2.2.2.2.2.2.1, x.2.2.2.2.2.2.2.2.2.2.2.2.2.2.2.1, x.2.2.2.2.2.2.2.2.2.2.2.2.2.2.2.2.1, x.2.2.2.2.2.2.2.2.2.2.2.2.2.2.2.2.2.1, x.2.2.2.2.2.2.2.2.2.2.2.2.2.2.2.2.2.2.1, x.2.2.2.2.2.2.2.2.2.2.2.2.2.2.2.2.2.2.2.1, u.1, u.2, x.2.2.2.2.2.2.2.2.2.2.2.2.2.2.2.2.2.2.2.2.2.2) := ⟨_, rfl⟩
  obtain ⟨hh, hhh⟩ : ∃ z : Nat → AdT, z = h_ := ⟨_, rfl⟩
  replace hqr1 : r1 = r ∧ XOK σ2 xx := by rw [hxx]; exact hqr1
  replace hP : va_P D vwCl (bfl [cwX kI kB ax hh xx, cwM kI kC am y]) H := by rw [hxx, hhh]; exact hP
  replace hD : va_D (fun q : Nat => s.heap.size ≤ q) (bfl [cwX kI kB ax hh xx, cwM kI kC am y]) := by rw [hxx, hhh]; exact hD
  clear hxx hhh
  refine lv_aload_n hx0 hb dL_law_647 rfl (lv_at hl 2 rfl) ?_
  refine lv_aload_n hx0 hb dL_law_648 rfl (lv_at hl 0 rfl) ?_
  refine lv_iload_n hx0 hb dL_law_649 rfl (lv_at hl 3 rfl) ?_
  refine lv_iconst (v := nI 1) hx0 hb dL_law_650 (by decide) ?_
  refine lv_iadd hx0 hb dL_law_651 ?_
  refine lv_topi (fun z ez => ?_)
  obtain rfl : z = nI (i + 1) := by rw [ez, nI_add]
  refine va_sld hx0 hb hX hbl hbA hS (vp_in_nI (by omega) (by omega)) dL_law_652 ?_
  refine kMBi (As := [.int (xs (nI (i + 1)).toNatClampNeg)]) (rest := [.int r1]) (q0 := 0) (ws' := fun u : (Nat → Int32) × Int32 × Int32 => bfl [cwX kI kB ax hh xx, cwM kI kC am (y.1, y.2.1, y.2.2.1, u.1, y.2.2.2.2.1, y.2.2.2.2.2.1, y.2.2.2.2.2.2.1, y.2.2.2.2.2.2.2.1, y.2.2.2.2.2.2.2.2.1, y.2.2.2.2.2.2.2.2.2.1, y.2.2.2.2.2.2.2.2.2.2.1, y.2.2.2.2.2.2.2.2.2.2.2.1, u.2.1, u.2.2)]) C (c_X9_count l D kI kC kB am y.1 y.2.1 y.2.2.1 y.2.2.2.1 y.2.2.2.2.1 y.2.2.2.2.2.1 y.2.2.2.2.2.2.1 y.2.2.2.2.2.2.2.1 y.2.2.2.2.2.2.2.2.1 y.2.2.2.2.2.2.2.2.2.1 y.2.2.2.2.2.2.2.2.2.2.1 y.2.2.2.2.2.2.2.2.2.2.2.1 y.2.2.2.2.2.2.2.2.2.2.2.2.1 y.2.2.2.2.2.2.2.2.2.2.2.2.2 H.size (xs (nI (i + 1)).toNatClampNeg) _ hwm) ⟨rfl, rfl⟩ ce_X9_count cv_X9_count tw_955 ⟨(Nat.le_of_ble_eq_true rfl), (Nat.le_of_ble_eq_true rfl)⟩ hP hD hS hA (bfl_p1 [_, _] 1 rfl) (fun u => bfl_p1 [_, _] 1 rfl) rfl rfl rfl hl.1 rfl (Nat.le_of_ble_eq_true rfl) ⟨(Nat.le_of_ble_eq_true rfl), (Nat.le_of_ble_eq_true rfl)⟩ dL_law_653 (fun r2 u H locs hqr2 hP hD hS => ?_)
  obtain ⟨yy, hyy⟩ : ∃ z : MS, z = (y.1, y.2.1, y.2.2.1, u.1, y.2.2.2.2.1, y.2.2.2.2.2.1, y.2.2.2.2.2.2.1, y.2.2.2.2.2.2.2.1, y.2.2.2.2.2.2.2.2.1, y.2.2.2.2.2.2.2.2.2.1, y.2.2.2.2.2.2.2.2.2.2.1, y.2.2.2.2.2.2.2.2.2.2.2.1, u.2.1, u.2.2) := ⟨_, rfl⟩
  replace hqr2 : r2 = r ∧ MOK σ2 yy := by rw [hyy]; exact hqr2
  replace hP : va_P D vwCl (bfl [cwX kI kB ax hh xx, cwM kI kC am yy]) H := by rw [hyy]; exact hP
  replace hD : va_D (fun q : Nat => s.heap.size ≤ q) (bfl [cwX kI kB ax hh xx, cwM kI kC am yy]) := by rw [hyy]; exact hD
  refine lv_icmp_eq (tgt := 661) hx0 hb dL_law_656 (by decide) (fun hc => ?_) (fun hc => absurd (hqr1.1.trans hqr2.1.symm) hc)
  exact kn9 hh xx yy σ2 _ _ _ hqr1.2 hqr2.2 hP hD hS hl
set_option maxHeartbeats 1000000 in
set_option maxRecDepth 100000 in
theorem law_loop {p : Program} {l : Launch} {e : Env} {s : State} {m : MethodId} {below : List Frame} {meth : Method} {c : Code} {D : va_G} {kI kC kB : ClassId} {b L : Nat} {xs : Nat → Int32} (C : CtxT p s m #[Value.ref b] meth c code 4 ret "QuireSignsLaw" D kI kC kB) (hX : va_X b L xs s s.heap) (hbl : b < s.heap.size) (hL : L ≤ 2048) (ax am : AdT) : ∀ (n i : Nat), i ≤ L → L + 1 ≤ i + n → ∀ (h_ : Nat → AdT) (σ : St) (x : XS) (y : MS), XOK σ x → MOK σ y → ∀ (H : Heap) (locs : List Loc) (ls : Array Slot), va_P D vwCl (bfl [cwX kI kB ax h_ x, cwM kI kC am y]) H → va_D (fun q : Nat => s.heap.size ≤ q) (bfl [cwX kI kB ax h_ x, cwM kI kC am y]) → va_S (fun q : Nat => s.heap.size ≤ q) s.heap H locs → lv_has ls 4 [(0, .ref b), (1, .ref (ax 0)), (2, .ref (am 0)), (3, .int (nI i))] → W p l e room_1 s m #[Value.ref b] below meth c H locs 83 3066 (lw_Z below #[Value.ref b] s) (F0 m 18 ls []) := by
  obtain ⟨hx0, hb, hr, hml, hown, hts, hlocks, hK⟩ := id C
  have hbA : ¬ (fun q : Nat => s.heap.size ≤ q) b := Nat.not_le.mpr hbl
  intro n
  induction n with
  | zero => intro i h1 h2; exact absurd h2 (by omega)
  | succ n ih =>
    intro i hi hin h_ σ x y hx hm H locs ls hP hD hS hl
    refine lv_iload_n hx0 hb dL_law_18 rfl (lv_at hl 3 rfl) ?_
    refine lv_aload_n hx0 hb dL_law_19 rfl (lv_at hl 0 rfl) ?_
    refine va_slen hx0 hb hX hbl hbA hS dL_law_20 ?_
    refine lv_iconst (v := nI 4) hx0 hb dL_law_21 (by decide) ?_
    refine lv_isub hx0 hb dL_law_22 ?_
    refine lv_icmp_gt (tgt := 667) hx0 hb dL_law_23 (by decide) (fun hc => ?_) (fun hc => ?_)
    · refine lv_iconst (v := 1) hx0 hb dL_law_667 (by decide) ?_
      refine va_forget (fun q hq => hS.2.2 q hq) ?_
      refine W.widen (k := 600000) (n := 7302250) (Nat.le_of_ble_eq_true rfl) (Nat.le_of_ble_eq_true rfl) ?_
      exact lw_ret hx0 hb hr hlocks dL_law_668
    · have hi4 : i + 4 ≤ L := law_end hL hi hc
      have kn9 : ∀ (h2 : Nat → AdT) (x2 : XS) (y2 : MS) (σ2 : St) (H : Heap) (locs : List Loc) (ls : Array Slot), XOK σ2 x2 → MOK σ2 y2 → va_P D vwCl (bfl [cwX kI kB ax h2 x2, cwM kI kC am y2]) H → va_D (fun q : Nat => s.heap.size ≤ q) (bfl [cwX kI kB ax h2 x2, cwM kI kC am y2]) → va_S (fun q : Nat => s.heap.size ≤ q) s.heap H locs → lv_has ls 4 [(0, .ref b), (1, .ref (ax 0)), (2, .ref (am 0)), (3, .int (nI i))] → W p l e room_1 s m #[Value.ref b] below meth c H locs 83 3066 (lw_Z below #[Value.ref b] s) (F0 m 661 ls []) := by
        intro h2 x2 y2 σ2 H locs ls g1 g2 hP hD hS hl
        refine lv_iinc (v := nI (i + 4)) (lv' := [(3, .int (nI (i + 4))), (0, .ref b), (1, .ref (ax 0)), (2, .ref (am 0))]) hx0 hb dL_law_661 hl (k := 3) rfl (by rw [← nI_add]; rfl) (by decide) rfl (fun ls hl => ?_)
        refine lv_goto (tgt := 18) hx0 hb dL_law_664 (by decide) ?_
        exact ih (i + 4) hi4 (by omega) h2 σ2 x2 y2 g1 g2 _ _ _ hP hD hS (lv_sub hl [1, 2, 3, 0] rfl)
      refine lv_aload_n hx0 hb dL_law_26 rfl (lv_at hl 0 rfl) ?_
      refine lv_iload_n hx0 hb dL_law_27 rfl (lv_at hl 3 rfl) ?_
      refine va_sld hx0 hb hX hbl hbA hS (vp_in_nI (by omega) (by omega)) dL_law_28 ?_
      refine lv_bipush (v := nI 31) hx0 hb dL_law_29 (by decide) ?_
      refine lv_iand hx0 hb dL_law_31 ?_
      refine lv_topi (fun z ez => ?_)
      by_cases hc0 : z = nI 0
      · refine lv_tableIn (tgt := 132) (off := 100) hx0 hb dL_law_32 (by rw [hc0]; decide) (by rw [hc0]; decide) (by rw [hc0]; rfl) (by decide) ?_
        exact law_leaveOut C hX hbl hL ax h_ am i hi4 kn9 σ x y hx hm _ _ _ hP hD hS hl
      by_cases hc1 : z = nI 1
      · refine lv_tableIn (tgt := 183) (off := 151) hx0 hb dL_law_32 (by rw [hc1]; decide) (by rw [hc1]; decide) (by rw [hc1]; rfl) (by decide) ?_
        exact law_setSigning C hX hbl hL ax h_ am i hi4 kn9 σ x y hx hm _ _ _ hP hD hS hl
      by_cases hc2 : z = nI 2
      · refine lv_tableIn (tgt := 206) (off := 174) hx0 hb dL_law_32 (by rw [hc2]; decide) (by rw [hc2]; decide) (by rw [hc2]; rfl) (by decide) ?_
        exact law_readFormula C hX hbl hL ax h_ am i hi4 kn9 σ x y hx hm _ _ _ hP hD hS hl
      by_cases hc3 : z = nI 3
      · refine lv_tableIn (tgt := 219) (off := 187) hx0 hb dL_law_32 (by rw [hc3]; decide) (by rw [hc3]; decide) (by rw [hc3]; rfl) (by decide) ?_
        exact law_signNext C hX hbl hL ax h_ am i hi4 kn9 σ x y hx hm _ _ _ hP hD hS hl
      by_cases hc4 : z = nI 4
      · refine lv_tableIn (tgt := 242) (off := 210) hx0 hb dL_law_32 (by rw [hc4]; decide) (by rw [hc4]; decide) (by rw [hc4]; rfl) (by decide) ?_
        exact law_insert C hX hbl hL ax h_ am i hi4 kn9 σ x y hx hm _ _ _ hP hD hS hl
      by_cases hc5 : z = nI 5
      · refine lv_tableIn (tgt := 285) (off := 253) hx0 hb dL_law_32 (by rw [hc5]; decide) (by rw [hc5]; decide) (by rw [hc5]; rfl) (by decide) ?_
        exact law_remove C hX hbl hL ax h_ am i hi4 kn9 σ x y hx hm _ _ _ hP hD hS hl
      by_cases hc6 : z = nI 6
      · refine lv_tableIn (tgt := 308) (off := 276) hx0 hb dL_law_32 (by rw [hc6]; decide) (by rw [hc6]; decide) (by rw [hc6]; rfl) (by decide) ?_
        exact law_lose C hX hbl hL ax h_ am i hi4 kn9 σ x y hx hm _ _ _ hP hD hS hl
      by_cases hc7 : z = nI 7
      · refine lv_tableIn (tgt := 357) (off := 325) hx0 hb dL_law_32 (by rw [hc7]; decide) (by rw [hc7]; decide) (by rw [hc7]; rfl) (by decide) ?_
        exact law_readPile C hX hbl hL ax h_ am i hi4 kn9 σ x y hx hm _ _ _ hP hD hS hl
      by_cases hc8 : z = nI 8
      · refine lv_tableIn (tgt := 370) (off := 338) hx0 hb dL_law_32 (by rw [hc8]; decide) (by rw [hc8]; decide) (by rw [hc8]; rfl) (by decide) ?_
        exact law_type C hX hbl hL ax h_ am i hi4 kn9 σ x y hx hm _ _ _ hP hD hS hl
      by_cases hc9 : z = nI 9
      · refine lv_tableIn (tgt := 395) (off := 363) hx0 hb dL_law_32 (by rw [hc9]; decide) (by rw [hc9]; decide) (by rw [hc9]; rfl) (by decide) ?_
        exact law_clearText C hX hbl hL ax h_ am i hi4 kn9 σ x y hx hm _ _ _ hP hD hS hl
      by_cases hc10 : z = nI 10
      · refine lv_tableIn (tgt := 408) (off := 376) hx0 hb dL_law_32 (by rw [hc10]; decide) (by rw [hc10]; decide) (by rw [hc10]; rfl) (by decide) ?_
        exact law_undo C hX hbl hL ax h_ am i hi4 kn9 σ x y hx hm _ _ _ hP hD hS hl
      by_cases hc11 : z = nI 11
      · refine lv_tableIn (tgt := 421) (off := 389) hx0 hb dL_law_32 (by rw [hc11]; decide) (by rw [hc11]; decide) (by rw [hc11]; rfl) (by decide) ?_
        exact law_keep C hX hbl hL ax h_ am i hi4 kn9 σ x y hx hm _ _ _ hP hD hS hl
      by_cases hc12 : z = nI 12
      · refine lv_tableIn (tgt := 434) (off := 402) hx0 hb dL_law_32 (by rw [hc12]; decide) (by rw [hc12]; decide) (by rw [hc12]; rfl) (by decide) ?_
        exact law_restore C hX hbl hL ax h_ am i hi4 kn9 σ x y hx hm _ _ _ hP hD hS hl
      by_cases hc13 : z = nI 13
      · refine lv_tableIn (tgt := 447) (off := 415) hx0 hb dL_law_32 (by rw [hc13]; decide) (by rw [hc13]; decide) (by rw [hc13]; rfl) (by decide) ?_
        exact law_quire C hX hbl hL ax h_ am i hi4 kn9 σ x y hx hm _ _ _ hP hD hS hl
      by_cases hc14 : z = nI 14
      · refine lv_tableIn (tgt := 480) (off := 448) hx0 hb dL_law_32 (by rw [hc14]; decide) (by rw [hc14]; decide) (by rw [hc14]; rfl) (by decide) ?_
        exact law_leaf C hX hbl hL ax h_ am i hi4 kn9 σ x y hx hm _ _ _ hP hD hS hl
      by_cases hc15 : z = nI 15
      · refine lv_tableIn (tgt := 513) (off := 481) hx0 hb dL_law_32 (by rw [hc15]; decide) (by rw [hc15]; decide) (by rw [hc15]; rfl) (by decide) ?_
        exact law_find C hX hbl hL ax h_ am i hi4 kn9 σ x y hx hm _ _ _ hP hD hS hl
      by_cases hc16 : z = nI 16
      · refine lv_tableIn (tgt := 526) (off := 494) hx0 hb dL_law_32 (by rw [hc16]; decide) (by rw [hc16]; decide) (by rw [hc16]; rfl) (by decide) ?_
        exact law_lapse C hX hbl hL ax h_ am i hi4 kn9 σ x y hx hm _ _ _ hP hD hS hl
      by_cases hc17 : z = nI 17
      · refine lv_tableIn (tgt := 559) (off := 527) hx0 hb dL_law_32 (by rw [hc17]; decide) (by rw [hc17]; decide) (by rw [hc17]; rfl) (by decide) ?_
        exact law_piled C hX hbl hL ax h_ am i hi4 kn9 σ x y hx hm _ _ _ hP hD hS hl
      by_cases hc18 : z = nI 18
      · refine lv_tableIn (tgt := 592) (off := 560) hx0 hb dL_law_32 (by rw [hc18]; decide) (by rw [hc18]; decide) (by rw [hc18]; rfl) (by decide) ?_
        exact law_sheets C hX hbl hL ax h_ am i hi4 kn9 σ x y hx hm _ _ _ hP hD hS hl
      by_cases hc19 : z = nI 19
      · refine lv_tableIn (tgt := 615) (off := 583) hx0 hb dL_law_32 (by rw [hc19]; decide) (by rw [hc19]; decide) (by rw [hc19]; rfl) (by decide) ?_
        exact law_formula C hX hbl hL ax h_ am i hi4 kn9 σ x y hx hm _ _ _ hP hD hS hl
      by_cases hc20 : z = nI 20
      · refine lv_tableIn (tgt := 638) (off := 606) hx0 hb dL_law_32 (by rw [hc20]; decide) (by rw [hc20]; decide) (by rw [hc20]; rfl) (by decide) ?_
        exact law_count C hX hbl hL ax h_ am i hi4 kn9 σ x y hx hm _ _ _ hP hD hS hl
      refine lv_tableOut (tgt := 661) hx0 hb dL_law_32 (by have := lv_neT hc0 (a := 0) (by decide); have := lv_neT hc1 (a := 1) (by decide); have := lv_neT hc2 (a := 2) (by decide); have := lv_neT hc3 (a := 3) (by decide); have := lv_neT hc4 (a := 4) (by decide); have := lv_neT hc5 (a := 5) (by decide); have := lv_neT hc6 (a := 6) (by decide); have := lv_neT hc7 (a := 7) (by decide); have := lv_neT hc8 (a := 8) (by decide); have := lv_neT hc9 (a := 9) (by decide); have := lv_neT hc10 (a := 10) (by decide); have := lv_neT hc11 (a := 11) (by decide); have := lv_neT hc12 (a := 12) (by decide); have := lv_neT hc13 (a := 13) (by decide); have := lv_neT hc14 (a := 14) (by decide); have := lv_neT hc15 (a := 15) (by decide); have := lv_neT hc16 (a := 16) (by decide); have := lv_neT hc17 (a := 17) (by decide); have := lv_neT hc18 (a := 18) (by decide); have := lv_neT hc19 (a := 19) (by decide); have := lv_neT hc20 (a := 20) (by decide); omega) (by decide) ?_
      exact kn9 h_ x y σ _ _ _ hx hm hP hD hS hl
theorem ao_known {C : String} {s : State} (h : va_AO C s) : ∃ kB : ClassId, ArrOfT s kB (.object C) ∧ va_RA s kB (.object C) := by
  obtain ⟨comp, c, k, h1, h2, h3, h4, h5⟩ := Cond.arrayOver_spec (va_AO.use (A := #[]) h)
  exact ⟨c, fun N z => ⟨(fun k h => by cases h), k, h3, comp, h4⟩, k, comp, h3, h4, h1, h5⟩
set_option maxHeartbeats 1000000 in
set_option maxRecDepth 100000 in
theorem whole_start {p : Program} {e : Env} {s : State} {m : MethodId} {below : List Frame} {meth : Method} {c : Code} (l : Launch) (hflags : l.flags = flags0) {b L : Nat} {xs : Nat → Int32} (hL : L ≤ 2048) (C0 : lw_At p s m meth c b L xs) : W p l e room_1 s m #[Value.ref b] below meth c s.heap [] 0 0 (lw_Z below #[Value.ref b] s) (entryFrame m ([Value.ref b] : List Value).toArray 4) := by
  obtain ⟨hx0, hb, hr, hml, hown, hts0, hX, hbl, hlocks, hgv⟩ := id C0
  have hts : ∀ w ∈ gw, w.before #[Value.ref b] s = true := fun w h => hts0 w (List.mem_filter.mp h).1
  have hA : ∀ q : Nat, s.heap.size ≤ q → (fun q : Nat => s.heap.size ≤ q) q := fun _ h => h
  have hbA : ¬ (fun q : Nat => s.heap.size ≤ q) b := Nat.not_le.mpr hbl
  obtain ⟨c0, iS0, hKn0⟩ := u_known (C := RX0) (T := TX0) (N := 1) (n := 1) hts inX0 (hts (.instantiable RX0 1) tw_83)
  obtain ⟨c1, iS1, hKn1⟩ := u_known (C := RX1) (T := TX1) (N := 6) (n := 6) hts inX1 (hts (.instantiable RX1 6) tw_77)
  obtain ⟨c2, iS2, hKn2⟩ := u_known (C := RX2) (T := TX2) (N := 2) (n := 2) hts inX2 (hts (.instantiable RX2 2) tw_140)
  obtain ⟨c3, iS3, hKn3⟩ := u_known (C := RX4) (T := TX4) (N := 2) (n := 2) hts inX4 (hts (.instantiable RX4 2) tw_94)
  obtain ⟨c4, iS4, hKn4⟩ := u_known (C := RX6) (T := TX6) (N := 6) (n := 6) hts inX6 (hts (.instantiable RX6 6) tw_156)
  obtain ⟨c5, iS5, hKn5⟩ := u_known (C := RX7) (T := TX7) (N := 2) (n := 2) hts inX7 (hts (.instantiable RX7 2) tw_185)
  obtain ⟨c6, iS6, hKn6⟩ := u_known (C := RX8) (T := TX8) (N := 7) (n := 7) hts inX8 (hts (.instantiable RX8 7) tw_69)
  obtain ⟨c7, iS7, hKn7⟩ := u_known (C := RX9) (T := TX9) (N := 14) (n := 14) hts inX9 (hts (.instantiable RX9 14) tw_679)
  obtain ⟨D, hKc⟩ : ∃ D : va_G, ∀ (k : Nat) (q : vw_C), vwCl[k]? = some q → u_Kn s q.1 q.2.1 q.2.2 (D.1 k) (D.2 k) := by
    refine ⟨((fun k => if k = 0 then c0 else if k = 1 then c1 else if k = 2 then c2 else if k = 3 then c3 else if k = 4 then c4 else if k = 5 then c5 else if k = 6 then c6 else c7), (fun k => if k = 0 then iS0 else if k = 1 then iS1 else if k = 2 then iS2 else if k = 3 then iS3 else if k = 4 then iS4 else if k = 5 then iS5 else if k = 6 then iS6 else iS7)), ?_⟩
    intro k q hq
    match k, hq with
    | 0, hq => cases hq; exact hKn0
    | 1, hq => cases hq; exact hKn1
    | 2, hq => cases hq; exact hKn2
    | 3, hq => cases hq; exact hKn3
    | 4, hq => cases hq; exact hKn4
    | 5, hq => cases hq; exact hKn5
    | 6, hq => cases hq; exact hKn6
    | 7, hq => cases hq; exact hKn7
    | k + 8, hq => simp [vwCl] at hq
  obtain ⟨kI, kAI, compI, hfI, hkI, hkindI⟩ := Cond.arrayClass_spec (hts _ tw_109)
  obtain ⟨kC, kAC, compC, hfC, hkC, hkindC⟩ := Cond.arrayClass_spec (hts _ tw_728)
  have hAO : va_AO "QuireSigns$Book" s := va_AO.of (hts0 _ (List.mem_of_getElem? (i := 146) rfl))
  obtain ⟨kB, hB1, hB2⟩ := ao_known hAO
  have hN : nst s := fun w hw => va_Nw.of (nwl_tab w hw) (hts0 w (nwl_in w hw))
  have hK : kn D kI kC kB s := by
    refine ⟨⟨hKc, fun k q h => ?_⟩, hN, hAO⟩
    match k, h with
    | 0, h => cases h; exact ⟨fun n z => ⟨fun k h => (by cases h), kAI, hkI, compI, hkindI⟩, hfI⟩
    | 1, h => cases h; exact ⟨fun n z => ⟨fun k h => (by cases h), kAC, hkC, compC, hkindC⟩, hfC⟩
    | 2, h => cases h; exact ⟨hB1, hB2⟩
    | k + 3, h => simp at h
  have C : CtxT p s m #[Value.ref b] meth c code 4 ret "QuireSignsLaw" D kI kC kB := ⟨hx0, hb, hr, hml, hown, hts, hlocks, hK⟩
  have hS : va_S (fun q : Nat => s.heap.size ≤ q) s.heap s.heap [] := va_S.rf
  have hP : va_P D vwCl [] s.heap := fun k q h => by simp at h
  have hD : va_D (fun q : Nat => s.heap.size ≤ q) [] := ⟨fun i j p q h => by simp at h, fun k q h => by simp at h⟩
  have hl := lv_entry ([.ref b]) (n := 4) (Nat.le_of_ble_eq_true rfl)
  rw [lg_entry_eq]
  generalize (lg_sl ([.ref b]) ++ List.replicate (4 - (lg_sl ([.ref b])).length) Slot.unset).toArray = ls at hl ⊢
  have hl : lv_has ls 4 [(0, .ref b)] := hl
  refine va_new (ci := 6) (fs := [.null, .null, .int 0, .null, .null, .null, .null]) (C := RX8) (T := TX8) (N := 7) hx0 hb hts inX8 tyX8 tyX8_ok hown (hts _ tw_68) (hts _ tw_69) (hts _ tw_56) hK.1 hP hD hS hA rfl (fun j hj => by rcases (show j = 0 ∨ j = 1 ∨ j = 2 ∨ j = 3 ∨ j = 4 ∨ j = 5 ∨ j = 6 by omega) with rfl | rfl | rfl | rfl | rfl | rfl | rfl <;> rfl) (Nat.le_of_ble_eq_true rfl) (Nat.le_of_ble_eq_true rfl) dL_law_0 (fun q1 H hP hD hS => ?_)
  refine lv_dup hx0 hb dL_law_3 rfl ?_
  refine kMI (wr := []) (As := []) (rest := [.ref q1]) C (c_X8_init l D kI kC kB q1 H.size) ⟨rfl, rfl⟩ ce_X8_init tw_71 rfl tw_70 ⟨(Nat.le_of_ble_eq_true rfl), (Nat.le_of_ble_eq_true rfl)⟩ hP hD hS hA hl.1 rfl (Nat.le_of_ble_eq_true rfl) ⟨(Nat.le_of_ble_eq_true rfl), (Nat.le_of_ble_eq_true rfl)⟩ dL_law_4 (fun a1 H locs h1 hP2 hD2 hS2 => ?_)
  subst h1
  have hP := hP2
  have hD := hD2
  have hS := hS2
  clear hP2 hD2 hS2
  obtain ⟨ax, h_⟩ := a1
  replace hP : va_P D vwCl (cwX kI kB ax h_ x00) H := hP
  replace hD : va_D (fun q : Nat => s.heap.size ≤ q) (cwX kI kB ax h_ x00) := hD
  refine lv_astore_n (lv' := [(1, .ref (ax 0)), (0, .ref b)]) hx0 hb dL_law_7 rfl hl (by decide) rfl (fun ls hl => ?_)
  refine va_new (ci := 7) (fs := [.null, .int 0, .int 0, .null, .int 0, .int 0, .int 0, .int 0, .int 0, .null, .int 0, .null, .int 0, .int 0]) (C := RX9) (T := TX9) (N := 14) hx0 hb hts inX9 tyX9 tyX9_ok hown (hts _ tw_678) (hts _ tw_679) (hts _ tw_64) hK.1 hP hD hS hA rfl (fun j hj => by rcases (show j = 0 ∨ j = 1 ∨ j = 2 ∨ j = 3 ∨ j = 4 ∨ j = 5 ∨ j = 6 ∨ j = 7 ∨ j = 8 ∨ j = 9 ∨ j = 10 ∨ j = 11 ∨ j = 12 ∨ j = 13 by omega) with rfl | rfl | rfl | rfl | rfl | rfl | rfl | rfl | rfl | rfl | rfl | rfl | rfl | rfl <;> rfl) (Nat.le_of_ble_eq_true rfl) (Nat.le_of_ble_eq_true rfl) dL_law_8 (fun q2 H hP hD hS => ?_)
  refine lv_dup hx0 hb dL_law_11 rfl ?_
  refine kMI (wr := cwX kI kB ax h_ x00) (As := []) (rest := [.ref q2]) C (c_X9_init l D kI kC kB q2 H.size) ⟨rfl, rfl⟩ ce_X9_init tw_681 rfl tw_680 ⟨(Nat.le_of_ble_eq_true rfl), (Nat.le_of_ble_eq_true rfl)⟩ hP hD hS hA hl.1 rfl (Nat.le_of_ble_eq_true rfl) ⟨(Nat.le_of_ble_eq_true rfl), (Nat.le_of_ble_eq_true rfl)⟩ dL_law_12 (fun am H locs h2 hP2 hD2 hS2 => ?_)
  subst h2
  have hP := hP2
  have hD := hD2
  have hS := hS2
  clear hP2 hD2 hS2
  replace hP : va_P D vwCl (bfl [cwX kI kB ax h_ x00, cwM kI kC am m00]) H := hP
  replace hD : va_D (fun q : Nat => s.heap.size ≤ q) (bfl [cwX kI kB ax h_ x00, cwM kI kC am m00]) := hD
  refine lv_astore_n (lv' := [(2, .ref (am 0)), (1, .ref (ax 0)), (0, .ref b)]) hx0 hb dL_law_15 rfl hl (by decide) rfl (fun ls hl => ?_)
  refine lv_iconst (v := nI 0) hx0 hb dL_law_16 (by decide) ?_
  refine lv_istore_n (lv' := [(3, .int (nI 0)), (2, .ref (am 0)), (1, .ref (ax 0)), (0, .ref b)]) hx0 hb dL_law_17 rfl hl (by decide) rfl (fun ls hl => ?_)
  exact law_loop C hX hbl hL ax am (L + 1) 0 (Nat.zero_le _) (by omega) h_ s00 x00 m00 xok0 mok0 _ _ _ hP hD hS (lv_sub hl [3, 2, 1, 0] rfl)
set_option maxHeartbeats 4000000 in
theorem lw_walk (l : Launch) (hflags : l.flags = flags0) (b : Addr) (xs : List Int32) : MetFree l x (headSpec (Jvm.Cond.code x code maxLocals ret :: tables_1) room_1) (lw_P b xs) (fun _ _ _ _ _ => True) lw_Q := by
  refine MetFree.of_bodyS (code := code) (maxLocals := maxLocals) (ret := ret) (by decide) ?_ ?_
  · intro args s m h hn
    obtain ⟨meth, c, h1, h2, h3, h4, h5, h6, -, -⟩ := Cond.code_spec hn (atoms_spec (ws := Jvm.Cond.code x code maxLocals ret :: tables_1) h _ List.mem_cons_self)
    exact ⟨meth, c, h1, h2, h3, h4, h5, h6⟩
  · intro p e s m args below meth c s₁ B hml0 hP _
    obtain ⟨rfl, hx, hbd, hgv⟩ := hP
    obtain ⟨scr, harrAt, hlist, hof, hsmall⟩ := hx
    obtain ⟨hcb, hkn, -, -⟩ := State.arrayAt?_spec harrAt
    have hown : s.vm.findClass R_law = some m.cls := findClass_of_methodNamed B.named
    have hts0 : ∀ c ∈ (Jvm.Cond.code x code maxLocals ret :: tables_1), c.before #[Value.ref b] s = true := atoms_spec (ws := Jvm.Cond.code x code maxLocals ret :: tables_1) B.pre
    have hts : ∀ w ∈ lw_tbl, w.before #[Value.ref b] s = true := k2_hts_sels lw_privs (fun w hw => hts0 w (List.mem_cons_of_mem _ hw)) lw_privs_ok
    have hml : c.maxLocals = 4 := B.maxLocals_eq (hts0 _ List.mem_cons_self)
    have X₀ : Stand p l e room_1 s m #[Value.ref b] below meth c s₁ [] 0 0 := Stand.of_body B
    have hh0 : s₁.heap = s.heap := by rw [B.state]; rfl
    have hsz : scr.slots.size = xs.length := by rw [← Array.length_toList, hlist, List.length_map]
    have hval : ∀ j : Nat, j < xs.length → scr.slots[j]? = some (.int (xs.getD j 0)) := fun j hj => by
      rw [← Array.getElem?_toList, hlist]
      simp [hj]
    have hbl : b < s.heap.size := (Array.getElem?_eq_some_iff.mp hcb).1
    have hX : va_X b xs.length (fun j => xs.getD j 0) s s.heap := ⟨scr, hcb, hof, hkn, hsz, hval⟩
    have K : W p l e room_1 s m #[Value.ref b] below meth c s₁.heap [] 0 0 (lw_Z below #[Value.ref b] s) (entryFrame m ([Value.ref b] : List Value).toArray 4) := by
      rw [hh0]
      exact whole_start l hflags hbd ⟨B.exec, B.bytes, B.returns, hml, hown, hts, hX, hbl, B.notSynchronized, hgv⟩
    obtain ⟨t, a1, o, b1, b2, b3⟩ := K s₁ rfl X₀
    exact ⟨t, o, a1, b1, b2, b3⟩
theorem lw_pre_spec {args : Array Value} {s : State} (h : (Jvm.Cond.and given_1 narrow_1).before args s = true) (hr : rest_1_c.before args s = true) : ∃ (b : Addr) (xs : List Int32), lw_P b xs args s := by
  have hs := flat_of_before _ h
  have hq := flat_of_before _ hr
  have hc : (Cond.count 1).before args s = true := hs _ (by decide +kernel)
  have harr : (Cond.arrayOf (.arg 0) .int).before args s = true := hs _ (by decide +kernel)
  have hle : (Cond.le (.length (.arg 0)) (.int 2048)).before args s = true := hs _ (by decide +kernel)
  have hlen : (Cond.isInt (.length (.arg 0))).before args s = true := hq _ (by decide +kernel)
  have hall : (Cond.all (.arg 0) (.isInt (.elem (.arg 0) (.index 0)))).before args s = true := hq _ (by decide +kernel)
  obtain ⟨b, xs, hb, hx⟩ := State.ints_of_pre rfl harr hlen hall
  have hsm : xs.length < 2 ^ 31 := hx.choose_spec.2.2.2
  have hev : (Term.length (.arg 0)).eval args s none [] s = some (.int xs.length.toInt32) := hx.length_eval hb
  have hv := Cond.le_ints hev (show (Term.int 2048).eval args s none [] s = some (.int 2048) from rfl)
  have hd : xs.length.toInt32 ≤ 2048 := by
    simpa [Cond.before, Cond.holds, hv] using hle
  have hN : xs.length ≤ 2048 := (Int32.ofNat_le_ofNat hsm (by decide)).mp (show Int32.ofNat xs.length ≤ Int32.ofNat 2048 from hd)
  exact ⟨b, xs, Cond.one_arg hc (show args[0]? = some (.ref b) from hb), hx, hN, h⟩
theorem lw_comes (l : Launch) (hflags : l.flags = flags0) : Comes l x (Jvm.Cond.code x code maxLocals ret :: tables_1) room_1 (fun tb e args s => Calls_1 tb e args s ∧ rest_1 tb e args s ∧ Pre_1 tb e args s)
    (fun _ _ args s o t => lw_Q args s o t) := by
  intro p e ha hc hk s m args below hf hfit hheap happ hpre
  obtain ⟨b, xs, hP⟩ := lw_pre_spec hpre.2.2 hpre.2.1
  obtain ⟨k, o, h1, h2, h3, hQ⟩ := lw_walk l hflags b xs p e ha hc hk s m args below hf ((Spec.applies_iff_loose hf).mp happ).1 hP trivial
  exact ⟨k, o, h1, h2, h3, hQ⟩
theorem lw_frame {s t : State} {o : Outcome} {args : Array Value} (h : Framed s o t [] 600000 7302250) :
    Framed s o t (fieldLocs frame_1_writes args s ++ arrayLocs frame_1_arrays args s ++ staticLocs frame_1_statics s) 600000 7302250 := h
theorem lw_limb (L : Cond) (hL : ∀ (args : Array Value) (s t : State), L.after args s (.returned (some (.int 1))) t = true) :
    ArmFor flags0 classFile x code maxLocals ret World_1 tables_1 room_1 Calls_1 rest_1 Pre_1
      (fun tb e a s o t => postC L tb e a s o t ∧ Framed s o t (fieldLocs frame_1_writes a s ++ arrayLocs frame_1_arrays a s ++ staticLocs frame_1_statics s) 600000 7302250) := by
  intro l hflags _ _ p e ha hc hk s m args below hf hfit hheap happ hpre
  obtain ⟨k, o, h1, h2, h3, rfl, hF⟩ := lw_comes l hflags p e ha hc hk s m args below hf hfit hheap happ hpre
  exact ⟨k, _, h1, h2, h3, hL args s _, lw_frame hF⟩
theorem i_vc : Claimed_1_1 ∧ Claimed_1_2 := ⟨lw_limb limb_1_1 (fun args s t => by simp [limb_1_1, Cond.after, Cond.holds, Cond.value]), lw_limb limb_1_2 (fun args s t => Cond.after_iff.mpr (by
  first | (rw [show limb_1_2 = Cond.eq .result (.int 1) from rfl, Cond.eq_ints (x := 1) (y := 1) rfl rfl]; simp; done) | (simp [limb_1_2, Cond.value, Term.eval]; done)))⟩

