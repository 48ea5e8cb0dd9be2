set_option maxHeartbeats 400000
/-! the formula of a book, read again -/
def PreT (T U : TxA) : Prop := T.1 ≤ U.1 ∧ ∀ i, i < T.1 → U.2 i = T.2 i
theorem PreT.rf (T : TxA) : PreT T T := ⟨Nat.le_refl _, fun _ _ => rfl⟩
theorem PreT.tr {T U V : TxA} (h : PreT T U) (g : PreT U V) : PreT T V := ⟨Nat.le_trans h.1 g.1, fun i hi => by
  have := h.1
  rw [g.2 i (by omega), h.2 i hi]⟩
theorem pre_ap (T : TxA) (v : Nat) : PreT T (ap T v) := ⟨Nat.le_succ _, fun i hi => ap_lt hi⟩
theorem pre_wU (s : Nat) (T : TxA) : ∀ k, PreT T (wU s k T)
  | 0 => PreT.rf T
  | k + 1 => (pre_wU s T k).tr (pre_ap _ _)
theorem pre_wSg (s : Nat) (T : TxA) : PreT T (wSg s T) := pre_wU s T _
theorem pre_wNum (z : Nat) (T : TxA) : PreT T (wNum z T) := by
  unfold wNum
  by_cases c : z < 10
  · rw [if_pos c]; exact pre_ap _ _
  · rw [if_neg c]; exact (pre_ap _ _).tr (pre_ap _ _)
theorem pre_cmT (q : Nat) (T : TxA) : PreT T (cmT q T) := by
  unfold cmT
  by_cases c : q = 0
  · rw [if_pos c]; exact PreT.rf T
  · rw [if_neg c]; exact pre_ap _ _
theorem pre_fH (B : BkA) (q : Nat) (T : TxA) : PreT T (fH B q T) := by
  unfold fH
  by_cases c : goN B q = 0
  · rw [if_pos c]; exact (pre_cmT q T).tr (pre_wSg _ _)
  · rw [if_neg c]
    by_cases c2 : goN B (q + 1) = 0
    · rw [if_pos c2]; exact (pre_ap _ _).tr (pre_wSg _ _)
    · rw [if_neg c2]; exact PreT.rf T
theorem pre_fT1 (B : BkA) (q : Nat) : PreT (fT B q) (fT B (q + 1)) := by
  rw [fT]
  by_cases c : goN B (q + 1) = 0
  · rw [if_pos c]; exact (pre_fH B q _).tr (pre_wNum _ _)
  · rw [if_neg c]; exact pre_fH B q _
theorem pre_fT (B : BkA) (q : Nat) : ∀ d, PreT (fT B q) (fT B (q + d))
  | 0 => PreT.rf _
  | d + 1 => (pre_fT B q d).tr (pre_fT1 B (q + d))
theorem wU_at (s : Nat) (T : TxA) : ∀ k i, i < k → (wU s k T).2 (T.1 + i) = chS s i
  | 0, i, h => absurd h (Nat.not_lt_zero _)
  | k + 1, i, h => by
    have hl := wU_len s T k
    show (ap (wU s k T) (chS s k)).2 (T.1 + i) = chS s i
    by_cases c : i < k
    · rw [ap_lt (by omega)]
      exact wU_at s T k i c
    · have e : i = k := by omega
      subst e
      rw [← hl, ap_at]
theorem sg_at {s : Nat} {T V : TxA} (h : PreT (wSg s T) V) : SgAt V.1 V.2 T.1 s := by
  have hl := wSg_len s T
  have h1 := h.1
  refine ⟨by omega, fun k hk => ?_⟩
  rw [h.2 _ (by omega)]
  exact wU_at s T _ k hk
theorem nm_len (z : Nat) (T : TxA) : (wNum z T).1 = T.1 + nmL z := by
  unfold wNum nmL
  by_cases c : z < 10
  · rw [if_pos c, if_pos c]; rfl
  · rw [if_neg c, if_neg c]; rfl
theorem nm_at {z : Nat} {T V : TxA} (h : PreT (wNum z T) V) : NmAt V.1 V.2 T.1 z := by
  have hl := nm_len z T
  have hn := nmL_le z
  have h1 := h.1
  refine ⟨by omega, fun c => ?_, fun c => ?_⟩
  · rw [h.2 _ (by omega)]
    unfold wNum
    rw [if_pos c, ap_at, Nat.mod_eq_of_lt c]
  · have e : wNum z T = ap (ap T (48 + z / 10)) (48 + z % 10) := by
      unfold wNum
      rw [if_neg (by omega)]
    have e2 : nmL z = 2 := if_neg (by omega)
    refine ⟨?_, ?_⟩
    · rw [h.2 _ (by omega), e, ap_lt (by show T.1 < T.1 + 1; omega), ap_at]
    · rw [h.2 _ (by omega), e]
      exact ap_at (T := ap T (48 + z / 10))
/-- the signs of an entry, one behind the other -/
theorem nxt_spec (a : Nat) : ∀ d s, (∀ t, s ≤ t → t < nxt a d s → bitn a (t % 26) ≠ 0) ∧ (nxt a d s < s + d → bitn a (nxt a d s % 26) = 0)
  | 0, s => ⟨fun t h1 h2 => by rw [nxt] at h2; omega, fun h => by rw [nxt] at h; omega⟩
  | d + 1, s => by
    rw [nxt]
    by_cases h : bitn a (s % 26) = 0
    · rw [if_pos h]
      exact ⟨fun t h1 h2 => by omega, fun _ => h⟩
    · rw [if_neg h]
      have ih := nxt_spec a d (s + 1)
      refine ⟨fun t h1 h2 => ?_, fun h3 => ih.2 (by omega)⟩
      by_cases e : t = s
      · rw [e]; exact h
      · exact ih.1 t (by omega) h2
theorem adE_skip {a f z : Nat} {B : BkA} {k : Nat} : ∀ d, (∀ t, t < d → skp a (f + (k + t)) ≠ 0) → adE a f z (k + d) B = adE a f z k B
  | 0, _ => rfl
  | d + 1, h => by
    show adE a f z (k + d + 1) B = _
    rw [adE, if_neg (by have := h d (Nat.lt_succ_self d); exact this)]
    exact adE_skip d (fun t ht => h t (by omega))
def Mat (A B : BkA) (q : Nat) : Prop := bn A = q ∧ ∀ i, i < q → bS A i = bS B i ∧ bZ A i = bZ B i
theorem Mat.add {A B : BkA} {q : Nat} (h : Mat A B q) {s z : Nat} (hs : s = bS B q) (hz : z = bZ B q) : Mat (addS A s z) B (q + 1) := by
  refine ⟨?_, fun i hi => ?_⟩
  · show bn A + 1 = q + 1
    rw [h.1]
  · show insF (bS A) (bn A) s i = bS B i ∧ insF (bZ A) (bn A) z i = bZ B i
    rw [h.1]
    unfold insF
    by_cases c : i < q
    · rw [if_pos c, if_pos c]
      exact h.2 i c
    · have e : i = q := by omega
      subst e
      rw [if_neg c, if_neg c, if_pos rfl, if_pos rfl]
      exact ⟨hs, hz⟩
theorem goN_yes {B : BkA} {q : Nat} (h : goN B (q + 1) ≠ 0) : q + 1 < bn B ∧ bS B (q + 1) < 78 ∧ bS B (q + 1) = nextA (bal B) (bS B q + 1) ∧ tmS (bS B (q + 1)) = tmS (bS B q) ∧ bZ B (q + 1) = bZ B q := by
  unfold goN at h
  by_cases c : 1 ≤ q + 1 ∧ q + 1 < bn B ∧ bS B (q + 1) < 78 ∧ bS B (q + 1) = nextA (bal B) (bS B (q + 1 - 1) + 1) ∧ tmS (bS B (q + 1)) = tmS (bS B (q + 1 - 1)) ∧ bZ B (q + 1) = bZ B (q + 1 - 1)
  · rw [Nat.add_sub_cancel] at c
    exact c.2
  · rw [if_neg c] at h
    exact absurd rfl h
def HA (B : BkA) : Prop := ∀ i, i < bn B → bS B i < 78 → bitn (bal B) (bS B i % 26) = 0
theorem run_nm {B : BkA} {q : Nat} : ∀ d, (∀ i, i < d → goN B (q + i + 1) ≠ 0) → bS B q + d ≤ bS B (q + d) ∧ tmS (bS B (q + d)) = tmS (bS B q) ∧ bZ B (q + d) = bZ B q ∧ (1 ≤ d → bS B (q + d) < 78 ∧ bitn (bal B) (bS B (q + d) % 26) = 0)
  | 0, _ => ⟨Nat.le_refl _, rfl, rfl, fun h => absurd h (by decide)⟩
  | d + 1, h => by
    obtain ⟨i1, i2, i3, i4⟩ := run_nm d (fun i hi => h i (by omega))
    have hg := goN_yes (h d (Nat.lt_succ_self d))
    obtain ⟨g1, g2, g3, g4, g5⟩ := hg
    have hge := nxt_ge (bal B) (78 - (bS B (q + d) + 1)) (bS B (q + d) + 1)
    have hsp := nxt_spec (bal B) (78 - (bS B (q + d) + 1)) (bS B (q + d) + 1)
    have e : bS B (q + d + 1) = nxt (bal B) (78 - (bS B (q + d) + 1)) (bS B (q + d) + 1) := g3
    rw [← e] at hge hsp
    have hb := hsp.2 (by omega)
    show bS B q + (d + 1) ≤ bS B (q + d + 1) ∧ tmS (bS B (q + d + 1)) = tmS (bS B q) ∧ bZ B (q + d + 1) = bZ B q ∧ (1 ≤ d + 1 → bS B (q + d + 1) < 78 ∧ bitn (bal B) (bS B (q + d + 1) % 26) = 0)
    exact ⟨by omega, g4.trans i2, g5.trans i3, fun _ => ⟨g2, hb⟩⟩
theorem run_ok {B A : BkA} {q : Nat} (hM : Mat A B q) (h0 : skp (bal B) (bS B q) = 0) : ∀ d, (∀ i, i < d → goN B (q + i + 1) ≠ 0) → Mat (adE (bal B) (bS B q) (bZ B q) (bS B (q + d) - bS B q + 1) A) B (q + d + 1)
  | 0, _ => by
    show Mat (adE (bal B) (bS B q) (bZ B q) (bS B q - bS B q + 1) A) B (q + 1)
    rw [Nat.sub_self, adE, if_pos (by rw [Nat.add_zero]; exact h0)]
    exact hM.add rfl rfl
  | d + 1, h => by
    have i5 := run_ok hM h0 d (fun i hi => h i (by omega))
    obtain ⟨i1, i2, i3, i4⟩ := run_nm d (fun i hi => h i (by omega))
    have hg := goN_yes (h d (Nat.lt_succ_self d))
    obtain ⟨g1, g2, g3, g4, g5⟩ := hg
    have hge := nxt_ge (bal B) (78 - (bS B (q + d) + 1)) (bS B (q + d) + 1)
    have hsp := nxt_spec (bal B) (78 - (bS B (q + d) + 1)) (bS B (q + d) + 1)
    have e : bS B (q + d + 1) = nxt (bal B) (78 - (bS B (q + d) + 1)) (bS B (q + d) + 1) := g3
    rw [← e] at hge hsp
    have hb := hsp.2 (by omega)
    show Mat (adE (bal B) (bS B q) (bZ B q) (bS B (q + d + 1) - bS B q + 1) A) B (q + d + 1 + 1)
    rw [adE, if_pos (by
      unfold skp
      rw [if_pos (by omega), show bS B q + (bS B (q + d + 1) - bS B q) = bS B (q + d + 1) by omega]
      exact hb)]
    have e2 : bS B (q + d + 1) - bS B q = bS B (q + d) - bS B q + 1 + (bS B (q + d + 1) - (bS B (q + d) + 1)) := by omega
    have e3 := adE_skip (a := bal B) (f := bS B q) (z := bZ B q) (B := A) (k := bS B (q + d) - bS B q + 1) (bS B (q + d + 1) - (bS B (q + d) + 1)) (fun t ht => by
      unfold skp
      rw [if_pos (by omega)]
      exact hsp.1 _ (by omega) (by omega))
    rw [← e2] at e3
    rw [e3]
    exact i5.add (by omega) (by rw [g5, i3])
/-- the text of a run -/
theorem run_text {B : BkA} {q : Nat} (hq : goN B q = 0) : ∀ d, (∀ i, i < d + 1 → goN B (q + i + 1) ≠ 0) → fT B (q + d + 1) = wSg (bS B q) (cmT q (fT B q))
  | 0, h => by
    have h0 : goN B (q + 1) ≠ 0 := h 0 (by omega)
    show fT B (q + 1) = _
    rw [fT, if_neg h0, fH, if_pos hq]
  | d + 1, h => by
    have ih := run_text hq d (fun i hi => h i (by omega))
    have h1 : goN B (q + d + 1) ≠ 0 := h d (by omega)
    have h2 : goN B (q + d + 1 + 1) ≠ 0 := h (d + 1) (by omega)
    show fT B (q + d + 1 + 1) = _
    rw [fT, if_neg h2, fH, if_neg h1, if_neg h2, ih]
theorem run_eN {B : BkA} {q : Nat} (hq : goN B q = 0) : ∀ d, (∀ i, i < d → goN B (q + i + 1) ≠ 0) → eN B (q + d + 1) = eN B q + 1
  | 0, _ => by
    show eN B (q + 1) = _
    rw [eN, if_pos hq]
  | d + 1, h => by
    have ih := run_eN hq d (fun i hi => h i (by omega))
    have h1 : goN B (q + d + 1) ≠ 0 := h d (by omega)
    show eN B (q + d + 1 + 1) = _
    rw [eN, if_neg h1, ih]
theorem run_entry {B : BkA} {q d : Nat} {T : TxA} (hq : goN B q = 0) (h : ∀ i, i < d → goN B (q + i + 1) ≠ 0) (he : goN B (q + d + 1) = 0) (hz : bZ B (q + d) = bZ B q) (hs : bS B q + d ≤ bS B (q + d)) (hT : PreT (fT B (q + d + 1)) T) :
    EnAt T.1 T.2 (cmT q (fT B q)).1 (bS B q) (bS B (q + d)) (bZ B q) ∧ (fT B (q + d + 1)).1 = (cmT q (fT B q)).1 + enL (bS B q) (bS B (q + d)) (bZ B q) := by
  cases d with
  | zero =>
    have e : fT B (q + 1) = wNum (bZ B q) (wSg (bS B q) (cmT q (fT B q))) := by
      rw [fT, if_pos (show goN B (q + 1) = 0 from he), fH, if_pos hq]
    have hT : PreT (fT B (q + 1)) T := hT
    rw [e] at hT
    have hl := wSg_len (bS B q) (cmT q (fT B q))
    have hnl := nm_len (bZ B q) (wSg (bS B q) (cmT q (fT B q)))
    refine ⟨⟨sg_at ((pre_wNum _ _).tr hT), fun _ => ?_, fun z => absurd rfl z⟩, ?_⟩
    · rw [← hl]
      exact nm_at hT
    · show (fT B (q + 1)).1 = _ + enL (bS B q) (bS B q) (bZ B q)
      unfold enL
      rw [e, if_pos rfl]
      omega
  | succ d =>
    have et := run_text hq d h
    have h1 : goN B (q + d + 1) ≠ 0 := h d (by omega)
    have he : goN B (q + d + 1 + 1) = 0 := he
    have hz : bZ B (q + d + 1) = bZ B q := hz
    have hs : bS B q + (d + 1) ≤ bS B (q + d + 1) := hs
    have e : fT B (q + d + 1 + 1) = wNum (bZ B q) (wSg (bS B (q + d + 1)) (ap (wSg (bS B q) (cmT q (fT B q))) 45)) := by
      rw [fT, if_pos he, fH, if_neg h1, if_pos he, et, hz]
    have hT : PreT (fT B (q + d + 1 + 1)) T := hT
    rw [e] at hT
    have hl := wSg_len (bS B q) (cmT q (fT B q))
    have hl2 := wSg_len (bS B (q + d + 1)) (ap (wSg (bS B q) (cmT q (fT B q))) 45)
    have hl3 : (ap (wSg (bS B q) (cmT q (fT B q))) 45).1 = (wSg (bS B q) (cmT q (fT B q))).1 + 1 := rfl
    have hnl := nm_len (bZ B q) (wSg (bS B (q + d + 1)) (ap (wSg (bS B q) (cmT q (fT B q))) 45))
    have p3 := (pre_wNum _ _).tr hT
    have p2 := (pre_wSg _ _).tr p3
    have p1 := (pre_ap _ _).tr p2
    have p2l := p2.1
    show EnAt T.1 T.2 (cmT q (fT B q)).1 (bS B q) (bS B (q + d + 1)) (bZ B q) ∧ (fT B (q + d + 1 + 1)).1 = _ + enL (bS B q) (bS B (q + d + 1)) (bZ B q)
    refine ⟨⟨sg_at p1, fun z => absurd z (by omega), fun _ => ⟨by omega, ?_, ?_, ?_⟩⟩, ?_⟩
    · rw [← hl, p2.2 _ (by omega), ap_at]
    · rw [← hl, ← hl3]
      exact sg_at p3
    · rw [← hl, ← hl3, ← hl2]
      exact nm_at hT
    · unfold enL
      rw [e, if_neg (by omega)]
      omega
theorem adB_cg {a : Nat} {F1 F2 F3 G1 G2 G3 : Nat → Nat} {B : BkA} : ∀ c, (∀ j, j < c → G1 j = F1 j ∧ G2 j = F2 j ∧ G3 j = F3 j) → adB a G1 G2 G3 c B = adB a F1 F2 F3 c B
  | 0, _ => rfl
  | c + 1, h => by
    obtain ⟨h1, h2, h3⟩ := h c (Nat.lt_succ_self c)
    rw [adB, adB, adB_cg c (fun j hj => h j (by omega)), h1, h2, h3]
def EnOK (hh : Prop) (a n : Nat) (tx : Nat → Nat) (F1 F2 F3 p : Nat → Nat) (c l j : Nat) : Prop := (F1 j < 83 ∧ F1 j ≤ F2 j) ∧ (F1 j ≠ F2 j → F2 j < 78 ∧ tmS (F1 j) = tmS (F2 j) ∧ bitn a (F2 j % 26) = 0) ∧ (1 ≤ F3 j ∧ F3 j ≤ 24) ∧ EnAt n tx (p j) (F1 j) (F2 j) (F3 j) ∧ (hh → AOK a F1 j) ∧ 3 * j ≤ p j
  ∧ (j + 1 < c → p j + enL (F1 j) (F2 j) (F3 j) < n ∧ tx (p j + enL (F1 j) (F2 j) (F3 j)) = 44 ∧ p (j + 1) = p j + enL (F1 j) (F2 j) (F3 j) + 1) ∧ (j + 1 = c → p j + enL (F1 j) (F2 j) (F3 j) = l)
def BW (B : BkA) (T : TxA) (Bp : BkA) (q : Nat) (F1 F2 F3 p : Nat → Nat) : Prop := (∀ j, j < eN B q → EnOK (HA B) (bal B) T.1 T.2 F1 F2 F3 p (eN B q) (fT B q).1 j) ∧ (0 < q → p 0 = 0) ∧ (HA B → Mat (adB (bal B) F1 F2 F3 (eN B q) Bp) B q)
theorem eN_0 {B : BkA} {q : Nat} : (0 < q → 0 < eN B q) ∧ (q = 0 → eN B q = 0) := by
  cases q with
  | zero => exact ⟨fun h => absurd h (by decide), fun _ => rfl⟩
  | succ q => exact ⟨fun _ => (eN_pos q).1, fun h => by omega⟩
theorem bw_step {B Bp : BkA} (w : WB B) {q : Nat} (hq : q < bn B) (hg : goN B q = 0) {F1 F2 F3 p : Nat → Nat} (H : BW B (fT B (bn B)) Bp q F1 F2 F3 p) : ∃ r, q < r ∧ r ≤ bn B ∧ goN B r = 0 ∧ ∃ G1 G2 G3 o, BW B (fT B (bn B)) Bp r G1 G2 G3 o := by
  obtain ⟨d, hd1, hd2, hd3⟩ := firstN (fun i => goN B (q + i + 1) = 0) (bn B - q - 1)
  have he : goN B (q + d + 1) = 0 := by
    by_cases c : d < bn B - q - 1
    · exact hd3 c
    · exact goN_n B (by omega)
  obtain ⟨H1, H2, H3⟩ := H
  have r5 := fun hA : HA B => run_ok (H3 hA) (skp_end (hA q hq)) d hd2
  obtain ⟨r1, r2, r3, r4⟩ := run_nm d hd2
  have hpre : PreT (fT B (q + d + 1)) (fT B (bn B)) := by
    have := pre_fT B (q + d + 1) (bn B - (q + d + 1))
    rw [show q + d + 1 + (bn B - (q + d + 1)) = bn B by omega] at this
    exact this
  obtain ⟨t1, t2⟩ := run_entry hg hd2 he r3 r1 hpre
  have hc := run_eN hg d hd2
  obtain ⟨c, hc0⟩ : ∃ c, c = eN B q := ⟨_, rfl⟩
  have hS := w.2.2.2.1 q hq
  have hZ := w.2.2.2.2.1 q hq
  refine ⟨q + d + 1, by omega, by omega, he, insF F1 c (bS B q), insF F2 c (bS B (q + d)), insF F3 c (bZ B q), insF p c (cmT q (fT B q)).1, ?_⟩
  have lo : ∀ (f : Nat → Nat) (v j : Nat), j < c → insF f c v j = f j := fun f v j hj => if_pos hj
  have at_ : ∀ (f : Nat → Nat) (v : Nat), insF f c v c = v := fun f v => by unfold insF; rw [if_neg (Nat.lt_irrefl _), if_pos rfl]
  rw [← hc0] at hc H1 H3
  have e0 := eN_0 (B := B) (q := q)
  rw [← hc0] at e0
  have hcm : (cmT q (fT B q)).1 = if q = 0 then (fT B q).1 else (fT B q).1 + 1 := by
    unfold cmT
    by_cases z : q = 0
    · rw [if_pos z, if_pos z]
    · rw [if_neg z, if_neg z]; rfl
  have hlen : 3 * c ≤ (cmT q (fT B q)).1 := by
    by_cases z : q = 0
    · have := e0.2 z; omega
    · rw [hcm, if_neg z]
      have hcp := e0.1 (by omega)
      obtain ⟨_, _, _, _, _, k6, _, k8⟩ := H1 (c - 1) (by omega)
      have := k8 (by omega)
      have := enL_pos (F1 (c - 1)) (F2 (c - 1)) (F3 (c - 1))
      omega
  refine ⟨fun j hj => ?_, fun _ => ?_, ?_⟩
  · rw [hc] at hj ⊢
    unfold EnOK AOK
    by_cases cj : j < c
    · obtain ⟨k1, k2, k3, k4, k5, k6, k7, k8⟩ := H1 j cj
      rw [lo F1 _ j cj, lo F2 _ j cj, lo F3 _ j cj, lo p _ j cj]
      refine ⟨k1, k2, k3, k4, k5, k6, fun h => ?_, fun h => absurd h (by omega)⟩
      by_cases cj2 : j + 1 < c
      · rw [lo p _ (j + 1) cj2]
        exact k7 cj2
      · have ec : j + 1 = c := by omega
        have e8 := k8 ec
        have hq0 : q ≠ 0 := fun z => by have := e0.2 z; omega
        rw [ec, at_, hcm, if_neg hq0, e8]
        have hx := hpre.1
        have hl3 : (cmT q (fT B q)).1 ≤ (fT B (q + d + 1)).1 := by omega
        rw [hcm, if_neg hq0] at hl3
        refine ⟨by omega, ?_, rfl⟩
        have hp2 : PreT (cmT q (fT B q)) (fT B (bn B)) := by
          refine PreT.tr ?_ hpre
          cases d with
          | zero =>
            show PreT _ (fT B (q + 1))
            rw [fT, if_pos (show goN B (q + 1) = 0 from he), fH, if_pos hg]
            exact (pre_wSg _ _).tr (pre_wNum _ _)
          | succ d =>
            have et := run_text hg d hd2
            refine PreT.tr ?_ (pre_fT1 B (q + d + 1))
            rw [et]
            exact pre_wSg _ _
        have e9 : cmT q (fT B q) = ap (fT B q) 44 := if_neg hq0
        rw [e9] at hp2
        rw [hp2.2 _ (Nat.lt_succ_self _), ap_at]
    · have ej : j = c := by omega
      subst ej
      rw [at_, at_, at_, at_]
      refine ⟨⟨hS, by omega⟩, fun hne => ?_, hZ, t1, fun hA => hA q hq, hlen, fun h => absurd h (by omega), fun _ => t2.symm⟩
      have hd : 1 ≤ d := by
        by_cases z : d = 0
        · subst z
          exact absurd rfl hne
        · omega
      exact ⟨(r4 hd).1, r2.symm, (r4 hd).2⟩
  · by_cases z : q = 0
    · have hc1 := e0.2 z
      rw [hc1]
      show insF p 0 _ 0 = 0
      unfold insF
      rw [if_neg (Nat.lt_irrefl _), if_pos rfl, hcm, if_pos z, z]
      rfl
    · rw [lo p _ 0 (e0.1 (by omega))]
      exact H2 (by omega)
  · intro hA
    rw [hc, adB, at_, at_, at_, adB_cg c (fun j hj => ⟨lo F1 _ j hj, lo F2 _ j hj, lo F3 _ j hj⟩)]
    rw [hc0]
    exact r5 hA
theorem bw_all {B Bp : BkA} (w : WB B) : ∀ (d q : Nat), bn B ≤ q + d → q ≤ bn B → goN B q = 0 → (∃ F1 F2 F3 p, BW B (fT B (bn B)) Bp q F1 F2 F3 p) → ∃ F1 F2 F3 p, BW B (fT B (bn B)) Bp (bn B) F1 F2 F3 p := by
  intro d
  induction d with
  | zero =>
    intro q h1 h2 h3 H
    have e : q = bn B := by omega
    rw [e] at H
    exact H
  | succ d ih =>
    intro q h1 h2 h3 H
    by_cases c : q = bn B
    · rw [c] at H; exact H
    · obtain ⟨F1, F2, F3, p, H⟩ := H
      obtain ⟨r, k1, k2, k3, k4⟩ := bw_step w (show q < bn B by omega) h3 H
      exact ih r (by omega) k2 k3 k4
theorem text_back {B Bp : BkA} (w : WB B) (hp : bn Bp = 0) (hn : 0 < bn B) (hl : (fT B (bn B)).1 ≤ 60) : ∃ F1 F2 F3 p, WFt (fT B (bn B)).1 (fT B (bn B)).2 (bal B) (eN B (bn B)) F1 F2 F3 p ∧ (HA B → (∀ j, j < eN B (bn B) → AOK (bal B) F1 j) ∧ Mat (adB (bal B) F1 F2 F3 (eN B (bn B)) Bp) B (bn B)) := by
  obtain ⟨F1, F2, F3, p, H1, H2, H3⟩ := bw_all (Bp := Bp) w (bn B) 0 (by omega) (Nat.zero_le _) (goN_0 B) ⟨fun _ => 0, fun _ => 0, fun _ => 0, fun _ => 0, fun j hj => absurd hj (Nat.not_lt_zero _), fun h => absurd h (by decide), fun _ => ⟨hp, fun i hi => absurd hi (Nat.not_lt_zero _)⟩⟩
  have hm := (eN_0 (B := B)).1 hn
  have h20 : eN B (bn B) ≤ 20 := by
    obtain ⟨_, _, _, _, _, k6, _, k8⟩ := H1 (eN B (bn B) - 1) (by omega)
    have := k8 (by omega)
    have := enL_pos (F1 (eN B (bn B) - 1)) (F2 (eN B (bn B) - 1)) (F3 (eN B (bn B) - 1))
    omega
  exact ⟨F1, F2, F3, p, ⟨hm, h20, H2 hn, fun j hj => by
    obtain ⟨k1, k2, k3, k4, k5, k6, k7, k8⟩ := H1 j hj
    exact ⟨k1, k2, k3, k4, k7, k8⟩⟩, fun hA => ⟨fun j hj => (H1 j hj).2.2.2.2.1 hA, H3 hA⟩⟩
