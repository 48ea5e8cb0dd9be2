set_option maxHeartbeats 400000
/-! a whole text of entries, and what readFormula does of it -/
section wf
variable {n a m : Nat} {tx : Nat → Nat} {rt : RowT} {F1 F2 F3 p : Nat → Nat}
def WFt (n : Nat) (tx : Nat → Nat) (a m : Nat) (F1 F2 F3 p : Nat → Nat) : Prop := 1 ≤ m ∧ m ≤ 20 ∧ p 0 = 0 ∧ ∀ j, j < m → (F1 j < 83 ∧ F1 j ≤ F2 j) ∧ (F1 j ≠ F2 j → F2 j < 78 ∧ tmS (F1 j) = tmS (F2 j) ∧ bitn a (F2 j % 26) = 0) ∧ (1 ≤ F3 j ∧ F3 j ≤ 24) ∧ EnAt n tx (p j) (F1 j) (F2 j) (F3 j)
  ∧ (j + 1 < m → p j + enL (F1 j) (F2 j) (F3 j) < n ∧ tx (p j + enL (F1 j) (F2 j) (F3 j)) = 44 ∧ p (j + 1) = p j + enL (F1 j) (F2 j) (F3 j) + 1) ∧ (j + 1 = m → p j + enL (F1 j) (F2 j) (F3 j) = n)
def AOK (a : Nat) (F1 : Nat → Nat) (j : Nat) : Prop := F1 j < 78 → bitn a (F1 j % 26) = 0
theorem enL_pos (f1' f2' z : Nat) : 2 ≤ enL f1' f2' z := by
  have h1 := tmS_pos (s := f1')
  have h2 := nmL_le z
  unfold enL
  omega
theorem WFt.pos (W : WFt n tx a m F1 F2 F3 p) : ∀ j, j < m → j ≤ p j ∧ p j < n
  | 0, h => by
    obtain ⟨w1, w2, w3, w4⟩ := W
    have h0 := w4 0 h
    have hl := enL_pos (F1 0) (F2 0) (F3 0)
    refine ⟨by omega, ?_⟩
    by_cases c : 0 + 1 < m
    · have := (h0.2.2.2.2.1 c).1; omega
    · have := h0.2.2.2.2.2 (by omega); omega
  | j + 1, h => by
    have ih := WFt.pos W j (by omega)
    obtain ⟨w1, w2, w3, w4⟩ := W
    have h0 := w4 j (by omega)
    have h1 := w4 (j + 1) h
    have hl := enL_pos (F1 (j + 1)) (F2 (j + 1)) (F3 (j + 1))
    have e := (h0.2.2.2.2.1 h).2.2
    refine ⟨by omega, ?_⟩
    by_cases c : j + 1 + 1 < m
    · have := (h1.2.2.2.2.1 c).1; omega
    · have := h1.2.2.2.2.2 (by omega); omega
theorem insF_to {c : Nat} {f g : Nat → Nat} (h : ∀ i, i < c → f i = g i) : ∀ i, i < c + 1 → insF f c (g c) i = g i := by
  intro i hi
  unfold insF
  by_cases q : i < c
  · rw [if_pos q]; exact h i q
  · have e : i = c := by omega
    rw [if_neg q, if_pos e, e]
def PEx (n a m : Nat) (rt : RowT) (F1 F2 F3 p : Nat → Nat) (d j : Nat) : Prop :=
  ((∀ i, j ≤ i → i < m → AOK a F1 i) ∧ ∀ (u1 u2 u3 : RowT) (Post : Int32 → RowT → RowT → RowT → Int32 → Prop), RowN 20 j F1 u1 → RowN 20 j F2 u2 → RowN 20 j F3 u3 → (∀ v1 v2 v3 q, RowN 20 m F1 v1 → RowN 20 m F2 v2 → RowN 20 m F3 v3 → Post (-1) v1 v2 v3 q) → wl_X6_readEntries_28 rt (nI a) (nI 1) Post d u1 u2 u3 (nI (p j)) (nI j))
  ∨ ((∃ i, i < m ∧ ¬ AOK a F1 i) ∧ ∃ e, e ≤ n ∧ ∀ (u1 u2 u3 : RowT) (Post : Int32 → RowT → RowT → RowT → Int32 → Prop), RowN 20 j F1 u1 → RowN 20 j F2 u2 → RowN 20 j F3 u3 → (∀ v1 v2 v3 q, AnyR 20 v1 → AnyR 20 v2 → AnyR 20 v3 → Post (nI e) v1 v2 v3 q) → wl_X6_readEntries_28 rt (nI a) (nI 1) Post d u1 u2 u3 (nI (p j)) (nI j))
theorem wf_no (h : TXT n tx rt) (ha : a < 2 ^ 26) (W : WFt n tx a m F1 F2 F3 p) {d j : Nat} (hj : j < m) (c : ¬ AOK a F1 j) : PEx n a m rt F1 F2 F3 p (d + 1) j := by
  have hn60 := h.n60
  have hp := W.pos j hj
  obtain ⟨w1, w2, w3, w4⟩ := W
  have h0 := w4 j hj
  have c1 : F1 j < 78 := by
    by_cases q : F1 j < 78
    · exact q
    · exact absurd (fun z => absurd z q) c
  have c2 : bitn a (F1 j % 26) ≠ 0 := fun q => c (fun _ => q)
  have hch : chN n tx (p j) = 65 + F1 j % 26 := by
    have := h0.2.2.2.1.1.ch (k := 0) (by have := tmS_pos (s := F1 j); omega)
    rw [Nat.add_zero] at this
    rw [this]
    unfold chS
    rw [if_pos c1, if_pos rfl]
  refine Or.inr ⟨⟨j, hj, c⟩, p j, by omega, fun u1 u2 u3 Post g1 g2 g3 P => s_length h.1 (pk_lt n j (fun z => absurd z (by omega)) (fun _ => entry_no h ha (by omega) hch c2 (f0 (P _ _ _ _ ⟨_, _, g1⟩ ⟨_, _, g2⟩ ⟨_, _, g3⟩))))⟩
theorem wf_loop (h : TXT n tx rt) (ha : a < 2 ^ 26) (W : WFt n tx a m F1 F2 F3 p) : ∀ d j, j + d + 1 = m → PEx n a m rt F1 F2 F3 p (d + 1) j := by
  have hn60 := h.n60
  intro d
  induction d with
  | zero =>
    intro j hj
    by_cases c : AOK a F1 j
    · have hp := W.pos j (by omega)
      obtain ⟨w1, w2, w3, w4⟩ := W
      obtain ⟨⟨k1, k2⟩, k3, ⟨k4, k5⟩, k6, k7, k8⟩ := w4 j (by omega)
      have e := k8 (by omega)
      have em : j + 1 = m := by omega
      have hnx : ¬ (48 ≤ chN n tx (p j + enL (F1 j) (F2 j) (F3 j)) ∧ chN n tx (p j + enL (F1 j) (F2 j) (F3 j)) ≤ 57) := by
        unfold chN
        rw [if_neg (by omega)]
        omega
      refine Or.inl ⟨fun i hi hi2 => by rw [show i = j by omega]; exact c, fun u1 u2 u3 Post g1 g2 g3 P => s_length h.1 (pk_lt n j (fun z => absurd z (by omega)) (fun _ => entry_at h ha k1 k2 k3 c k4 k5 k6 hnx (by omega) g1 g2 g3 (fun v1 v2 v3 q1 q2 q3 => f1 (s_length h.1 ⟨fun _ => ?_, fun z => absurd (by rw [e]) z⟩))))⟩
      rw [em] at q1 q2 q3
      exact P v1 v2 v3 _ (q1.congr (fun i hi => insF_to (fun _ _ => rfl) i (by omega))) (q2.congr (fun i hi => insF_to (fun _ _ => rfl) i (by omega))) (q3.congr (fun i hi => insF_to (fun _ _ => rfl) i (by omega)))
    · exact wf_no h ha W (by omega) c
  | succ d ih =>
    intro j hj
    by_cases c : AOK a F1 j
    · have hp := W.pos j (by omega)
      have ih2 := ih (j + 1) (by omega)
      obtain ⟨w1, w2, w3, w4⟩ := W
      obtain ⟨⟨k1, k2⟩, k3, ⟨k4, k5⟩, k6, k7, k8⟩ := w4 j (by omega)
      obtain ⟨e1, e2, e3⟩ := k7 (by omega)
      have hc : chN n tx (p j + enL (F1 j) (F2 j) (F3 j)) = 44 := by
        unfold chN
        rw [if_pos e1]
        exact e2
      have hne : ¬ nI (p j + enL (F1 j) (F2 j) (F3 j)) = nI n := fun z => absurd ((nI_eq (by omega) (by omega)).mp z) (by omega)
      have X : ∀ (u1 u2 u3 : RowT) (Post : Int32 → RowT → RowT → RowT → Int32 → Prop), RowN 20 j F1 u1 → RowN 20 j F2 u2 → RowN 20 j F3 u3 → (∀ v1 v2 v3, RowN 20 (j + 1) F1 v1 → RowN 20 (j + 1) F2 v2 → RowN 20 (j + 1) F3 v3 → wl_X6_readEntries_28 rt (nI a) (nI 1) Post (d + 1) v1 v2 v3 (nI (p (j + 1))) (nI (j + 1))) → wl_X6_readEntries_28 rt (nI a) (nI 1) Post (d + 1 + 1) u1 u2 u3 (nI (p j)) (nI j) := by
        intro u1 u2 u3 Post g1 g2 g3 P
        refine s_length h.1 (pk_lt n j (fun z => absurd z (by omega)) (fun _ => entry_at h ha k1 k2 k3 c k4 k5 k6 (by omega) (by omega) g1 g2 g3 (fun v1 v2 v3 q1 q2 q3 => f1 (s_length h.1 ⟨fun z => absurd z hne, fun _ => x_ch h (by omega) (ch_eq h (by decide) (fun _ => ?_) (fun z => absurd hc z))⟩))))
        rw [nI_add (p j + enL (F1 j) (F2 j) (F3 j)) 1, nI_add j 1, ← e3]
        exact P v1 v2 v3 (q1.congr (fun i hi => insF_to (fun _ _ => rfl) i hi)) (q2.congr (fun i hi => insF_to (fun _ _ => rfl) i hi)) (q3.congr (fun i hi => insF_to (fun _ _ => rfl) i hi))
      rcases ih2 with ⟨r1, r2⟩ | ⟨r1, e, he, r2⟩
      · refine Or.inl ⟨fun i hi hi2 => ?_, fun u1 u2 u3 Post g1 g2 g3 P => X u1 u2 u3 Post g1 g2 g3 (fun v1 v2 v3 q1 q2 q3 => r2 v1 v2 v3 Post q1 q2 q3 P)⟩
        by_cases q : i = j
        · rw [q]; exact c
        · exact r1 i (by omega) hi2
      · exact Or.inr ⟨r1, e, he, fun u1 u2 u3 Post g1 g2 g3 P => X u1 u2 u3 Post g1 g2 g3 (fun v1 v2 v3 q1 q2 q3 => r2 v1 v2 v3 Post q1 q2 q3 P)⟩
    · exact wf_no h ha W (by omega) c
theorem WFt.eok (W : WFt n tx a m F1 F2 F3 p) (h : ∀ i, i < m → AOK a F1 i) : EOK a 1 F1 F2 F3 m := by
  obtain ⟨w1, w2, w3, w4⟩ := W
  intro j hj
  obtain ⟨⟨k1, k2⟩, k3, ⟨k4, k5⟩, k6, k7, k8⟩ := w4 j hj
  have hj2 := h j hj
  by_cases e : F1 j = F2 j
  · rw [← e]
    exact ⟨k1, k1, Nat.le_refl _, fun q => absurd rfl q, fun q => absurd q (by decide), rfl, hj2, hj2, k4, k5⟩
  · obtain ⟨q1, q2, q3⟩ := k3 e
    exact ⟨k1, by omega, k2, fun _ => q1, fun q => absurd q (by decide), q2, hj2, fun _ => q3, k4, k5⟩
end wf
theorem XOK.txt {σ : St} {x : XS} (h : XOK σ x) : TXT σ.2.2.2.2.2.1 σ.2.2.2.2.2.2 x.2.2.2.2.2.2.2.2.2.2.2.2.2.2.1 := by
  obtain ⟨x1, x2, x3, x4, x5, x6, x7, x8, x9, x10⟩ := h
  exact ⟨x8, x9⟩
theorem xq_readFormula {σ : St} {x : XS} (hx : XOK σ x) {m : Nat} {F1 F2 F3 p : Nat → Nat} (W : WFt σ.2.2.2.2.2.1 σ.2.2.2.2.2.2 (bal σ.1) m F1 F2 F3 p) {Post : Int32 → XS → Prop}
    (P1 : (∀ i, i < m → AOK (bal σ.1) F1 i) → bn σ.1 + qnB (bal σ.1) F1 F2 m ≤ 40 → ∀ x2, XOK (actS σ (adB (bal σ.1) F1 F2 F3 m σ.1)) x2 → Post (nI (bn σ.1 + qnB (bal σ.1) F1 F2 m)) x2)
    (P2 : (∀ i, i < m → AOK (bal σ.1) F1 i) → 40 < bn σ.1 + qnB (bal σ.1) F1 F2 m → ∀ x2, XOK σ x2 → Post (-3) x2)
    (P3 : (∃ i, i < m ∧ ¬ AOK (bal σ.1) F1 i) → ∀ e, e ≤ 60 → ∀ x2, XOK σ x2 → Post ((-100) - nI e) x2) : wx_readFormula x Post := by
  have T := hx.txt
  unfold wx_readFormula wp_X8_readFormula wp_X6_readAsFormula
  obtain ⟨x0, al, sg, r1, r2, r3, r4, c1, c2, d1, d2, d3, d4, v, t1, t2, t3, t4, at1, ta, w1, wc, fo⟩ := x
  dsimp only at T ⊢
  obtain ⟨⟨b1, b2, b3, b4, b5, b6⟩, w, hv, x4, x5, x6, x7, x8, x9, x10, x11, x12, x13, x14, x15⟩ := id hx
  have b1 : al = nI (bal σ.1) := b1
  subst b1
  have hn := w.2.2.1
  have hn60 := T.n60
  have wa := w.1
  have XO : ∀ v1 v2 v3 p, AnyR 20 v1 → AnyR 20 v2 → AnyR 20 v3 → XOK σ (x0, nI (bal σ.1), sg, r1, r2, r3, r4, c1, c2, d1, d2, d3, d4, v, t1, v1, v2, v3, p, ta, w1, wc, fo) := fun v1 v2 v3 p k1 k2 k3 => ⟨⟨rfl, b2, b3, b4, b5, b6⟩, w, hv, x4, x5, x6, x7, x8, x9, k1, k2, k3, x13, x14, x15⟩
  have hm := W.1
  have R := wf_loop T wa W (m - 1) 0 (by omega)
  have hp0 : p 0 = 0 := W.2.2.1
  unfold PEx at R
  rw [hp0] at R
  have k2' := W.2.1
  obtain ⟨_, _, y1⟩ := x10
  obtain ⟨_, _, y2⟩ := x11
  obtain ⟨_, _, y3⟩ := x12
  rcases R with ⟨r1', rX⟩ | ⟨r1', e, he, rX⟩
  · have hok : ∀ i, i < m → AOK (bal σ.1) F1 i := fun i hi => r1' i (Nat.zero_le _) hi
    have hE := W.eok hok
    have hqb : qnB (bal σ.1) F1 F2 m ≤ 83 * m := sumF_le m (fun i hi => by
      have hEi := hE i (by omega)
      have := sumF_le (f := fun k => 1 - skp (bal σ.1) (F1 i + k)) (c := 1) (F2 i - F1 i + 1) (fun k _ => Nat.sub_le _ _)
      unfold qnE
      omega)
    refine s_empty y1 (fun z1 h1 => s_empty y2 (fun z2 h2 => s_empty y3 (fun z3 h3 => ⟨m - 1 + 1, rX _ _ _ _ (h1 _) (h2 _) (h3 _) (fun v1 v2 v3 q g1 g2 g3 => ⟨fun _ => x_quires b3 ⟨m + 1, xl_qtext wa k2' hE g1 g2 g3 ?_ m 0 (by omega)⟩, fun z => absurd rfl z⟩)⟩)))
    rw [nI_add]
    have w' := fun cq => wb_adB (a := bal σ.1) w m hE cq
    have hb := adB_bn (a := bal σ.1) (F1 := F1) (F2 := F2) (F3 := F3) (B := σ.1) m
    refine pk_le (bn σ.1 + qnB (bal σ.1) F1 F2 m) 40 (fun cq => x_record w hv ⟨rfl, b2, b3, b4, b5, b6⟩ (fun v2' hv2 => ⟨m + 1, xl_rform (B := σ.1) wa k2' hE g1 g2 g3 cq (fun u1 u2 u3 u4 q => ?_) m 0 r1 r2 r3 r4 (by omega) ⟨b3, b4, b5, b6⟩⟩)) (fun cq => P2 hok cq _ (XO _ _ _ _ ⟨_, _, g1⟩ ⟨_, _, g2⟩ ⟨_, _, g3⟩))
    rw [hb.1]
    refine P1 hok cq _ (xAct (XO v1 v2 v3 _ ⟨_, _, g1⟩ ⟨_, _, g2⟩ ⟨_, _, g3⟩) (w' cq) ⟨?_, ?_, q.1, q.2.1, q.2.2.1, q.2.2.2⟩ hv2)
    · show nI (bal σ.1) = nI (bal (adB (bal σ.1) F1 F2 F3 m σ.1))
      rw [hb.2.1]
    · show sg = nI (bsg (adB (bal σ.1) F1 F2 F3 m σ.1))
      rw [hb.2.2]
      exact b2
  · exact s_empty y1 (fun z1 h1 => s_empty y2 (fun z2 h2 => s_empty y3 (fun z3 h3 => ⟨m - 1 + 1, rX _ _ _ _ (h1 _) (h2 _) (h3 _) (fun v1 v2 v3 q g1 g2 g3 => ⟨fun z => absurd z (nI_m1 (by omega)), fun _ => P3 r1' e (by omega) _ (XO _ _ _ _ g1 g2 g3)⟩)⟩)))
theorem xq_readFormula0 {σ : St} {x : XS} (hx : XOK σ x) (h0 : σ.2.2.2.2.2.1 = 0) {Post : Int32 → XS → Prop} (P : ∀ x2, XOK σ x2 → Post (-100) x2) : wx_readFormula x Post := by
  have T := hx.txt
  unfold wx_readFormula wp_X8_readFormula wp_X6_readAsFormula
  obtain ⟨x0, al, sg, r1, r2, r3, r4, c1, c2, d1, d2, d3, d4, v, t1, t2, t3, t4, at1, ta, w1, wc, fo⟩ := x
  dsimp only at T ⊢
  obtain ⟨⟨b1, b2, b3, b4, b5, b6⟩, w, hv, x4, x5, x6, x7, x8, x9, x10, x11, x12, x13, x14, x15⟩ := id hx
  have b1 : al = nI (bal σ.1) := b1
  subst b1
  rw [h0] at T
  exact entries_none T x10 x11 x12 (fun v1 v2 v3 k1 k2 k3 => ⟨fun z => absurd z (by decide), fun _ => P _ ⟨⟨rfl, b2, b3, b4, b5, b6⟩, w, hv, x4, x5, x6, x7, x8, x9, k1, k2, k3, x13, x14, x15⟩⟩)
theorem xq_find0 {σ : St} {x : XS} (hx : XOK σ x) (h0 : σ.2.2.2.2.2.1 = 0) {Post : Int32 → XS → Prop} (P : ∀ x2, XOK σ x2 → Post (-100) x2) : wx_find x Post := by
  have T := hx.txt
  unfold wx_find wp_X8_find wp_X6_readAsPile
  obtain ⟨x0, al, sg, r1, r2, r3, r4, c1, c2, d1, d2, d3, d4, v, t1, t2, t3, t4, at1, ta, w1, wc, fo⟩ := x
  dsimp only at T ⊢
  obtain ⟨⟨b1, b2, b3, b4, b5, b6⟩, w, hv, x4, x5, x6, x7, x8, x9, x10, x11, x12, x13, x14, x15⟩ := id hx
  rw [h0] at T
  have hta : ta = nI 0 := x13
  subst hta
  exact entries_none T x10 x11 x12 (fun v1 v2 v3 k1 k2 k3 => ⟨fun z => absurd z (by decide), fun _ => P _ ⟨⟨b1, b2, b3, b4, b5, b6⟩, w, hv, x4, x5, x6, x7, x8, x9, k1, k2, k3, x13, x14, x15⟩⟩)
