set_option maxHeartbeats 400000
/-! what each call answers and leaves -/
theorem cI_nI {v : Nat} (hv : v < 65536) : cI (nI v) = nI v := by
  have e : (nI v).toBitVec.toNat = v := by
    show (BitVec.ofNat 32 v).toNat = v
    rw [BitVec.toNat_ofNat]
    omega
  have h := pk_char (nI v)
  rw [e, Nat.mod_eq_of_lt hv] at h
  exact h
theorem tA_all {B : BkA} : tA B (lvs B) = sumF (fun q => fr (bL B q) (bZ B q)) (bn B) := by
  unfold tA
  refine sumF_congr (bn B) (fun q hq => ?_)
  have hm : sumF (bZ B) (q + 1) ≤ lvs B := sumF_mono (by omega)
  rw [sumF] at hm
  rw [Nat.min_eq_left (by omega)]
theorem xq_q0 {σ : St} {x : XS} (hx : XOK σ x) {q : Nat} (hq : q < bn σ.1) {Post : Int32 → XS → Prop} (P : Post (nI (tmS (bS σ.1 q))) x) : wx_quire x (nI q) (nI 0) Post := by
  unfold wx_quire wp_X8_quire
  obtain ⟨⟨b1, b2, b3, b4, b5, b6⟩, w, hv, _⟩ := id hx
  have b1 : x.2.1 = nI (bal σ.1) := b1
  have b2 : x.2.2.1 = nI (bsg σ.1) := b2
  have hn := w.2.2.1
  have hS := w.2.2.2.1 q hq
  refine x_hasQuire w b3 (fun z => absurd rfl (z q hq)) (fun _ _ _ => f1 (s_at b3 q hq ?_))
  exact ⟨fun _ => x_times (by omega) P, fun z => absurd (by decide) z⟩
theorem xq_q1a {σ : St} {x : XS} (hx : XOK σ x) {q : Nat} (hq : q < bn σ.1) (hs : bS σ.1 q < 78) {Post : Int32 → XS → Prop} (P : Post (nI (65 + bS σ.1 q % 26)) x) : wx_quire x (nI q) (nI 1) Post := by
  unfold wx_quire wp_X8_quire
  obtain ⟨⟨b1, b2, b3, b4, b5, b6⟩, w, hv, _⟩ := id hx
  have b1 : x.2.1 = nI (bal σ.1) := b1
  have b2 : x.2.2.1 = nI (bsg σ.1) := b2
  have hn := w.2.2.1
  have hS := w.2.2.2.1 q hq
  refine x_hasQuire w b3 (fun z => absurd rfl (z q hq)) (fun _ _ _ => f1 (s_at b3 q hq ?_))
  exact ⟨fun z => absurd z (by decide), fun _ => ⟨fun _ => x_isStarred (by omega) (fun _ => f0 (x_letter (by omega) (by rw [nI_add]; exact P))) (fun z => absurd z (by omega)), fun z => absurd (by decide) z⟩⟩
theorem xq_q1b {σ : St} {x : XS} (hx : XOK σ x) {q : Nat} (hq : q < bn σ.1) (hs : 78 ≤ bS σ.1 q) {Post : Int32 → XS → Prop} (P : Post (-5) x) : wx_quire x (nI q) (nI 1) Post := by
  unfold wx_quire wp_X8_quire
  obtain ⟨⟨b1, b2, b3, b4, b5, b6⟩, w, hv, _⟩ := id hx
  have b1 : x.2.1 = nI (bal σ.1) := b1
  have b2 : x.2.2.1 = nI (bsg σ.1) := b2
  have hn := w.2.2.1
  have hS := w.2.2.2.1 q hq
  refine x_hasQuire w b3 (fun z => absurd rfl (z q hq)) (fun _ _ _ => f1 (s_at b3 q hq ?_))
  exact ⟨fun z => absurd z (by decide), fun _ => ⟨fun _ => x_isStarred (by omega) (fun z => absurd z (by omega)) (fun _ => f1 P), fun z => absurd (by decide) z⟩⟩
theorem xq_q2 {σ : St} {x : XS} (hx : XOK σ x) {q : Nat} (hq : q < bn σ.1) {Post : Int32 → XS → Prop} (P : Post (nI (bZ σ.1 q)) x) : wx_quire x (nI q) (nI 2) Post := by
  unfold wx_quire wp_X8_quire
  obtain ⟨⟨b1, b2, b3, b4, b5, b6⟩, w, hv, _⟩ := id hx
  have b1 : x.2.1 = nI (bal σ.1) := b1
  have b2 : x.2.2.1 = nI (bsg σ.1) := b2
  have hn := w.2.2.1
  have hS := w.2.2.2.1 q hq
  refine x_hasQuire w b3 (fun z => absurd rfl (z q hq)) (fun _ _ _ => f1 (s_at b3 q hq ?_))
  exact ⟨fun z => absurd z (by decide), fun _ => ⟨fun z => absurd z (by decide), fun _ => ⟨fun _ => s_at b4 q hq P, fun z => absurd (by decide) z⟩⟩⟩
theorem xq_q3 {σ : St} {x : XS} (hx : XOK σ x) {q : Nat} (hq : q < bn σ.1) {Post : Int32 → XS → Prop} (P : Post (nI (sumF (bZ σ.1) q)) x) : wx_quire x (nI q) (nI 3) Post := by
  unfold wx_quire wp_X8_quire
  obtain ⟨⟨b1, b2, b3, b4, b5, b6⟩, w, hv, _⟩ := id hx
  have b1 : x.2.1 = nI (bal σ.1) := b1
  have b2 : x.2.2.1 = nI (bsg σ.1) := b2
  have hn := w.2.2.1
  have hS := w.2.2.2.1 q hq
  refine x_hasQuire w b3 (fun z => absurd rfl (z q hq)) (fun _ _ _ => f1 (s_at b3 q hq ?_))
  exact ⟨fun z => absurd z (by decide), fun _ => ⟨fun z => absurd z (by decide), fun _ => ⟨fun z => absurd z (by decide), fun _ => ⟨fun _ => x_firstLeaf w b4 (Nat.le_of_lt hq) P, fun z => absurd (by decide) z⟩⟩⟩⟩
theorem xq_q4 {σ : St} {x : XS} (hx : XOK σ x) {q : Nat} (hq : q < bn σ.1) {Post : Int32 → XS → Prop} (P : Post (nI (sgN (bsg σ.1) (bZ σ.1 q))) x) : wx_quire x (nI q) (nI 4) Post := by
  unfold wx_quire wp_X8_quire
  obtain ⟨⟨b1, b2, b3, b4, b5, b6⟩, w, hv, _⟩ := id hx
  have b1 : x.2.1 = nI (bal σ.1) := b1
  have b2 : x.2.2.1 = nI (bsg σ.1) := b2
  have hn := w.2.2.1
  have hS := w.2.2.2.1 q hq
  refine x_hasQuire w b3 (fun z => absurd rfl (z q hq)) (fun _ _ _ => f1 (s_at b3 q hq ?_))
  exact ⟨fun z => absurd z (by decide), fun _ => ⟨fun z => absurd z (by decide), fun _ => ⟨fun z => absurd z (by decide), fun _ => ⟨fun z => absurd z (by decide), fun _ => ⟨fun _ => (by rw [b2]; exact x_signedIn w b4 hq P), fun z => absurd (by decide) z⟩⟩⟩⟩⟩
theorem xq_q5 {σ : St} {x : XS} (hx : XOK σ x) {q : Nat} (hq : q < bn σ.1) {Post : Int32 → XS → Prop} (P : Post (nI (fr (bL σ.1 q) (bZ σ.1 q))) x) : wx_quire x (nI q) (nI 5) Post := by
  unfold wx_quire wp_X8_quire
  obtain ⟨⟨b1, b2, b3, b4, b5, b6⟩, w, hv, _⟩ := id hx
  have b1 : x.2.1 = nI (bal σ.1) := b1
  have b2 : x.2.2.1 = nI (bsg σ.1) := b2
  have hn := w.2.2.1
  have hS := w.2.2.2.1 q hq
  refine x_hasQuire w b3 (fun z => absurd rfl (z q hq)) (fun _ _ _ => f1 (s_at b3 q hq ?_))
  exact ⟨fun z => absurd z (by decide), fun _ => ⟨fun z => absurd z (by decide), fun _ => ⟨fun z => absurd z (by decide), fun _ => ⟨fun z => absurd z (by decide), fun _ => ⟨fun z => absurd z (by decide), fun _ => ⟨fun _ => x_thereIn w b4 b5 hq P, fun z => absurd (by decide) z⟩⟩⟩⟩⟩⟩
theorem xq_q7 {σ : St} {x : XS} (hx : XOK σ x) {q : Nat} (hq : q < bn σ.1) {Post : Int32 → XS → Prop} (P : Post (-2) x) : wx_quire x (nI q) (nI 7) Post := by
  unfold wx_quire wp_X8_quire
  obtain ⟨⟨b1, b2, b3, b4, b5, b6⟩, w, hv, _⟩ := id hx
  have b1 : x.2.1 = nI (bal σ.1) := b1
  have b2 : x.2.2.1 = nI (bsg σ.1) := b2
  have hn := w.2.2.1
  have hS := w.2.2.2.1 q hq
  refine x_hasQuire w b3 (fun z => absurd rfl (z q hq)) (fun _ _ _ => f1 (s_at b3 q hq ?_))
  exact ⟨fun z => absurd z (by decide), fun _ => ⟨fun z => absurd z (by decide), fun _ => ⟨fun z => absurd z (by decide), fun _ => ⟨fun z => absurd z (by decide), fun _ => ⟨fun z => absurd z (by decide), fun _ => ⟨fun z => absurd z (by decide), fun _ => ⟨fun z => absurd z (by decide), fun _ => P⟩⟩⟩⟩⟩⟩⟩
theorem xq_qout {σ : St} {x : XS} (hx : XOK σ x) {q : Nat} (hq : bn σ.1 ≤ q) (hq2 : q < 2 ^ 31) {p2 : Int32} {Post : Int32 → XS → Prop} (P : Post (-1) x) : wx_quire x (nI q) p2 Post := by
  unfold wx_quire wp_X8_quire
  obtain ⟨⟨b1, b2, b3, b4, b5, b6⟩, w, hv, _⟩ := id hx
  have b1 : x.2.1 = nI (bal σ.1) := b1
  have b2 : x.2.2.1 = nI (bsg σ.1) := b2
  have hn := w.2.2.1
  exact x_hasQuire w b3 (fun _ => f0 P) (fun j hj e => absurd ((nI_eq hq2 (by omega)).mp e) (by omega))
theorem xq_l0 {σ : St} {x : XS} (hx : XOK σ x) {q j : Nat} (hq : InQ σ.1 q j) {Post : Int32 → XS → Prop} (P : Post (nI q) x) : wx_leaf x (nI j) (nI 0) Post := by
  unfold wx_leaf wp_X8_leaf
  obtain ⟨⟨b1, b2, b3, b4, b5, b6⟩, w, hv, _⟩ := id hx
  have b1 : x.2.1 = nI (bal σ.1) := b1
  have b2 : x.2.2.1 = nI (bsg σ.1) := b2
  have hn := w.2.2.1
  obtain ⟨k1, k2, k3⟩ := inQ_lt w hq
  have hq1 := hq.1
  have hq2 := hq.2.1
  have hlv := w.lvs
  refine x_hasLeaf w b3 b4 (fun z => absurd rfl (z j k3)) (fun _ _ _ => f1 (x_quireOf w b3 b4 hq (x_numberOf w b3 b4 hq ?_)))
  exact ⟨fun _ => P, fun z => absurd (by decide) z⟩
theorem xq_l1 {σ : St} {x : XS} (hx : XOK σ x) {q j : Nat} (hq : InQ σ.1 q j) {Post : Int32 → XS → Prop} (P : Post (nI (j - sumF (bZ σ.1) q + 1)) x) : wx_leaf x (nI j) (nI 1) Post := by
  unfold wx_leaf wp_X8_leaf
  obtain ⟨⟨b1, b2, b3, b4, b5, b6⟩, w, hv, _⟩ := id hx
  have b1 : x.2.1 = nI (bal σ.1) := b1
  have b2 : x.2.2.1 = nI (bsg σ.1) := b2
  have hn := w.2.2.1
  obtain ⟨k1, k2, k3⟩ := inQ_lt w hq
  have hq1 := hq.1
  have hq2 := hq.2.1
  have hlv := w.lvs
  refine x_hasLeaf w b3 b4 (fun z => absurd rfl (z j k3)) (fun _ _ _ => f1 (x_quireOf w b3 b4 hq (x_numberOf w b3 b4 hq ?_)))
  exact ⟨fun z => absurd z (by decide), fun _ => ⟨fun _ => P, fun z => absurd (by decide) z⟩⟩
theorem xq_l2 {σ : St} {x : XS} (hx : XOK σ x) {q j : Nat} (hq : InQ σ.1 q j) {Post : Int32 → XS → Prop} (P0 : sgN (bsg σ.1) (bZ σ.1 q) < j - sumF (bZ σ.1) q + 1 → Post (nI 0) x) (P1 : j - sumF (bZ σ.1) q + 1 ≤ sgN (bsg σ.1) (bZ σ.1 q) → Post (nI 1) x) : wx_leaf x (nI j) (nI 2) Post := by
  unfold wx_leaf wp_X8_leaf
  obtain ⟨⟨b1, b2, b3, b4, b5, b6⟩, w, hv, _⟩ := id hx
  have b1 : x.2.1 = nI (bal σ.1) := b1
  have b2 : x.2.2.1 = nI (bsg σ.1) := b2
  have hn := w.2.2.1
  obtain ⟨k1, k2, k3⟩ := inQ_lt w hq
  have hq1 := hq.1
  have hq2 := hq.2.1
  have hlv := w.lvs
  have hsg := sgN_le (bsg σ.1) (bZ σ.1 q) (w.2.2.2.2.1 q hq1).1
  have X2 : ∀ (Q : Int32 → Prop), Q (nI (sgN (bsg σ.1) (bZ σ.1 q))) → wp_X1_signedIn x.2.2.1 x.2.2.2.2.1 (nI q) Q := by
    intro Q P
    rw [b2]
    exact x_signedIn w b4 hq1 P
  refine x_hasLeaf w b3 b4 (fun z => absurd rfl (z j k3)) (fun _ _ _ => f1 (x_quireOf w b3 b4 hq (x_numberOf w b3 b4 hq ?_)))
  exact ⟨fun z => absurd z (by decide), fun _ => ⟨fun z => absurd z (by decide), fun _ => ⟨fun _ => X2 _ (pk_lt (sgN (bsg σ.1) (bZ σ.1 q)) (j - sumF (bZ σ.1) q + 1) P0 P1), fun z => absurd (by decide) z⟩⟩⟩
theorem xq_l3 {σ : St} {x : XS} (hx : XOK σ x) {q j : Nat} (hq : InQ σ.1 q j) {Post : Int32 → XS → Prop} (P0 : bZ σ.1 q + 1 - (j - sumF (bZ σ.1) q + 1) = j - sumF (bZ σ.1) q + 1 → Post (-5) x) (P1 : bZ σ.1 q + 1 - (j - sumF (bZ σ.1) q + 1) ≠ j - sumF (bZ σ.1) q + 1 → Post (nI (sumF (bZ σ.1) q + (bZ σ.1 q + 1 - (j - sumF (bZ σ.1) q + 1)) - 1)) x) : wx_leaf x (nI j) (nI 3) Post := by
  unfold wx_leaf wp_X8_leaf
  obtain ⟨⟨b1, b2, b3, b4, b5, b6⟩, w, hv, _⟩ := id hx
  have b1 : x.2.1 = nI (bal σ.1) := b1
  have b2 : x.2.2.1 = nI (bsg σ.1) := b2
  have hn := w.2.2.1
  obtain ⟨k1, k2, k3⟩ := inQ_lt w hq
  have hq1 := hq.1
  have hq2 := hq.2.1
  have hlv := w.lvs
  obtain ⟨m, hm1⟩ : ∃ m, m = j - sumF (bZ σ.1) q + 1 := ⟨_, rfl⟩
  rw [← hm1] at P0 P1
  have hz := w.2.2.2.2.1 q hq1
  have hsq := w.sum (Nat.le_of_lt hq1)
  have X3 : ∀ (Q : Int32 → Prop), (bZ σ.1 q + 1 - m = m → Q (-5)) → (bZ σ.1 q + 1 - m ≠ m → Q (nI (sumF (bZ σ.1) q + (bZ σ.1 q + 1 - m) - 1))) → wp_X8_leafHangingWith x.2.2.2.1 x.2.2.2.2.1 (nI j) Q := by
    intro Q P0 P1
    refine x_quireOf w b3 b4 hq (x_numberOf w b3 b4 hq (s_at b4 q hq1 ?_))
    rintro _ rfl
    rw [← hm1, nI_add, pk_sub (by omega)]
    refine pk_eq (bZ σ.1 q + 1 - m) m P0 (fun z => x_firstLeaf w b4 (Nat.le_of_lt hq1) ?_)
    rw [nI_add, pk_sub (by omega)]
    exact P1 z
  refine x_hasLeaf w b3 b4 (fun z => absurd rfl (z j k3)) (fun _ _ _ => f1 (x_quireOf w b3 b4 hq (x_numberOf w b3 b4 hq ?_)))
  exact ⟨fun z => absurd z (by decide), fun _ => ⟨fun z => absurd z (by decide), fun _ => ⟨fun z => absurd z (by decide), fun _ => ⟨fun _ => X3 _ P0 P1, fun z => absurd (by decide) z⟩⟩⟩⟩
theorem xq_l4 {σ : St} {x : XS} (hx : XOK σ x) {q j : Nat} (hq : InQ σ.1 q j) {Post : Int32 → XS → Prop} (P : Post (nI (bitn (bL σ.1 q) (j - sumF (bZ σ.1) q))) x) : wx_leaf x (nI j) (nI 4) Post := by
  unfold wx_leaf wp_X8_leaf
  obtain ⟨⟨b1, b2, b3, b4, b5, b6⟩, w, hv, _⟩ := id hx
  have b1 : x.2.1 = nI (bal σ.1) := b1
  have b2 : x.2.2.1 = nI (bsg σ.1) := b2
  have hn := w.2.2.1
  obtain ⟨k1, k2, k3⟩ := inQ_lt w hq
  have hq1 := hq.1
  have hq2 := hq.2.1
  have hlv := w.lvs
  have hb := bitn_le (bL σ.1 q) (j - sumF (bZ σ.1) q)
  refine x_hasLeaf w b3 b4 (fun z => absurd rfl (z j k3)) (fun _ _ _ => f1 (x_quireOf w b3 b4 hq (x_numberOf w b3 b4 hq ?_)))
  exact ⟨fun z => absurd z (by decide), fun _ => ⟨fun z => absurd z (by decide), fun _ => ⟨fun z => absurd z (by decide), fun _ => ⟨fun z => absurd z (by decide), fun _ => ⟨fun _ => x_isLost w b3 b4 b5 hq (b_z (fun z => by rw [z] at P; exact P) (fun z => by rw [show bitn (bL σ.1 q) (j - sumF (bZ σ.1) q) = 1 by omega] at P; exact P)), fun z => absurd (by decide) z⟩⟩⟩⟩⟩
theorem xq_lout {σ : St} {x : XS} (hx : XOK σ x) {j : Nat} (hj : lvs σ.1 ≤ j) (hj2 : j < 2 ^ 31) {p2 : Int32} {Post : Int32 → XS → Prop} (P : Post (-1) x) : wx_leaf x (nI j) p2 Post := by
  unfold wx_leaf wp_X8_leaf
  obtain ⟨⟨b1, b2, b3, b4, b5, b6⟩, w, hv, _⟩ := id hx
  have b1 : x.2.1 = nI (bal σ.1) := b1
  have b2 : x.2.2.1 = nI (bsg σ.1) := b2
  have hn := w.2.2.1
  have hlv := w.lvs
  exact x_hasLeaf w b3 b4 (fun _ => f0 P) (fun i hi e => absurd ((nI_eq hj2 (by omega)).mp e) (by omega))
theorem xq_c0 {σ : St} {x : XS} (hx : XOK σ x) {Post : Int32 → XS → Prop} (P : Post (nI (bn σ.1)) x) : wx_count x (nI 0) Post := by
  unfold wx_count wp_X8_count
  dsimp only
  obtain ⟨⟨b1, b2, b3, b4, b5, b6⟩, w, hv, _⟩ := id hx
  have b1 : x.2.1 = nI (bal σ.1) := b1
  have b2 : x.2.2.1 = nI (bsg σ.1) := b2
  have hn := w.2.2.1
  exact ⟨fun _ => x_quires b3 P, fun z => absurd (by decide) z⟩
theorem xq_c1 {σ : St} {x : XS} (hx : XOK σ x) {Post : Int32 → XS → Prop} (P : Post (nI (lvs σ.1)) x) : wx_count x (nI 1) Post := by
  unfold wx_count wp_X8_count
  dsimp only
  obtain ⟨⟨b1, b2, b3, b4, b5, b6⟩, w, hv, _⟩ := id hx
  have b1 : x.2.1 = nI (bal σ.1) := b1
  have b2 : x.2.2.1 = nI (bsg σ.1) := b2
  have hn := w.2.2.1
  exact ⟨fun z => absurd z (by decide), fun _ => ⟨fun _ => x_leaves w b3 b4 P, fun z => absurd (by decide) z⟩⟩
theorem xq_c2 {σ : St} {x : XS} (hx : XOK σ x) {Post : Int32 → XS → Prop} (P : tA σ.1 (lvs σ.1) ≤ lvs σ.1 → Post (nI (lvs σ.1 - tA σ.1 (lvs σ.1))) x) : wx_count x (nI 2) Post := by
  unfold wx_count wp_X8_count
  dsimp only
  obtain ⟨⟨b1, b2, b3, b4, b5, b6⟩, w, hv, _⟩ := id hx
  have b1 : x.2.1 = nI (bal σ.1) := b1
  have b2 : x.2.2.1 = nI (bsg σ.1) := b2
  have hn := w.2.2.1
  have ht : tA σ.1 (lvs σ.1) ≤ lvs σ.1 := by
    rw [tA_all]
    have : ∀ n, sumF (fun q => fr (bL σ.1 q) (bZ σ.1 q)) n ≤ sumF (bZ σ.1) n := by
      intro n
      induction n with
      | zero => exact Nat.le_refl _
      | succ n ih =>
        have := fr_le (bL σ.1 n) (bZ σ.1 n)
        rw [sumF, sumF]
        omega
    exact this _
  exact ⟨fun z => absurd z (by decide), fun _ => ⟨fun z => absurd z (by decide), fun _ => ⟨fun _ => x_leaves w b3 b4 (x_leavesThere w b3 b4 b5 (by rw [pk_sub ht]; exact P ht)), fun z => absurd (by decide) z⟩⟩⟩
theorem xq_c3 {σ : St} {x : XS} (hx : XOK σ x) {Post : Int32 → XS → Prop} (P : Post (nI (sgd σ.1)) x) : wx_count x (nI 3) Post := by
  unfold wx_count wp_X8_count
  dsimp only
  obtain ⟨⟨b1, b2, b3, b4, b5, b6⟩, w, hv, _⟩ := id hx
  have b1 : x.2.1 = nI (bal σ.1) := b1
  have b2 : x.2.2.1 = nI (bsg σ.1) := b2
  have hn := w.2.2.1
  exact ⟨fun z => absurd z (by decide), fun _ => ⟨fun z => absurd z (by decide), fun _ => ⟨fun z => absurd z (by decide), fun _ => ⟨fun _ => x_signedLeaves2 b2 w b3 b4 P, fun z => absurd (by decide) z⟩⟩⟩⟩
theorem xq_c4 {σ : St} {x : XS} (hx : XOK σ x) {Post : Int32 → XS → Prop} (P : Post (nI (lettersN (bal σ.1))) x) : wx_count x (nI 4) Post := by
  unfold wx_count wp_X8_count
  dsimp only
  obtain ⟨⟨b1, b2, b3, b4, b5, b6⟩, w, hv, _⟩ := id hx
  have b1 : x.2.1 = nI (bal σ.1) := b1
  have b2 : x.2.2.1 = nI (bsg σ.1) := b2
  have hn := w.2.2.1
  exact ⟨fun z => absurd z (by decide), fun _ => ⟨fun z => absurd z (by decide), fun _ => ⟨fun z => absurd z (by decide), fun _ => ⟨fun z => absurd z (by decide), fun _ => ⟨fun _ => x_letters2 b1 w.1 P, fun z => absurd (by decide) z⟩⟩⟩⟩⟩
theorem xq_c5 {σ : St} {x : XS} (hx : XOK σ x) {Post : Int32 → XS → Prop} (P : Post (nI (sumF (fun j => if bS σ.1 j < 78 then 0 else 1) (bn σ.1))) x) : wx_count x (nI 5) Post := by
  unfold wx_count wp_X8_count
  dsimp only
  obtain ⟨⟨b1, b2, b3, b4, b5, b6⟩, w, hv, _⟩ := id hx
  have b1 : x.2.1 = nI (bal σ.1) := b1
  have b2 : x.2.2.1 = nI (bsg σ.1) := b2
  have hn := w.2.2.1
  exact ⟨fun z => absurd z (by decide), fun _ => ⟨fun z => absurd z (by decide), fun _ => ⟨fun z => absurd z (by decide), fun _ => ⟨fun z => absurd z (by decide), fun _ => ⟨fun z => absurd z (by decide), fun _ => ⟨fun _ => x_starredQuires w b3 P, fun z => absurd (by decide) z⟩⟩⟩⟩⟩⟩
theorem xq_c6 {σ : St} {x : XS} (hx : XOK σ x) {Post : Int32 → XS → Prop} (P : Post (nI (lpN σ.1)) x) : wx_count x (nI 6) Post := by
  unfold wx_count wp_X8_count
  dsimp only
  obtain ⟨⟨b1, b2, b3, b4, b5, b6⟩, w, hv, _⟩ := id hx
  have b1 : x.2.1 = nI (bal σ.1) := b1
  have b2 : x.2.2.1 = nI (bsg σ.1) := b2
  have hn := w.2.2.1
  exact ⟨fun z => absurd z (by decide), fun _ => ⟨fun z => absurd z (by decide), fun _ => ⟨fun z => absurd z (by decide), fun _ => ⟨fun z => absurd z (by decide), fun _ => ⟨fun z => absurd z (by decide), fun _ => ⟨fun z => absurd z (by decide), fun _ => ⟨fun _ => x_number2 b1 w b3 P, fun z => absurd (by decide) z⟩⟩⟩⟩⟩⟩⟩
theorem xq_c7 {σ : St} {x : XS} (hx : XOK σ x) {Post : Int32 → XS → Prop} (P : ∀ x2, XOK σ x2 → Post (nI (fT σ.1 (bn σ.1)).1) x2) : wx_count x (nI 7) Post := by
  unfold wx_count wp_X8_count
  dsimp only
  obtain ⟨⟨b1, b2, b3, b4, b5, b6⟩, w, hv, x4, x5, x6, x7, x8, x9, x10, x11, x12, x13, ⟨nw, fw, hw⟩, x15⟩ := id hx
  have b1 : x.2.1 = nI (bal σ.1) := b1
  have b2 : x.2.2.1 = nI (bsg σ.1) := b2
  have hn := w.2.2.1
  have XO : ∀ u e, RX (fT σ.1 (bn σ.1)) u → XOK σ (x.1, x.2.1, x.2.2.1, x.2.2.2.1, x.2.2.2.2.1, x.2.2.2.2.2.1, x.2.2.2.2.2.2.1, x.2.2.2.2.2.2.2.1, x.2.2.2.2.2.2.2.2.1, x.2.2.2.2.2.2.2.2.2.1, x.2.2.2.2.2.2.2.2.2.2.1, x.2.2.2.2.2.2.2.2.2.2.2.1, x.2.2.2.2.2.2.2.2.2.2.2.2.1, x.2.2.2.2.2.2.2.2.2.2.2.2.2.1, x.2.2.2.2.2.2.2.2.2.2.2.2.2.2.1, x.2.2.2.2.2.2.2.2.2.2.2.2.2.2.2.1, x.2.2.2.2.2.2.2.2.2.2.2.2.2.2.2.2.1, x.2.2.2.2.2.2.2.2.2.2.2.2.2.2.2.2.2.1, x.2.2.2.2.2.2.2.2.2.2.2.2.2.2.2.2.2.2.1, x.2.2.2.2.2.2.2.2.2.2.2.2.2.2.2.2.2.2.2.1, u, e, x.2.2.2.2.2.2.2.2.2.2.2.2.2.2.2.2.2.2.2.2.2.2) := fun u e hu => ⟨⟨b1, b2, b3, b4, b5, b6⟩, w, hv, x4, x5, x6, x7, x8, x9, x10, x11, x12, x13, ⟨_, _, hu⟩, x15⟩
  exact ⟨fun z => absurd z (by decide), fun _ => ⟨fun z => absurd z (by decide), fun _ => ⟨fun z => absurd z (by decide), fun _ => ⟨fun z => absurd z (by decide), fun _ => ⟨fun z => absurd z (by decide), fun _ => ⟨fun z => absurd z (by decide), fun _ => ⟨fun z => absurd z (by decide), fun _ => ⟨fun _ => x_write2 b1 w b3 b4 hw (fun u hu => s_length hu (P _ (XO u _ hu))), fun z => absurd (by decide) z⟩⟩⟩⟩⟩⟩⟩⟩
theorem xq_c8 {σ : St} {x : XS} (hx : XOK σ x) {Post : Int32 → XS → Prop} (P : ∀ x2, XOK σ x2 → Post (nI (eN σ.1 (bn σ.1))) x2) : wx_count x (nI 8) Post := by
  unfold wx_count wp_X8_count
  dsimp only
  obtain ⟨⟨b1, b2, b3, b4, b5, b6⟩, w, hv, x4, x5, x6, x7, x8, x9, x10, x11, x12, x13, ⟨nw, fw, hw⟩, x15⟩ := id hx
  have b1 : x.2.1 = nI (bal σ.1) := b1
  have b2 : x.2.2.1 = nI (bsg σ.1) := b2
  have hn := w.2.2.1
  have XO : ∀ u e, RX (fT σ.1 (bn σ.1)) u → XOK σ (x.1, x.2.1, x.2.2.1, x.2.2.2.1, x.2.2.2.2.1, x.2.2.2.2.2.1, x.2.2.2.2.2.2.1, x.2.2.2.2.2.2.2.1, x.2.2.2.2.2.2.2.2.1, x.2.2.2.2.2.2.2.2.2.1, x.2.2.2.2.2.2.2.2.2.2.1, x.2.2.2.2.2.2.2.2.2.2.2.1, x.2.2.2.2.2.2.2.2.2.2.2.2.1, x.2.2.2.2.2.2.2.2.2.2.2.2.2.1, x.2.2.2.2.2.2.2.2.2.2.2.2.2.2.1, x.2.2.2.2.2.2.2.2.2.2.2.2.2.2.2.1, x.2.2.2.2.2.2.2.2.2.2.2.2.2.2.2.2.1, x.2.2.2.2.2.2.2.2.2.2.2.2.2.2.2.2.2.1, x.2.2.2.2.2.2.2.2.2.2.2.2.2.2.2.2.2.2.1, x.2.2.2.2.2.2.2.2.2.2.2.2.2.2.2.2.2.2.2.1, u, e, x.2.2.2.2.2.2.2.2.2.2.2.2.2.2.2.2.2.2.2.2.2.2) := fun u e hu => ⟨⟨b1, b2, b3, b4, b5, b6⟩, w, hv, x4, x5, x6, x7, x8, x9, x10, x11, x12, x13, ⟨_, _, hu⟩, x15⟩
  exact ⟨fun z => absurd z (by decide), fun _ => ⟨fun z => absurd z (by decide), fun _ => ⟨fun z => absurd z (by decide), fun _ => ⟨fun z => absurd z (by decide), fun _ => ⟨fun z => absurd z (by decide), fun _ => ⟨fun z => absurd z (by decide), fun _ => ⟨fun z => absurd z (by decide), fun _ => ⟨fun z => absurd z (by decide), fun _ => ⟨fun _ => x_write2 b1 w b3 b4 hw (fun u hu => P _ (XO u _ hu)), fun z => absurd (by decide) z⟩⟩⟩⟩⟩⟩⟩⟩⟩
theorem xq_c9 {σ : St} {x : XS} (hx : XOK σ x) {Post : Int32 → XS → Prop} (P : Post (nI (bpn σ.1)) x) : wx_count x (nI 9) Post := by
  unfold wx_count wp_X8_count
  dsimp only
  obtain ⟨⟨b1, b2, b3, b4, b5, b6⟩, w, hv, _⟩ := id hx
  have b1 : x.2.1 = nI (bal σ.1) := b1
  have b2 : x.2.2.1 = nI (bsg σ.1) := b2
  have hn := w.2.2.1
  exact ⟨fun z => absurd z (by decide), fun _ => ⟨fun z => absurd z (by decide), fun _ => ⟨fun z => absurd z (by decide), fun _ => ⟨fun z => absurd z (by decide), fun _ => ⟨fun z => absurd z (by decide), fun _ => ⟨fun z => absurd z (by decide), fun _ => ⟨fun z => absurd z (by decide), fun _ => ⟨fun z => absurd z (by decide), fun _ => ⟨fun z => absurd z (by decide), fun _ => ⟨fun _ => s_length b6 P, fun z => absurd (by decide) z⟩⟩⟩⟩⟩⟩⟩⟩⟩⟩
theorem xq_c10 {σ : St} {x : XS} (hx : XOK σ x) {Post : Int32 → XS → Prop} (P : Post (nI (bsg σ.1)) x) : wx_count x (nI 10) Post := by
  unfold wx_count wp_X8_count
  dsimp only
  obtain ⟨⟨b1, b2, b3, b4, b5, b6⟩, w, hv, _⟩ := id hx
  have b1 : x.2.1 = nI (bal σ.1) := b1
  have b2 : x.2.2.1 = nI (bsg σ.1) := b2
  have hn := w.2.2.1
  have P2 : Post x.2.2.1 x := by rw [b2]; exact P
  exact ⟨fun z => absurd z (by decide), fun _ => ⟨fun z => absurd z (by decide), fun _ => ⟨fun z => absurd z (by decide), fun _ => ⟨fun z => absurd z (by decide), fun _ => ⟨fun z => absurd z (by decide), fun _ => ⟨fun z => absurd z (by decide), fun _ => ⟨fun z => absurd z (by decide), fun _ => ⟨fun z => absurd z (by decide), fun _ => ⟨fun z => absurd z (by decide), fun _ => ⟨fun z => absurd z (by decide), fun _ => ⟨fun _ => P2, fun z => absurd (by decide) z⟩⟩⟩⟩⟩⟩⟩⟩⟩⟩⟩
theorem xq_c13 {σ : St} {x : XS} (hx : XOK σ x) {Post : Int32 → XS → Prop} (P : Post (-2) x) : wx_count x (nI 13) Post := by
  unfold wx_count wp_X8_count
  dsimp only
  obtain ⟨⟨b1, b2, b3, b4, b5, b6⟩, w, hv, _⟩ := id hx
  have b1 : x.2.1 = nI (bal σ.1) := b1
  have b2 : x.2.2.1 = nI (bsg σ.1) := b2
  have hn := w.2.2.1
  exact ⟨fun z => absurd z (by decide), fun _ => ⟨fun z => absurd z (by decide), fun _ => ⟨fun z => absurd z (by decide), fun _ => ⟨fun z => absurd z (by decide), fun _ => ⟨fun z => absurd z (by decide), fun _ => ⟨fun z => absurd z (by decide), fun _ => ⟨fun z => absurd z (by decide), fun _ => ⟨fun z => absurd z (by decide), fun _ => ⟨fun z => absurd z (by decide), fun _ => ⟨fun z => absurd z (by decide), fun _ => ⟨fun z => absurd z (by decide), fun _ => ⟨fun z => absurd z (by decide), fun _ => ⟨fun z => absurd z (by decide), fun _ => P⟩⟩⟩⟩⟩⟩⟩⟩⟩⟩⟩⟩⟩
theorem xq_formula {σ : St} {x : XS} (hx : XOK σ x) {k : Nat} (hk : k < 2 ^ 31) {Post : Int32 → XS → Prop} (P0 : (fT σ.1 (bn σ.1)).1 ≤ k → ∀ x2, XOK σ x2 → Post (-5) x2) (P1 : k < (fT σ.1 (bn σ.1)).1 → ∀ x2, XOK σ x2 → Post (nI ((fT σ.1 (bn σ.1)).2 k)) x2) : wx_formula x (nI k) Post := by
  unfold wx_formula wp_X8_formula
  dsimp only
  obtain ⟨⟨b1, b2, b3, b4, b5, b6⟩, w, hv, x4, x5, x6, x7, x8, x9, x10, x11, x12, x13, ⟨nw, fw, hw⟩, x15⟩ := id hx
  have b1 : x.2.1 = nI (bal σ.1) := b1
  have b2 : x.2.2.1 = nI (bsg σ.1) := b2
  have hn := w.2.2.1
  have XO : ∀ u e, RX (fT σ.1 (bn σ.1)) u → XOK σ (x.1, x.2.1, x.2.2.1, x.2.2.2.1, x.2.2.2.2.1, x.2.2.2.2.2.1, x.2.2.2.2.2.2.1, x.2.2.2.2.2.2.2.1, x.2.2.2.2.2.2.2.2.1, x.2.2.2.2.2.2.2.2.2.1, x.2.2.2.2.2.2.2.2.2.2.1, x.2.2.2.2.2.2.2.2.2.2.2.1, x.2.2.2.2.2.2.2.2.2.2.2.2.1, x.2.2.2.2.2.2.2.2.2.2.2.2.2.1, x.2.2.2.2.2.2.2.2.2.2.2.2.2.2.1, x.2.2.2.2.2.2.2.2.2.2.2.2.2.2.2.1, x.2.2.2.2.2.2.2.2.2.2.2.2.2.2.2.2.1, x.2.2.2.2.2.2.2.2.2.2.2.2.2.2.2.2.2.1, x.2.2.2.2.2.2.2.2.2.2.2.2.2.2.2.2.2.2.1, x.2.2.2.2.2.2.2.2.2.2.2.2.2.2.2.2.2.2.2.1, u, e, x.2.2.2.2.2.2.2.2.2.2.2.2.2.2.2.2.2.2.2.2.2.2) := fun u e hu => ⟨⟨b1, b2, b3, b4, b5, b6⟩, w, hv, x4, x5, x6, x7, x8, x9, x10, x11, x12, x13, ⟨_, _, hu⟩, x15⟩
  have hf := fT_len w (bn σ.1) (Nat.le_refl _)
  exact ⟨fun _ => x_write2 b1 w b3 b4 hw (fun u hu => s_length hu (pk_le (fT σ.1 (bn σ.1)).1 k (fun z => P0 z _ (XO u _ hu)) (fun z => s_at hu k z (P1 z _ (XO u _ hu))))), fun z => absurd (nI_pos' hk) z⟩
theorem xq_formula_neg {σ : St} {x : XS} (hx : XOK σ x) {Post : Int32 → XS → Prop} (P : Post (-2) x) : wx_formula x (-1) Post := by
  unfold wx_formula wp_X8_formula
  dsimp only
  exact ⟨fun z => absurd z (by decide), fun _ => P⟩
theorem xq_p0 {σ : St} {x : XS} (hx : XOK σ x) {p : Nat} (hp : p < 2 ^ 31) {Post : Int32 → XS → Prop} (P0 : lapF σ.1 (bn σ.1) 0 p = none → Post (-5) x) (P1 : ∀ j, lapF σ.1 (bn σ.1) 0 p = some j → Post (nI j) x) : wx_lapse x (nI p) (nI 0) Post := by
  unfold wx_lapse wp_X8_lapse
  obtain ⟨⟨b1, b2, b3, b4, b5, b6⟩, w, hv, _⟩ := id hx
  have b1 : x.2.1 = nI (bal σ.1) := b1
  have b2 : x.2.2.1 = nI (bsg σ.1) := b2
  have hn := w.2.2.1
  have w1' := w.1
  have X0 : ∀ {A : Prop} {Q : Int32 → Prop} (c : Nat), c ≤ 2 → Q (bV (lapF σ.1 (bn σ.1) 0 p)) → (nI p < 0 → A) ∧ (¬ nI p < 0 → ((nI c < 0 → A) ∧ (¬ nI c < 0 → ((nI c ≤ nI 2 → wp_X3_quireAt x.2.1 x.2.2.2.1 (nI p) Q) ∧ (¬ nI c ≤ nI 2 → A))))) := by
    intro A Q c hc P
    rw [b1]
    exact b_neg (b_neg (pk_le c 2 (fun _ => ⟨bn σ.1 + 1, xl_quireAt w b3 hp (bn σ.1) 0 p 0 (by omega) (by omega) P⟩) (fun z => absurd z (by omega))))
  cases hF : lapF σ.1 (bn σ.1) 0 p with
  | none =>
    rw [hF] at X0
    exact X0 0 (by decide) ⟨fun _ => P0 hF, fun z => absurd rfl z⟩
  | some j =>
    rw [hF] at X0
    obtain ⟨hj, k, hL⟩ := lapF_some hF
    exact X0 0 (by decide) ⟨fun z => absurd z (nI_m1 (n := j) (by omega)), fun _ => f0 (P1 j hF)⟩
theorem xq_p1 {σ : St} {x : XS} (hx : XOK σ x) {p j k : Nat} (hp : p < 2 ^ 31) (hF : lapF σ.1 (bn σ.1) 0 p = some j) (hL : lapO σ.1 j = some k) {Post : Int32 → XS → Prop} (P : Post (nI (kdN σ.1 j k)) x) : wx_lapse x (nI p) (nI 1) Post := by
  unfold wx_lapse wp_X8_lapse
  obtain ⟨⟨b1, b2, b3, b4, b5, b6⟩, w, hv, _⟩ := id hx
  have b1 : x.2.1 = nI (bal σ.1) := b1
  have b2 : x.2.2.1 = nI (bsg σ.1) := b2
  have hn := w.2.2.1
  have w1' := w.1
  have X0 : ∀ {A : Prop} {Q : Int32 → Prop} (c : Nat), c ≤ 2 → Q (bV (lapF σ.1 (bn σ.1) 0 p)) → (nI p < 0 → A) ∧ (¬ nI p < 0 → ((nI c < 0 → A) ∧ (¬ nI c < 0 → ((nI c ≤ nI 2 → wp_X3_quireAt x.2.1 x.2.2.2.1 (nI p) Q) ∧ (¬ nI c ≤ nI 2 → A))))) := by
    intro A Q c hc P
    rw [b1]
    exact b_neg (b_neg (pk_le c 2 (fun _ => ⟨bn σ.1 + 1, xl_quireAt w b3 hp (bn σ.1) 0 p 0 (by omega) (by omega) P⟩) (fun z => absurd z (by omega))))
  rw [hF] at X0
  have hj := (lapF_some hF).1
  have hj' : j < bn σ.1 := by omega
  have K0 : ∀ {Q : Int32 → Prop}, Q (nI (kdN σ.1 j k)) → wp_X3_kind x.2.1 x.2.2.2.1 (nI j) Q := by
    intro Q P
    rw [b1]
    refine x_kind w b3 hj' (fun e => ?_) (fun k2 e => ?_)
    · rw [hL] at e; cases e
    · rw [hL] at e; cases e; exact P
  exact X0 1 (by decide) ⟨fun z => absurd z (nI_m1 (n := j) (by omega)), fun _ => f1 ⟨fun _ => K0 P, fun z => absurd (by decide) z⟩⟩
theorem xq_p2 {σ : St} {x : XS} (hx : XOK σ x) {p j k : Nat} (hp : p < 2 ^ 31) (hF : lapF σ.1 (bn σ.1) 0 p = some j) (hL : lapO σ.1 j = some k) (hk : kdN σ.1 j k ≠ 2) {Post : Int32 → XS → Prop} (P : Post (nI 0) x) : wx_lapse x (nI p) (nI 2) Post := by
  unfold wx_lapse wp_X8_lapse
  obtain ⟨⟨b1, b2, b3, b4, b5, b6⟩, w, hv, _⟩ := id hx
  have b1 : x.2.1 = nI (bal σ.1) := b1
  have b2 : x.2.2.1 = nI (bsg σ.1) := b2
  have hn := w.2.2.1
  have w1' := w.1
  have X0 : ∀ {A : Prop} {Q : Int32 → Prop} (c : Nat), c ≤ 2 → Q (bV (lapF σ.1 (bn σ.1) 0 p)) → (nI p < 0 → A) ∧ (¬ nI p < 0 → ((nI c < 0 → A) ∧ (¬ nI c < 0 → ((nI c ≤ nI 2 → wp_X3_quireAt x.2.1 x.2.2.2.1 (nI p) Q) ∧ (¬ nI c ≤ nI 2 → A))))) := by
    intro A Q c hc P
    rw [b1]
    exact b_neg (b_neg (pk_le c 2 (fun _ => ⟨bn σ.1 + 1, xl_quireAt w b3 hp (bn σ.1) 0 p 0 (by omega) (by omega) P⟩) (fun z => absurd z (by omega))))
  rw [hF] at X0
  have hj := (lapF_some hF).1
  have hj' : j < bn σ.1 := by omega
  have K0 : ∀ {Q : Int32 → Prop}, Q (nI (kdN σ.1 j k)) → wp_X3_kind x.2.1 x.2.2.2.1 (nI j) Q := by
    intro Q P
    rw [b1]
    refine x_kind w b3 hj' (fun e => ?_) (fun k2 e => ?_)
    · rw [hL] at e; cases e
    · rw [hL] at e; cases e; exact P
  have hkd : kdN σ.1 j k < 3 := by
    unfold kdN
    split
    · decide
    · split <;> decide
  exact X0 2 (by decide) ⟨fun z => absurd z (nI_m1 (n := j) (by omega)), fun _ => ⟨fun z => absurd z (by decide), fun _ => ⟨fun z => absurd z (by decide), fun _ => K0 (pk_eq (kdN σ.1 j k) 2 (fun e => absurd e hk) (fun _ => P))⟩⟩⟩
theorem xq_pneg {σ : St} {x : XS} (hx : XOK σ x) {p2 : Int32} {Post : Int32 → XS → Prop} (P : Post (-2) x) : wx_lapse x (-1) p2 Post := by
  unfold wx_lapse wp_X8_lapse
  exact ⟨fun _ => P, fun z => absurd (by decide) z⟩
theorem xq_piled {σ : St} {x : XS} (hx : XOK σ x) (h0 : bpn σ.1 = 0) {Post : Int32 → XS → Prop} (P : Post (-5) x) : wx_piled x (nI 0) (nI 0) Post := by
  unfold wx_piled wp_X8_piled
  obtain ⟨⟨b1, b2, b3, b4, b5, b6⟩, w, hv, _⟩ := id hx
  have b1 : x.2.1 = nI (bal σ.1) := b1
  have b2 : x.2.2.1 = nI (bsg σ.1) := b2
  have hn := w.2.2.1
  rw [h0] at b6
  exact b_neg (b_neg (pk_le 0 1 (fun _ => s_length b6 (pk_lt 0 0 (fun z => absurd z (by omega)) (fun _ => P))) (fun z => absurd z (by omega))))
theorem xq_piled2 {σ : St} {x : XS} (hx : XOK σ x) {Post : Int32 → XS → Prop} (P : Post (-2) x) : wx_piled x (nI 0) (nI 2) Post := by
  unfold wx_piled wp_X8_piled
  exact b_neg (b_neg (pk_le 2 1 (fun z => absurd z (by omega)) (fun _ => P)))
theorem xq_sheets4 {σ : St} {x : XS} (hx : XOK σ x) {Post : Int32 → XS → Prop} (P : Post (nI (sumF (fun j => shN 4 (bZ σ.1 j)) (bn σ.1))) x) : wx_sheets x (nI 4) Post := by
  unfold wx_sheets wp_X8_sheets
  obtain ⟨⟨b1, b2, b3, b4, b5, b6⟩, w, hv, _⟩ := id hx
  have b1 : x.2.1 = nI (bal σ.1) := b1
  have b2 : x.2.2.1 = nI (bsg σ.1) := b2
  have hn := w.2.2.1
  exact ⟨fun z => absurd z (by decide), fun _ => ⟨fun _ => ⟨bn σ.1 + 1, xl_sheets w b3 b4 (by decide) (by decide) P (bn σ.1) 0 (by omega)⟩, fun z => absurd (by decide) z⟩⟩
theorem xq_sheets3 {σ : St} {x : XS} (hx : XOK σ x) {Post : Int32 → XS → Prop} (P : Post (-2) x) : wx_sheets x (nI 3) Post := by
  unfold wx_sheets wp_X8_sheets
  exact ⟨fun z => absurd z (by decide), fun _ => ⟨fun z => absurd z (by decide), fun _ => ⟨fun z => absurd z (by decide), fun _ => ⟨fun z => absurd z (by decide), fun _ => P⟩⟩⟩⟩
theorem xq_undo0 {σ : St} {x : XS} (hx : XOK σ x) (h0 : σ.2.1 = 0) {Post : Int32 → XS → Prop} (P : Post (-5) x) : wx_undo x Post := by
  unfold wx_undo wp_X8_undo
  obtain ⟨x0, al, sg, r1, r2, r3, r4, c1, c2, d1, d2, d3, d4, v, t1, t2, t3, t4, at1, ta, w1, wc, fo⟩ := x
  dsimp only
  obtain ⟨⟨b1, b2, b3, b4, b5, b6⟩, w, hv, hxr⟩ := id hx
  have b1 : al = nI (bal σ.1) := b1
  have b2 : sg = nI (bsg σ.1) := b2
  subst b1 b2
  have hn := w.2.2.1
  have w1' := w.1
  have hv1 : v.2 = nI σ.2.1 := hv.1
  rw [h0] at hv1
  exact ⟨fun _ => P, fun z => absurd hv1 z⟩
theorem xq_undo {σ : St} {x : XS} (hx : XOK σ x) {k : Nat} (h0 : σ.2.1 = k + 1) {Post : Int32 → XS → Prop} (P : ∀ x2, XOK (σ.2.2.1 k, k, σ.2.2.1, σ.2.2.2) x2 → Post (nI k) x2) : wx_undo x Post := by
  unfold wx_undo wp_X8_undo
  obtain ⟨x0, al, sg, r1, r2, r3, r4, c1, c2, d1, d2, d3, d4, v, t1, t2, t3, t4, at1, ta, w1, wc, fo⟩ := x
  dsimp only
  obtain ⟨⟨b1, b2, b3, b4, b5, b6⟩, w, hv, hxr⟩ := id hx
  have b1 : al = nI (bal σ.1) := b1
  have b2 : sg = nI (bsg σ.1) := b2
  subst b1 b2
  have hn := w.2.2.1
  have w1' := w.1
  have hv1 : v.2 = nI σ.2.1 := hv.1
  rw [h0] at hv1 hv
  have hk := hv.2.1
  exact ⟨fun z => absurd (hv1.symm.trans z) (fun z2 => absurd ((nI_z (by omega)).mp z2) (by omega)), fun _ => x_takeBack hv ⟨rfl, rfl, b3, b4, b5, b6⟩ (fun v2 a b c d e f g1 g2 => by
    show Post v2.2 _
    rw [g1.1]
    exact P _ ⟨g2, (hv.2.2.1 k (by omega)).2, g1, hxr⟩)⟩
theorem xq_restore0 {σ : St} {x : XS} (hx : XOK σ x) (h0 : σ.2.2.2.1 = 0) {Post : Int32 → XS → Prop} (P : Post (-5) x) : wx_restore x Post := by
  unfold wx_restore wp_X8_restore
  obtain ⟨x0, al, sg, r1, r2, r3, r4, c1, c2, d1, d2, d3, d4, v, t1, t2, t3, t4, at1, ta, w1, wc, fo⟩ := x
  dsimp only
  obtain ⟨⟨b1, b2, b3, b4, b5, b6⟩, w, hv, hxr⟩ := id hx
  have b1 : al = nI (bal σ.1) := b1
  have b2 : sg = nI (bsg σ.1) := b2
  subst b1 b2
  have hn := w.2.2.1
  have w1' := w.1
  have hx0 : x0 = nI σ.2.2.2.1 := hxr.1
  rw [h0] at hx0
  exact ⟨fun _ => P, fun z => absurd hx0 z⟩
theorem xq_clear {σ : St} {x : XS} (hx : XOK σ x) {Post : Int32 → XS → Prop} (P : ∀ x2, XOK (σ.1, σ.2.1, σ.2.2.1, σ.2.2.2.1, σ.2.2.2.2.1, 0, σ.2.2.2.2.2.2) x2 → Post (nI σ.2.2.2.2.2.1) x2) : wx_clearText x Post := by
  unfold wx_clearText wp_X8_clearText
  obtain ⟨x1, x2, x3, x4, x5, x6, x7, x8, x9, x10⟩ := hx
  exact s_length x8 (s_empty x8 (fun r2 g => P _ ⟨x1, x2, x3, x4, x5, x6, x7, g _, fun j hj => absurd hj (Nat.not_lt_zero _), x10⟩))
theorem xq_type {σ : St} {x : XS} (hx : XOK σ x) {n ch : Nat} (hn : n = σ.2.2.2.2.2.1) (hn2 : n < 60) (hc : ch < 65536) {Post : Int32 → XS → Prop} (P : ∀ x2, XOK (σ.1, σ.2.1, σ.2.2.1, σ.2.2.2.1, σ.2.2.2.2.1, n + 1, insF σ.2.2.2.2.2.2 n ch) x2 → Post (nI (n + 1)) x2) : wx_type x (nI ch) Post := by
  unfold wx_type wp_X8_type
  obtain ⟨x1, x2, x3, x4, x5, x6, x7, x8, x9, x10⟩ := hx
  rw [← hn] at x8 x9
  refine s_length x8 (pk_lt n 60 (fun _ => ?_) (fun z => absurd z (by omega)))
  refine s_add x8 (by omega) (fun r2 g => s_length g (P _ ⟨x1, x2, x3, x4, x5, x6, x7, g, fun j hj => ?_, x10⟩))
  have hj : j < n + 1 := hj
  show insF σ.2.2.2.2.2.2 n ch j < 65536
  unfold insF
  by_cases q1 : j < n
  · rw [if_pos q1]; exact x9 j q1
  · rw [if_neg q1, if_pos (by omega)]; exact hc
theorem xq_insert {σ : St} {x : XS} (hx : XOK σ x) {q a z : Nat} (hq : q ≤ bn σ.1) (ha1 : 1 ≤ a) (ha2 : a ≤ 5) (hz1 : 1 ≤ z) (hz2 : z ≤ 24) {Post : Int32 → XS → Prop} (P0 : bn σ.1 = 40 → Post (-3) x) (P1 : bn σ.1 < 40 → ∀ x2, XOK (actS σ (bal σ.1, bsg σ.1, bn σ.1 + 1, insF (bS σ.1) q (77 + a), insF (bZ σ.1) q z, insF (bL σ.1) q 0, 0, bP σ.1)) x2 → Post (nI (lvs (bal σ.1, bsg σ.1, bn σ.1 + 1, insF (bS σ.1) q (77 + a), insF (bZ σ.1) q z, insF (bL σ.1) q 0, 0, bP σ.1))) x2) : wx_insert x (nI q) (nI a) (nI z) Post := by
  unfold wx_insert wp_X8_insert
  obtain ⟨x0, al, sg, r1, r2, r3, r4, c1, c2, d1, d2, d3, d4, v, t1, t2, t3, t4, at1, ta, w1, wc, fo⟩ := x
  dsimp only
  obtain ⟨⟨b1, b2, b3, b4, b5, b6⟩, w, hv, hxr⟩ := id hx
  have b1 : al = nI (bal σ.1) := b1
  have b2 : sg = nI (bsg σ.1) := b2
  subst b1 b2
  have hn := w.2.2.1
  have w1' := w.1
  have XQ : ∀ {A B : Prop}, B → (nI q < 0 → A) ∧ (¬ nI q < 0 → wp_X1_quires r1 (fun r => (nI q ≤ r → B) ∧ (¬ nI q ≤ r → A))) := fun b => b_neg (x_quires b3 (pk_le q (bn σ.1) (fun _ => b) (fun z => absurd z (by omega))))
  have XS2 : ∀ {A B : Prop}, B → (nI a < nI 1 → A) ∧ (¬ nI a < nI 1 → ((nI 5 < nI a → A) ∧ (¬ nI 5 < nI a → B))) := fun b => pk_lt a 1 (fun z => absurd z (by omega)) (fun _ => pk_lt 5 a (fun z => absurd z (by omega)) (fun _ => b))
  refine XQ (XS2 (x_size hz1 hz2 (f1 (x_quires b3 (pk_lt (bn σ.1) 40 (fun h => ?_) (fun h => P0 (by omega)))))))
  have w' := wb_ins w (q := q) (s := 77 + a) (z := z) hq h (by omega) hz1 hz2
  refine x_record w hv ⟨rfl, rfl, b3, b4, b5, b6⟩ (fun v2 hv2 => ?_)
  show wp_X1_addQuire r1 r2 r3 r4 (nI q) (nI 78 + nI a - nI 1) (nI z) _
  rw [nI_add, pk_sub (by omega), show 78 + a - 1 = 77 + a by omega]
  exact x_addQuire (B := σ.1) b3 b4 b5 b6 hq h (fun u1 u2 u3 u4 g1 g2 g3 g4 => x_leaves (B := (bal σ.1, bsg σ.1, bn σ.1 + 1, insF (bS σ.1) q (77 + a), insF (bZ σ.1) q z, insF (bL σ.1) q 0, 0, bP σ.1)) w' g1 g2 (P1 h _ (xAct hx w' ⟨rfl, rfl, g1, g2, g3, g4⟩ hv2)))
theorem xq_insert_out {σ : St} {x : XS} (hx : XOK σ x) {q : Nat} (hq : bn σ.1 < q) (hq2 : q < 1000) {p2 p3 : Int32} {Post : Int32 → XS → Prop} (P : Post (-1) x) : wx_insert x (nI q) p2 p3 Post := by
  unfold wx_insert wp_X8_insert
  obtain ⟨x0, al, sg, r1, r2, r3, r4, c1, c2, d1, d2, d3, d4, v, t1, t2, t3, t4, at1, ta, w1, wc, fo⟩ := x
  dsimp only
  obtain ⟨⟨b1, b2, b3, b4, b5, b6⟩, w, hv, hxr⟩ := id hx
  have b1 : al = nI (bal σ.1) := b1
  have b2 : sg = nI (bsg σ.1) := b2
  subst b1 b2
  have hn := w.2.2.1
  have w1' := w.1
  exact b_neg (x_quires b3 (pk_le q (bn σ.1) (fun z => absurd z (by omega)) (fun _ => P)))
theorem xq_insert_bad {σ : St} {x : XS} (hx : XOK σ x) {p3 : Int32} {Post : Int32 → XS → Prop} (P : Post (-2) x) : wx_insert x (nI 0) (nI 6) p3 Post := by
  unfold wx_insert wp_X8_insert
  obtain ⟨x0, al, sg, r1, r2, r3, r4, c1, c2, d1, d2, d3, d4, v, t1, t2, t3, t4, at1, ta, w1, wc, fo⟩ := x
  dsimp only
  obtain ⟨⟨b1, b2, b3, b4, b5, b6⟩, w, hv, hxr⟩ := id hx
  have b1 : al = nI (bal σ.1) := b1
  have b2 : sg = nI (bsg σ.1) := b2
  subst b1 b2
  have hn := w.2.2.1
  have w1' := w.1
  exact b_neg (x_quires b3 (pk_le 0 (bn σ.1) (fun _ => pk_lt 6 1 (fun z => absurd z (by omega)) (fun _ => pk_lt 5 6 (fun _ => P) (fun z => absurd z (by omega)))) (fun z => absurd z (by omega))))
theorem xq_signNext {σ : St} {x : XS} (hx : XOK σ x) {z : Nat} (hz1 : 1 ≤ z) (hz2 : z ≤ 24) {Post : Int32 → XS → Prop} (P0 : bn σ.1 = 40 → Post (-3) x) (P4 : Post (-4) x) (P1 : bn σ.1 < 40 → ∀ k, k < 78 → ∀ x2, XOK (actS σ (bal σ.1, bsg σ.1, bn σ.1 + 1, insF (bS σ.1) (bn σ.1) k, insF (bZ σ.1) (bn σ.1) z, insF (bL σ.1) (bn σ.1) 0, 0, bP σ.1)) x2 → Post (nI (bn σ.1)) x2) : wx_signNext x (nI z) Post := by
  unfold wx_signNext wp_X8_signNext
  obtain ⟨x0, al, sg, r1, r2, r3, r4, c1, c2, d1, d2, d3, d4, v, t1, t2, t3, t4, at1, ta, w1, wc, fo⟩ := x
  dsimp only
  obtain ⟨⟨b1, b2, b3, b4, b5, b6⟩, w, hv, hxr⟩ := id hx
  have b1 : al = nI (bal σ.1) := b1
  have b2 : sg = nI (bsg σ.1) := b2
  subst b1 b2
  have hn := w.2.2.1
  have w1' := w.1
  obtain ⟨k, hk0⟩ : ∃ k, k = nextA (bal σ.1) (lastA (bS σ.1) (lastL (bS σ.1) (bn σ.1))) := ⟨_, rfl⟩
  have hla := lastA_le (S := bS σ.1) (q := bn σ.1)
  refine x_size hz1 hz2 (f1 (x_quires b3 (pk_lt (bn σ.1) 40 (fun h => x_quires b3 (x_lastLettersAhead w b3 (Nat.le_refl _) (x_nextSign (by omega) (by omega) (lastA_ok _ _) ?_))) (fun h => P0 (by omega)))))
  rw [← hk0]
  by_cases ck : k < 78
  · have hnv : nv k = nI k := by unfold nv; rw [if_pos ck]
    have w' := wb_ins w (q := bn σ.1) (s := k) (z := z) (Nat.le_refl _) h (by omega) hz1 hz2
    rw [hnv]
    refine ⟨fun e => absurd e (nI_m1 (by omega)), fun _ => x_record w hv ⟨rfl, rfl, b3, b4, b5, b6⟩ (fun v2 hv2 => x_quires b3 (x_addQuire (B := σ.1) b3 b4 b5 b6 (Nat.le_refl _) h (fun u1 u2 u3 u4 g1 g2 g3 g4 => x_quires (B := (bal σ.1, bsg σ.1, bn σ.1 + 1, insF (bS σ.1) (bn σ.1) k, insF (bZ σ.1) (bn σ.1) z, insF (bL σ.1) (bn σ.1) 0, 0, bP σ.1)) g1 ?_)))⟩
    show Post (nI (bn σ.1 + 1) - nI 1) _
    rw [pk_sub (by omega), Nat.add_sub_cancel]
    exact P1 h k ck _ (xAct hx w' ⟨rfl, rfl, g1, g2, g3, g4⟩ hv2)
  · have hnv : nv k = -1 := by unfold nv; rw [if_neg ck]
    rw [hnv]
    exact ⟨fun _ => P4, fun e => absurd rfl e⟩
theorem xq_signNext_bad {σ : St} {x : XS} (hx : XOK σ x) {Post : Int32 → XS → Prop} (P : Post (-2) x) : wx_signNext x (nI 25) Post := by
  unfold wx_signNext wp_X8_signNext
  exact x_sizeO (Or.inr (by decide)) (f0 P)
theorem xq_remove {σ : St} {x : XS} (hx : XOK σ x) {q : Nat} (hq2 : q < 2 ^ 31) {Post : Int32 → XS → Prop} (P0 : bn σ.1 ≤ q → Post (-1) x) (P1 : q < bn σ.1 → ∀ x2, XOK (actS σ (bal σ.1, bsg σ.1, bn σ.1 - 1, dropF (bS σ.1) q, dropF (bZ σ.1) q, dropF (bL σ.1) q, 0, bP σ.1)) x2 → Post (nI (lvs (bal σ.1, bsg σ.1, bn σ.1 - 1, dropF (bS σ.1) q, dropF (bZ σ.1) q, dropF (bL σ.1) q, 0, bP σ.1))) x2) : wx_remove x (nI q) Post := by
  unfold wx_remove wp_X8_remove
  obtain ⟨x0, al, sg, r1, r2, r3, r4, c1, c2, d1, d2, d3, d4, v, t1, t2, t3, t4, at1, ta, w1, wc, fo⟩ := x
  dsimp only
  obtain ⟨⟨b1, b2, b3, b4, b5, b6⟩, w, hv, hxr⟩ := id hx
  have b1 : al = nI (bal σ.1) := b1
  have b2 : sg = nI (bsg σ.1) := b2
  subst b1 b2
  have hn := w.2.2.1
  have w1' := w.1
  by_cases hq : q < bn σ.1
  · have w' := wb_drop w hq
    exact x_hasQuire w b3 (fun z => absurd rfl (z q hq)) (fun _ _ _ => f1 (x_record w hv ⟨rfl, rfl, b3, b4, b5, b6⟩ (fun v2 hv2 => x_dropQuire (B := σ.1) b3 b4 b5 b6 hq (fun u1 u2 u3 u4 g1 g2 g3 g4 => x_leaves (B := (bal σ.1, bsg σ.1, bn σ.1 - 1, dropF (bS σ.1) q, dropF (bZ σ.1) q, dropF (bL σ.1) q, 0, bP σ.1)) w' g1 g2 (P1 hq _ (xAct hx w' ⟨rfl, rfl, g1, g2, g3, g4⟩ hv2))))))
  · exact x_hasQuire w b3 (fun _ => f0 (P0 (by omega))) (fun j hj e => absurd ((nI_eq hq2 (by omega)).mp e) (by omega))
theorem xq_lose {σ : St} {x : XS} (hx : XOK σ x) {q j b : Nat} (hq : InQ σ.1 q j) (hb1 : b ≤ 1) {Post : Int32 → XS → Prop} (P0 : bitn (bL σ.1 q) (j - sumF (bZ σ.1) q) = b → Post (-5) x) (P1 : bitn (bL σ.1 q) (j - sumF (bZ σ.1) q) ≠ b → WB (bal σ.1, bsg σ.1, bn σ.1, bS σ.1, bZ σ.1, updN (bL σ.1) q (bL σ.1 q ^^^ 2 ^ (j - sumF (bZ σ.1) q)), 0, bP σ.1) → ∀ x2, XOK (actS σ (bal σ.1, bsg σ.1, bn σ.1, bS σ.1, bZ σ.1, updN (bL σ.1) q (bL σ.1 q ^^^ 2 ^ (j - sumF (bZ σ.1) q)), 0, bP σ.1)) x2 → Post (nI (tA (bal σ.1, bsg σ.1, bn σ.1, bS σ.1, bZ σ.1, updN (bL σ.1) q (bL σ.1 q ^^^ 2 ^ (j - sumF (bZ σ.1) q)), 0, bP σ.1) (lvs σ.1))) x2) : wx_lose x (nI j) (nI b) Post := by
  unfold wx_lose wp_X8_lose
  obtain ⟨x0, al, sg, r1, r2, r3, r4, c1, c2, d1, d2, d3, d4, v, t1, t2, t3, t4, at1, ta, w1, wc, fo⟩ := x
  dsimp only
  obtain ⟨⟨b1, b2, b3, b4, b5, b6⟩, w, hv, hxr⟩ := id hx
  have b1 : al = nI (bal σ.1) := b1
  have b2 : sg = nI (bsg σ.1) := b2
  subst b1 b2
  have hn := w.2.2.1
  have w1' := w.1
  obtain ⟨k1, k2, k3⟩ := inQ_lt w hq
  have hb := bitn_le (bL σ.1 q) (j - sumF (bZ σ.1) q)
  have w' := wb_turn w (q := q) (k := j - sumF (bZ σ.1) q) hq.1 k1
  refine x_hasLeaf w b3 b4 (fun z => absurd rfl (z j k3)) (fun _ _ _ => f1 (x_isLost w b3 b4 b5 hq (pk_eq (bitn (bL σ.1 q) (j - sumF (bZ σ.1) q)) b P0 (fun z => ?_))))
  exact x_record w hv ⟨rfl, rfl, b3, b4, b5, b6⟩ (fun v2 hv2 => x_turnLost w b3 b4 b5 b6 hq (fun u3 u4 g3 g4 => x_leavesThere (B := (bal σ.1, bsg σ.1, bn σ.1, bS σ.1, bZ σ.1, updN (bL σ.1) q (bL σ.1 q ^^^ 2 ^ (j - sumF (bZ σ.1) q)), 0, bP σ.1)) w' b3 b4 g3 (P1 z w' _ (xAct hx w' ⟨rfl, rfl, b3, b4, g3, g4⟩ hv2))))
theorem xq_lose_out {σ : St} {x : XS} (hx : XOK σ x) {p1 p2 : Int32} (h : ∀ i, i < lvs σ.1 → p1 ≠ nI i) {Post : Int32 → XS → Prop} (P : Post (-1) x) : wx_lose x p1 p2 Post := by
  unfold wx_lose wp_X8_lose
  obtain ⟨x0, al, sg, r1, r2, r3, r4, c1, c2, d1, d2, d3, d4, v, t1, t2, t3, t4, at1, ta, w1, wc, fo⟩ := x
  dsimp only
  obtain ⟨⟨b1, b2, b3, b4, b5, b6⟩, w, hv, hxr⟩ := id hx
  have b1 : al = nI (bal σ.1) := b1
  have b2 : sg = nI (bsg σ.1) := b2
  subst b1 b2
  have hn := w.2.2.1
  have w1' := w.1
  exact x_hasLeaf w b3 b4 (fun _ => f0 P) (fun i hi e => absurd e (h i hi))
theorem xq_setSigning {σ : St} {x : XS} (hx : XOK σ x) {n : Nat} (hn2 : n ≤ 2) {Post : Int32 → XS → Prop} (P0 : n = bsg σ.1 → Post (-5) x) (P1 : n ≠ bsg σ.1 → ∀ x2, XOK (actS σ (bal σ.1, n, σ.1.2.2)) x2 → Post (nI (sgd (bal σ.1, n, σ.1.2.2))) x2) : wx_setSigning x (nI n) Post := by
  unfold wx_setSigning wp_X8_setSigning
  obtain ⟨x0, al, sg, r1, r2, r3, r4, c1, c2, d1, d2, d3, d4, v, t1, t2, t3, t4, at1, ta, w1, wc, fo⟩ := x
  dsimp only
  obtain ⟨⟨b1, b2, b3, b4, b5, b6⟩, w, hv, hxr⟩ := id hx
  have b1 : al = nI (bal σ.1) := b1
  have b2 : sg = nI (bsg σ.1) := b2
  subst b1 b2
  have hn := w.2.2.1
  have w1' := w.1
  have w2 := w.2.1
  have w' : WB (bal σ.1, n, σ.1.2.2) := ⟨w.1, hn2, w.2.2⟩
  exact b_neg (pk_le n 2 (fun _ => pk_eq n (bsg σ.1) P0 (fun z => x_record w hv ⟨rfl, rfl, b3, b4, b5, b6⟩ (fun v2 hv2 => x_signedLeaves (B := (bal σ.1, n, σ.1.2.2)) w' b3 b4 (P1 z _ (xAct hx w' ⟨rfl, rfl, b3, b4, b5, b6⟩ hv2))))) (fun z => absurd z (by omega)))
theorem xq_setSigning_bad {σ : St} {x : XS} (hx : XOK σ x) {Post : Int32 → XS → Prop} (P : Post (-2) x) : wx_setSigning x (nI 3) Post := by
  unfold wx_setSigning wp_X8_setSigning
  exact b_neg (pk_le 3 2 (fun z => absurd z (by omega)) (fun _ => P))
theorem xq_leaveOut {σ : St} {x : XS} (hx : XOK σ x) {l b : Nat} (hl : l < 26) (hb1 : b ≤ 1) {Post : Int32 → XS → Prop} (P0 : bitn (bal σ.1) l = b → Post (-5) x) (P4 : bitn (bal σ.1) l = 0 → b = 1 → lettersN (bal σ.1) = 1 → Post (-4) x) (P1 : bitn (bal σ.1) l ≠ b → (b = 1 → lettersN (bal σ.1) ≠ 1) → ∀ x2, XOK (actS σ (bal σ.1 ^^^ 2 ^ l, σ.1.2)) x2 → Post (nI (lettersN (bal σ.1 ^^^ 2 ^ l))) x2) : wx_leaveOut x (nI (65 + l)) (nI b) Post := by
  unfold wx_leaveOut wp_X8_leaveOut
  obtain ⟨x0, al, sg, r1, r2, r3, r4, c1, c2, d1, d2, d3, d4, v, t1, t2, t3, t4, at1, ta, w1, wc, fo⟩ := x
  dsimp only
  obtain ⟨⟨b1, b2, b3, b4, b5, b6⟩, w, hv, hxr⟩ := id hx
  have b1 : al = nI (bal σ.1) := b1
  have b2 : sg = nI (bsg σ.1) := b2
  subst b1 b2
  have hn := w.2.2.1
  have w1' := w.1
  have hsub : nI (65 + l) - nI 65 = nI l := by rw [pk_sub (by omega), Nat.add_sub_cancel_left]
  have hbn := bitn_le (bal σ.1) l
  have hx2 : bal σ.1 ^^^ 2 ^ l < 2 ^ 26 := Nat.xor_lt_two_pow w1' (Nat.pow_lt_pow_right (by decide) hl)
  have w' : WB (bal σ.1 ^^^ 2 ^ l, σ.1.2) := ⟨hx2, w.2⟩
  have hL : lettersN (bal σ.1) < 2 ^ 31 := by
    have := sumF_le (f := fun l => 1 - bitn (bal σ.1) l) (c := 1) 26 (fun j _ => Nat.sub_le _ _)
    unfold lettersN
    omega
  have XA : bitn (bal σ.1) l ≠ b → (b = 1 → lettersN (bal σ.1) ≠ 1) → ∀ (f g : Int32), ¬ f = g → wj_X8_leaveOut_64 (nI (bal σ.1)) (nI (bsg σ.1)) r1 r2 r3 r4 v f (nI l) g (fun rr u0 u1 => Post rr (x0, u0, nI (bsg σ.1), r1, r2, r3, r4, c1, c2, d1, d2, d3, d4, u1, t1, t2, t3, t4, at1, ta, w1, wc, fo)) := by
    intro h1 h2 f g hfg
    refine ⟨fun z => absurd z hfg, fun _ => x_record w hv ⟨rfl, rfl, b3, b4, b5, b6⟩ (fun v2 hv2 => ?_)⟩
    unfold wp_X0_turn
    rw [one_shl (by omega), nI_xor]
    exact x_letters hx2 (P1 h1 h2 _ (xAct hx w' ⟨rfl, rfl, b3, b4, b5, b6⟩ hv2))
  rintro _ rfl
  rw [hsub]
  refine b_neg (pk_lt l 26 (fun _ => x_has (by omega) hl (fun z => f1 ?_) (fun z => f0 ?_)) (fun z => absurd z (by omega)))
  · rcases (show b = 0 ∨ b = 1 by omega) with rfl | rfl
    · exact f0 ⟨fun _ => P0 z, fun q => absurd rfl q⟩
    · refine f1 (f0 (x_letters w1' (pk_eq (lettersN (bal σ.1)) 1 (fun q => P4 z rfl q) (fun q => XA (by omega) (fun _ => q) _ _ (by decide)))))
  · rcases (show b = 0 ∨ b = 1 by omega) with rfl | rfl
    · exact f0 (XA (by omega) (fun q => absurd q (by decide)) _ _ (by decide))
    · exact f1 (f1 ⟨fun _ => P0 z, fun q => absurd rfl q⟩)
theorem xq_leaveOut_bad {σ : St} {x : XS} (hx : XOK σ x) {p2 : Int32} {Post : Int32 → XS → Prop} (P : Post (-1) x) : wx_leaveOut x (nI 97) p2 Post := by
  unfold wx_leaveOut wp_X8_leaveOut
  obtain ⟨x0, al, sg, r1, r2, r3, r4, c1, c2, d1, d2, d3, d4, v, t1, t2, t3, t4, at1, ta, w1, wc, fo⟩ := x
  dsimp only
  obtain ⟨⟨b1, b2, b3, b4, b5, b6⟩, w, hv, hxr⟩ := id hx
  have b1 : al = nI (bal σ.1) := b1
  have b2 : sg = nI (bsg σ.1) := b2
  subst b1 b2
  have hn := w.2.2.1
  have w1' := w.1
  rintro _ rfl
  rw [pk_sub (by omega)]
  exact b_neg (pk_lt (97 - 65) 26 (fun z => absurd z (by omega)) (fun _ => P))
