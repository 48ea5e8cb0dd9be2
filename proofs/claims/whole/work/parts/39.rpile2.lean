set_option maxHeartbeats 400000
noncomputable def kOf (P : Nat → Nat) (n v : Nat) : Nat := Classical.choose (firstN (fun i => v < P i) n)
theorem kOf_ok (P : Nat → Nat) (n v : Nat) : kOf P n v ≤ n ∧ (∀ i, i < kOf P n v → ¬ v < P i) ∧ (kOf P n v < n → v < P (kOf P n v)) := Classical.choose_spec (firstN (fun i => v < P i) n)
noncomputable def pilP (lf : Nat → Nat) : Nat → (Nat → Nat)
  | 0 => fun _ => 0
  | j + 1 => insF (pilP lf j) (kOf (pilP lf j) j (lf j)) (lf j)
def PIL (lf : Nat → Nat) (j : Nat) (P : Nat → Nat) : Prop := (∀ i x, i < x → x < j → P i < P x) ∧ (∀ i, i < j → ∃ x, x < j ∧ P x = lf i) ∧ (∀ x, x < j → ∃ i, i < j ∧ P x = lf i)
theorem PIL.step {lf : Nat → Nat} {j k : Nat} {P : Nat → Nat} (h : PIL lf j P) (hk : k ≤ j) (h1 : ∀ i, i < k → P i ≤ lf j) (h2 : ∀ i, k ≤ i → i < j → lf j < P i) (hd : ∀ i, i < j → lf i ≠ lf j) : PIL lf (j + 1) (insF P k (lf j)) := by
  obtain ⟨a, b, c⟩ := h
  have h1' : ∀ i, i < k → P i < lf j := by
    intro i hi
    obtain ⟨x, hx, hx2⟩ := c i (by omega)
    have := hd x hx
    have := h1 i hi
    omega
  refine ⟨fun i x hi hx => ?_, fun i hi => ?_, fun x hx => ?_⟩
  · unfold insF
    by_cases q1 : x < k
    · rw [if_pos (by omega), if_pos q1]; exact a i x hi (by omega)
    · by_cases q2 : x = k
      · rw [if_pos (by omega), if_neg q1, if_pos q2]; exact h1' i (by omega)
      · rw [if_neg (c := x < k) q1, if_neg q2]
        by_cases q3 : i < k
        · rw [if_pos q3]
          have := h1' i q3
          have := h2 (x - 1) (by omega) (by omega)
          omega
        · rw [if_neg q3]
          by_cases q4 : i = k
          · rw [if_pos q4]; exact h2 (x - 1) (by omega) (by omega)
          · rw [if_neg q4]; exact a (i - 1) (x - 1) (by omega) (by omega)
  · by_cases e : i = j
    · refine ⟨k, by omega, ?_⟩
      unfold insF
      rw [if_neg (by omega), if_pos rfl, e]
    · obtain ⟨x, hx, hx2⟩ := b i (by omega)
      by_cases q : x < k
      · refine ⟨x, by omega, ?_⟩
        unfold insF
        rw [if_pos q]; exact hx2
      · refine ⟨x + 1, by omega, ?_⟩
        unfold insF
        rw [if_neg (by omega), if_neg (by omega), Nat.add_sub_cancel]; exact hx2
  · unfold insF
    by_cases q1 : x < k
    · rw [if_pos q1]
      obtain ⟨i, hi, hi2⟩ := c x (by omega)
      exact ⟨i, by omega, hi2⟩
    · rw [if_neg q1]
      by_cases q2 : x = k
      · rw [if_pos q2]; exact ⟨j, by omega, rfl⟩
      · rw [if_neg q2]
        obtain ⟨i, hi, hi2⟩ := c (x - 1) (by omega)
        exact ⟨i, by omega, hi2⟩
theorem pilP_ok {lf : Nat → Nat} : ∀ j, (∀ i x, x < j → i < x → lf i ≠ lf x) → PIL lf j (pilP lf j)
  | 0, _ => ⟨fun i x _ hx => absurd hx (Nat.not_lt_zero _), fun i hi => absurd hi (Nat.not_lt_zero _), fun i hi => absurd hi (Nat.not_lt_zero _)⟩
  | j + 1, hd => by
    have ih := pilP_ok (lf := lf) j (fun i x hx hi => hd i x (by omega) hi)
    obtain ⟨k1, k2, k3⟩ := kOf_ok (pilP lf j) j (lf j)
    refine ih.step k1 (fun i hi => Nat.le_of_not_lt (k2 i hi)) (fun i hi hi2 => ?_) (fun i hi => hd i j (by omega) hi)
    have q := k3 (by omega)
    by_cases e : i = kOf (pilP lf j) j (lf j)
    · rw [e]; exact q
    · have := ih.1 _ i (show kOf (pilP lf j) j (lf j) < i by omega) hi2
      omega
section rp
variable {B : BkA} {a md c : Nat} {F1 F2 F3 kf : Nat → Nat} {s t g : Nat → Int32}
theorem rl_43 {st ty at1 ri tm lt : Int32} {m : Nat} {Post : Int32 → (Nat → Int32) → (Nat → Int32) → Int32 → Int32 → Int32 → Int32 → Int32 → Int32 → Prop} (h : MB s B) (w : WB B) (hc : c ≤ 20) (hE : EOK a md F1 F2 F3 c) (hF : FIT B F1 F3 kf c) (hT : TLD t F1 F2 F3 c) (hG : ∀ j, j < c → kf j < bn B) (hm : m ≤ c) (hm1 : ∀ j, j < m → ¬ BAD B F3 kf j) (hm2 : m < c → BAD B F3 kf m)
    (P1 : m = c → (c ≤ 12 → wp_X9_records s st (fun u6 u7 => (∃ k, wl_X9_readPile_135 g t u7 ty at1 ri tm lt (nI c) Post k u6 (nI 0)))) ∧ (¬ c ≤ 12 → Post (-3) s t st at1 ri tm lt (nI c))) (P0 : m < c → Post (-4) s t st at1 ri tm lt (nI c)) : ∀ (d i : Nat), i + d = m → wl_X9_readPile_43 s g t st ty at1 ri tm lt (nI c) Post (d + 1) (nI i) := by
  intro d
  induction d with
  | zero =>
    intro i hi
    have e : i = m := by omega
    subst e
    refine pk_le c i (fun z => ?_) (fun z => ⟨i + 1, rl_56 h w hc hE hF hT hG z (fun q => absurd (hm2 z) q) (fun _ => P0 z) i 0 0 (by omega) (by decide) (fun q => absurd q (by decide)) (fun _ x hx => absurd hx (Nat.not_lt_zero _))⟩)
    have P := P1 (by omega)
    exact pk_le c 12 (fun q => P.1 q) (fun q => P.2 (by omega))
  | succ d ih =>
    intro i hi
    exact pk_le c i (fun z => absurd z (by omega)) (fun z => ⟨i + 1, rl_56 h w hc hE hF hT hG z (fun _ => ih (i + 1) (by omega)) (fun q => absurd q (hm1 i (by omega))) i 0 0 (by omega) (by decide) (fun q => absurd q (by decide)) (fun _ x hx => absurd hx (Nat.not_lt_zero _))⟩)
theorem xl_75 {al sg : Int32} {r1 r2 r3 t1 e1 e2 e3 f : RowT} {v : HistT} {p ta : Int32} {Post : Int32 → RowT → HistT → RowT → RowT → RowT → Int32 → RowT → Prop} (hc : c ≤ 12) (hf : RowN 20 c (lfV B F3 kf) f) (hb : ∀ j, j < c → lfV B F3 kf j < 1000) (hd : ∀ i x, x < c → i < x → lfV B F3 kf i ≠ lfV B F3 kf x)
    (P : ∀ r, RowN 12 c (pilP (lfV B F3 kf) c) r → Post (nI c) r v e1 e2 e3 p f) : ∀ (d j : Nat) (r : RowT), j + d = c → RowN 12 j (pilP (lfV B F3 kf) j) r → wl_X8_readPile_75 al sg r1 r2 r3 v t1 e1 e2 e3 p ta f Post (d + 1) r (nI j) := by
  intro d
  induction d with
  | zero =>
    intro j r hj hr
    have e : j = c := by omega
    subst e
    exact s_length hf (pk_le j j (fun _ => s_length hr (P r hr)) (fun q => absurd q (by omega)))
  | succ d ih =>
    intro j r hj hr
    have hp := pilP_ok (lf := lfV B F3 kf) j (fun i x hx hi => hd i x (by omega) hi)
    have hpb : ∀ x, x < j → pilP (lfV B F3 kf) j x < 1000 := by
      intro x hx
      obtain ⟨i, hi, e⟩ := hp.2.2 x hx
      rw [e]
      exact hb i (by omega)
    obtain ⟨k1, k2, k3⟩ := kOf_ok (pilP (lfV B F3 kf) j) j (lfV B F3 kf j)
    refine s_length hf (pk_le c j (fun q => absurd q (by omega)) (fun q => s_at hf j q (x_addToPile hr (by omega) hp.1 hpb (hb j q) (fun k u g1 g2 g3 g4 => ?_))))
    have ek : k = kOf (pilP (lfV B F3 kf) j) j (lfV B F3 kf j) := by
      rcases Nat.lt_trichotomy k (kOf (pilP (lfV B F3 kf) j) j (lfV B F3 kf j)) with q1 | q1 | q1
      · exact absurd (g3 k (Nat.le_refl _) (by omega)) (k2 k q1)
      · exact q1
      · have := g2 _ q1
        have := k3 (by omega)
        omega
    rw [nI_add j 1]
    refine ih (j + 1) u (by omega) ?_
    rw [pilP, ← ek]
    exact g4
theorem rl_135 {st ty at1 ri tm lt : Int32} {u0 : Nat → Int32} {Post : Int32 → (Nat → Int32) → (Nat → Int32) → Int32 → Int32 → Int32 → Int32 → Int32 → Int32 → Prop} (h0 : MB u0 B) (w : WB B) (hc : c ≤ 12) (hE : EOK a md F1 F2 F3 c) (hF : FIT B F1 F3 kf c) (hT : TLD t F1 F2 F3 c) (hG : ∀ j, j < c → kf j < bn B) (hd : ∀ i x, x < c → i < x → lfV B F3 kf i ≠ lfV B F3 kf x)
    (P : ∀ u, MB u (bal B, bsg B, bn B, bS B, bZ B, bL B, c, pilP (lfV B F3 kf) c) → (∀ i, 176 ≤ i → u i = u0 i) → Post (nI c) u t st at1 ri tm lt (nI c)) : ∀ (d j : Nat) (u : Nat → Int32), j + d = c → (∀ i, u i = if 164 ≤ i ∧ i < 164 + j then nI (lfV B F3 kf (i - 164)) else u0 i) → wl_X9_readPile_135 g t st ty at1 ri tm lt (nI c) Post (d + 1) u (nI j) := by
  have hn := w.2.2.1
  intro d
  induction d with
  | zero =>
    intro j u hj hu
    have e : j = c := by omega
    subst e
    have hp := pilP_ok (lf := lfV B F3 kf) j hd
    refine pk_le j j (fun _ => ⟨vp_in_nI (by decide) (by decide), ?_⟩) (fun q => absurd q (by omega))
    rw [nI_clamp (n := 163) (by decide)]
    have o : ∀ i, i ≠ 163 → (i < 164 ∨ 164 + j ≤ i) → upd u 163 (nI j) i = u0 i := fun i h1 h2 => by rw [pk_un h1, hu, if_neg (by omega)]
    obtain ⟨m1, m2, m3, m4, m5, m6, m7⟩ := h0
    refine P _ ⟨(o _ (by decide) (by omega)).trans m1, (o _ (by decide) (by omega)).trans m2, (o _ (by decide) (by omega)).trans m3, fun x hx => ?_, pk_us, fun x hx => ?_, fun i hi => ?_⟩ (fun i hi => o i (by omega) (by omega))
    · have hx : x < bn B := hx
      have := m4 x hx
      exact ⟨(o _ (by omega) (by omega)).trans this.1, (o _ (by omega) (by omega)).trans this.2.1, (o _ (by omega) (by omega)).trans this.2.2.1, (o _ (by omega) (by omega)).trans this.2.2.2⟩
    · have hx : x < j := hx
      obtain ⟨y, hy, hy2⟩ := hp.2.1 x hx
      refine ⟨y, hy, ?_⟩
      rw [pk_un (by omega), hu, if_pos (by omega), Nat.add_sub_cancel_left]
      show nI _ = nI (pilP (lfV B F3 kf) j y)
      rw [hy2]
    · have hi : i < j := hi
      obtain ⟨y, hy, hy2⟩ := hp.2.2 i hi
      refine ⟨y, hy, ?_⟩
      rw [pk_un (by omega), hu, if_pos (by omega), Nat.add_sub_cancel_left]
      show nI _ = nI (pilP (lfV B F3 kf) j i)
      rw [hy2]
  | succ d ih =>
    intro j u hj hu
    have o : ∀ i, i < 164 → u i = u0 i := fun i hi => by rw [hu, if_neg (by omega)]
    obtain ⟨m1, m2, m3, m4, m5, m6, m7⟩ := id h0
    have mu : MQ2 u B := ⟨(o 2 (by decide)).trans m3, fun x hx => by
      have := m4 x hx
      exact ⟨(o _ (by omega)).trans this.1, (o _ (by omega)).trans this.2.1, (o _ (by omega)).trans this.2.2.1, (o _ (by omega)).trans this.2.2.2⟩⟩
    refine pk_le c j (fun q => absurd q (by omega)) (fun q => r_lfG mu w (by omega) hE hF hT q (fun _ => ?_) (fun q2 => absurd (hG j q) q2))
    rw [nI_add 164 j, nI_add j 1]
    refine ⟨vp_in_nI (by omega) (by decide), ?_⟩
    rw [nI_clamp (by omega)]
    refine ih (j + 1) _ (by omega) (fun i => ?_)
    unfold upd
    by_cases e : i = 164 + j
    · rw [if_pos e, if_pos (by omega), e, Nat.add_sub_cancel_left]
    · rw [if_neg e, hu]
      by_cases e2 : 164 ≤ i ∧ i < 164 + j
      · rw [if_pos e2, if_pos (by omega)]
      · rw [if_neg e2, if_neg (by omega)]
end rp
