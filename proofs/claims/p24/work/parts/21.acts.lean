/-! what changes a book (QuireSigns) -/
theorem wb_ins {B : BkA} (w : WB B) {q s z : Nat} (hq : q ≤ bn B) (hn : bn B < 40) (hs : s < 83) (hz1 : 1 ≤ z) (hz2 : z ≤ 24) : WB (bal B, bsg B, bn B + 1, insF (bS B) q s, insF (bZ B) q z, insF (bL B) q 0, 0, bP B) := by
  obtain ⟨w1, w2, w3, w4, w5, w6, w7, w8, w9⟩ := w
  refine ⟨w1, w2, hn, fun j hj => ?_, fun j hj => ?_, fun j hj => ?_, Nat.zero_le _, fun i j _ hj => absurd hj (Nat.not_lt_zero _), fun j hj => absurd hj (Nat.not_lt_zero _)⟩
  · have hj : j < bn B + 1 := hj
    show insF (bS B) q s j < 83
    unfold insF
    by_cases h1 : j < q
    · rw [if_pos h1]; exact w4 j (by omega)
    · rw [if_neg h1]
      by_cases h2 : j = q
      · rw [if_pos h2]; exact hs
      · rw [if_neg h2]; exact w4 (j - 1) (by omega)
  · have hj : j < bn B + 1 := hj
    show 1 ≤ insF (bZ B) q z j ∧ insF (bZ B) q z j ≤ 24
    unfold insF
    by_cases h1 : j < q
    · rw [if_pos h1]; exact w5 j (by omega)
    · rw [if_neg h1]
      by_cases h2 : j = q
      · rw [if_pos h2]; exact ⟨hz1, hz2⟩
      · rw [if_neg h2]; exact w5 (j - 1) (by omega)
  · have hj : j < bn B + 1 := hj
    show insF (bL B) q 0 j < 2 ^ insF (bZ B) q z j
    unfold insF
    by_cases h1 : j < q
    · rw [if_pos h1, if_pos h1]; exact w6 j (by omega)
    · rw [if_neg h1, if_neg h1]
      by_cases h2 : j = q
      · rw [if_pos h2, if_pos h2]; exact Nat.two_pow_pos _
      · rw [if_neg h2, if_neg h2]; exact w6 (j - 1) (by omega)
theorem wb_drop {B : BkA} (w : WB B) {q : Nat} (hq : q < bn B) : WB (bal B, bsg B, bn B - 1, dropF (bS B) q, dropF (bZ B) q, dropF (bL B) q, 0, bP B) := by
  obtain ⟨w1, w2, w3, w4, w5, w6, w7, w8, w9⟩ := w
  refine ⟨w1, w2, Nat.le_trans (Nat.sub_le _ _) w3, fun j hj => ?_, fun j hj => ?_, fun j hj => ?_, Nat.zero_le _, fun i j _ hj => absurd hj (Nat.not_lt_zero _), fun j hj => absurd hj (Nat.not_lt_zero _)⟩
  · have hj : j < bn B - 1 := hj
    show dropF (bS B) q j < 83
    unfold dropF
    by_cases h1 : j < q
    · rw [if_pos h1]; exact w4 j (by omega)
    · rw [if_neg h1]; exact w4 (j + 1) (by omega)
  · have hj : j < bn B - 1 := hj
    show 1 ≤ dropF (bZ B) q j ∧ dropF (bZ B) q j ≤ 24
    unfold dropF
    by_cases h1 : j < q
    · rw [if_pos h1]; exact w5 j (by omega)
    · rw [if_neg h1]; exact w5 (j + 1) (by omega)
  · have hj : j < bn B - 1 := hj
    show dropF (bL B) q j < 2 ^ dropF (bZ B) q j
    unfold dropF
    by_cases h1 : j < q
    · rw [if_pos h1, if_pos h1]; exact w6 j (by omega)
    · rw [if_neg h1, if_neg h1]; exact w6 (j + 1) (by omega)
theorem wb_turn {B : BkA} (w : WB B) {q k : Nat} (hq : q < bn B) (hk : k < bZ B q) : WB (bal B, bsg B, bn B, bS B, bZ B, updN (bL B) q (bL B q ^^^ 2 ^ k), 0, bP B) := by
  obtain ⟨w1, w2, w3, w4, w5, w6, w7, w8, w9⟩ := w
  refine ⟨w1, w2, w3, w4, w5, fun j hj => ?_, Nat.zero_le _, fun i j _ hj => absurd hj (Nat.not_lt_zero _), fun j hj => absurd hj (Nat.not_lt_zero _)⟩
  show updN (bL B) q (bL B q ^^^ 2 ^ k) j < 2 ^ bZ B j
  unfold updN
  by_cases h1 : j = q
  · rw [if_pos h1, h1]
    exact Nat.xor_lt_two_pow (w6 q hq) (Nat.pow_lt_pow_right (by decide) hk)
  · rw [if_neg h1]
    exact w6 j hj
theorem x_addQuire {B : BkA} {r1 r2 r3 r4 : RowT} {q s z : Nat} {Post : RowT → RowT → RowT → RowT → Prop} (h1 : RowN 40 (bn B) (bS B) r1) (h2 : RowN 40 (bn B) (bZ B) r2) (h3 : RowN 40 (bn B) (bL B) r3) (h4 : RowN 12 (bpn B) (bP B) r4) (hq : q ≤ bn B) (hn : bn B < 40)
    (P : ∀ u1 u2 u3 u4, RowN 40 (bn B + 1) (insF (bS B) q s) u1 → RowN 40 (bn B + 1) (insF (bZ B) q z) u2 → RowN 40 (bn B + 1) (insF (bL B) q 0) u3 → RowN 12 0 (bP B) u4 → Post u1 u2 u3 u4) : wp_X1_addQuire r1 r2 r3 r4 (nI q) (nI s) (nI z) Post :=
  s_addAt h1 hq hn (fun u1 g1 => s_addAt h2 hq hn (fun u2 g2 => s_addAt h3 hq hn (fun u3 g3 => s_empty h4 (fun u4 g4 => P u1 u2 u3 u4 g1 g2 g3 (g4 _)))))
theorem x_dropQuire {B : BkA} {r1 r2 r3 r4 : RowT} {q : Nat} {Post : RowT → RowT → RowT → RowT → Prop} (h1 : RowN 40 (bn B) (bS B) r1) (h2 : RowN 40 (bn B) (bZ B) r2) (h3 : RowN 40 (bn B) (bL B) r3) (h4 : RowN 12 (bpn B) (bP B) r4) (hq : q < bn B)
    (P : ∀ u1 u2 u3 u4, RowN 40 (bn B - 1) (dropF (bS B) q) u1 → RowN 40 (bn B - 1) (dropF (bZ B) q) u2 → RowN 40 (bn B - 1) (dropF (bL B) q) u3 → RowN 12 0 (bP B) u4 → Post u1 u2 u3 u4) : wp_X1_dropQuire r1 r2 r3 r4 (nI q) Post :=
  s_drop h1 hq (fun u1 g1 => s_drop h2 hq (fun u2 g2 => s_drop h3 hq (fun u3 g3 => s_empty h4 (fun u4 g4 => P u1 u2 u3 u4 g1 g2 g3 (g4 _)))))
theorem x_turnLost {B : BkA} {r1 r2 r3 r4 : RowT} {q j : Nat} {Post : RowT → RowT → Prop} (w : WB B) (h1 : RowN 40 (bn B) (bS B) r1) (h2 : RowN 40 (bn B) (bZ B) r2) (h3 : RowN 40 (bn B) (bL B) r3) (h4 : RowN 12 (bpn B) (bP B) r4) (hq : InQ B q j)
    (P : ∀ u3 u4, RowN 40 (bn B) (updN (bL B) q (bL B q ^^^ 2 ^ (j - sumF (bZ B) q))) u3 → RowN 12 0 (bP B) u4 → Post u3 u4) : wp_X1_turnLost r1 r2 r3 r4 (nI j) Post := by
  obtain ⟨k1, k2, k3⟩ := inQ_lt w hq
  refine x_quireOf w h1 h2 hq (s_at h3 q hq.1 (x_numberOf w h1 h2 hq ?_))
  rw [pk_sub (by omega), Nat.add_sub_cancel, one_shl (by omega), nI_xor]
  exact s_set h3 q hq.1 _ (fun u3 g3 => s_empty h4 (fun u4 g4 => P u3 u4 g3 (g4 _)))
/-- the least number that does, or the end -/
theorem firstN (p : Nat → Prop) : ∀ n, ∃ k, k ≤ n ∧ (∀ i, i < k → ¬ p i) ∧ (k < n → p k)
  | 0 => ⟨0, Nat.le_refl _, fun i h => absurd h (Nat.not_lt_zero _), fun h => absurd h (Nat.not_lt_zero _)⟩
  | n + 1 => by
    obtain ⟨k, h1, h2, h3⟩ := firstN p n
    by_cases hk : k < n
    · exact ⟨k, by omega, h2, fun _ => h3 hk⟩
    · have e : k = n := by omega
      subst e
      by_cases hp : p k
      · exact ⟨k, by omega, h2, fun _ => hp⟩
      · exact ⟨k + 1, Nat.le_refl _, fun i hi => by
          by_cases e : i = k
          · rw [e]; exact hp
          · exact h2 i (by omega), fun h => absurd h (by omega)⟩
abbrev fitP (B : BkA) (s t : Nat) : Nat → Prop := fun q => bS B q = s ∧ t ≤ bZ B q
def leafV (B : BkA) (t k : Nat) : Int32 := if k < bn B then nI (sumF (bZ B) k + t - 1) else -1
theorem xl_leafSigned {B : BkA} {r r2 : RowT} {s t k : Nat} {Post : Int32 → Prop} (w : WB B) (h : RowN 40 (bn B) (bS B) r) (h2 : RowN 40 (bn B) (bZ B) r2) (hs : s < 1000) (ht1 : 1 ≤ t) (ht : t < 1000) (hk : k ≤ bn B) (hk1 : ∀ i, i < k → ¬ fitP B s t i) (hk2 : k < bn B → fitP B s t k) (P : Post (leafV B t k)) : ∀ (d i : Nat), i + d = k → wl_X1_leafSigned_2 r r2 (nI s) (nI t) Post (d + 1) (nI i) := by
  have hn := w.2.2.1
  intro d
  induction d with
  | zero =>
    intro i hd
    refine x_quires h (pk_le (bn B) i (fun _ => ?_) (fun c => ?_))
    · rw [leafV, if_neg (by omega)] at P
      exact P
    · have e : i = k := by omega
      subst e
      obtain ⟨f1, f2⟩ := hk2 c
      have hz := w.2.2.2.2.1 i c
      have hS := w.2.2.2.1 i c
      refine s_at h i c (pk_eq (bS B i) s (fun _ => s_at h2 i c (pk_lt (bZ B i) t (fun z => absurd z (by omega)) (fun _ => x_firstLeaf w h2 (by omega) ?_))) (fun z => absurd f1 z))
      rw [leafV, if_pos c] at P
      rw [nI_add, pk_sub (by omega)]
      exact P
  | succ d ih =>
    intro i hd
    have hi : i < bn B := by omega
    have hz := w.2.2.2.2.1 i hi
    have hS := w.2.2.2.1 i hi
    have hno := hk1 i (by omega)
    refine x_quires h (pk_le (bn B) i (fun c => absurd c (by omega)) (fun _ => s_at h i hi (pk_eq (bS B i) s (fun e => s_at h2 i hi (pk_lt (bZ B i) t (fun z => ?_) (fun z => absurd ⟨e, z⟩ hno))) (fun z => ?_))))
    · rw [nI_add]; exact ih (i + 1) (by omega)
    · rw [nI_add]; exact ih (i + 1) (by omega)
theorem x_leafSigned {B : BkA} {r r2 : RowT} {s t k : Nat} {Post : Int32 → Prop} (w : WB B) (h : RowN 40 (bn B) (bS B) r) (h2 : RowN 40 (bn B) (bZ B) r2) (hs : s < 1000) (ht1 : 1 ≤ t) (ht : t < 1000) (hk : k ≤ bn B) (hk1 : ∀ i, i < k → ¬ fitP B s t i) (hk2 : k < bn B → fitP B s t k) (P : Post (leafV B t k)) : wp_X1_leafSigned r r2 (nI s) (nI t) Post := ⟨k + 1, xl_leafSigned w h h2 hs ht1 ht hk hk1 hk2 P k 0 (by omega)⟩
theorem x_bookBecome {z o : BookT} {B0 B : BkA} {Post : BookT → Prop} (w : WB B) (hz : XB z B0) (ho : XB o B) (P : ∀ b, XB b B → Post b) : wp_bookBecome z o Post := by
  obtain ⟨z1, z2, z3, z4, z5, z6⟩ := hz
  obtain ⟨o1, o2, o3, o4, o5, o6⟩ := ho
  have hn := w.2.2.1
  exact s_become z3 o3 hn (fun u1 g1 => s_become z4 o4 hn (fun u2 g2 => s_become z5 o5 hn (fun u3 g3 => s_become z6 o6 w.2.2.2.2.2.2.1 (fun u4 g4 => P _ ⟨o1, o2, g1, g2, g3, g4⟩))))
/-- the history: the states in it, the oldest first; the rest of its books is of any book -/
def HX (v : HistT) (hs : Nat → BkA) (k : Nat) : Prop := v.2 = nI k ∧ k ≤ 4 ∧ (∀ i, i < k → XB (v.1 i) (hs i) ∧ WB (hs i)) ∧ ∀ i, i < 4 → ∃ B, XB (v.1 i) B
def recS (hs : Nat → BkA) (k : Nat) (B : BkA) : Nat → BkA := if k < 4 then (fun i => if i = k then B else hs i) else (fun i => if i = 3 then B else hs (i + 1))
theorem x_record {v : HistT} {hs : Nat → BkA} {k : Nat} {al sg : Int32} {r1 r2 r3 r4 : RowT} {B : BkA} {Post : HistT → Prop} (w : WB B) (h : HX v hs k) (hb : XB (al, sg, r1, r2, r3, r4) B) (P : ∀ v2, HX v2 (recS hs k B) (min (k + 1) 4) → Post v2) : wp_X2_record v al sg r1 r2 r3 r4 Post := by
  obtain ⟨h1, h2, h3, h4⟩ := h
  refine ⟨k, h2, h1, fun hk => ?_, fun hk => ?_⟩
  · obtain ⟨B0, hB0⟩ := h4 k hk
    refine x_bookBecome w hB0 hb (fun b hb2 => P _ ⟨?_, by omega, fun i hi => ?_, fun i hi => ?_⟩)
    · rw [Nat.min_eq_left (by omega)]
    · have hi : i < min (k + 1) 4 := hi
      show XB (hset v.1 k b i) _ ∧ _
      unfold hset recS
      rw [if_pos hk]
      by_cases e : i = k
      · rw [if_pos e]
        show XB b (if i = k then B else hs i) ∧ WB (if i = k then B else hs i)
        rw [if_pos e]
        exact ⟨hb2, w⟩
      · rw [if_neg e]
        show XB (v.1 i) (if i = k then B else hs i) ∧ WB (if i = k then B else hs i)
        rw [if_neg e]
        exact h3 i (by omega)
    · show ∃ B, XB (hset v.1 k b i) B
      unfold hset
      by_cases e : i = k
      · rw [if_pos e]; exact ⟨B, hb2⟩
      · rw [if_neg e]; exact h4 i hi
  · subst hk
    obtain ⟨B0, hB0⟩ := h4 0 (by decide)
    refine x_bookBecome (B0 := B0) w hB0 hb (fun b hb2 => P _ ⟨rfl, by decide, fun i hi => ?_, fun i hi => ?_⟩)
    · have hi : i < 4 := hi
      show XB (hset (hrot v.1) 3 b i) _ ∧ _
      unfold hset recS
      rw [if_neg (by decide : ¬ 4 < 4)]
      by_cases e : i = 3
      · rw [if_pos e]
        show XB b (if i = 3 then B else hs (i + 1)) ∧ WB (if i = 3 then B else hs (i + 1))
        rw [if_pos e]
        exact ⟨hb2, w⟩
      · rw [if_neg e]
        show XB (hrot v.1 i) (if i = 3 then B else hs (i + 1)) ∧ WB (if i = 3 then B else hs (i + 1))
        rw [if_neg e, hrot, if_neg e]
        exact h3 (i + 1) (by omega)
    · show ∃ B, XB (hset (hrot v.1) 3 b i) B
      unfold hset
      by_cases e : i = 3
      · rw [if_pos e]; exact ⟨B, hb2⟩
      · rw [if_neg e, hrot, if_neg e]; exact h4 (i + 1) (by omega)
theorem x_takeBack {v : HistT} {hs : Nat → BkA} {k : Nat} {al sg : Int32} {r1 r2 r3 r4 : RowT} {B : BkA} {Post : HistT → Int32 → Int32 → RowT → RowT → RowT → RowT → Prop} (h : HX v hs (k + 1)) (hb : XB (al, sg, r1, r2, r3, r4) B) (P : ∀ v2 a b c d e f, HX v2 hs k → XB (a, b, c, d, e, f) (hs k) → Post v2 a b c d e f) : wp_X2_takeBack v al sg r1 r2 r3 r4 Post := by
  obtain ⟨h1, h2, h3, h4⟩ := h
  have hk := h3 k (by omega)
  refine ⟨k, by omega, h1, x_bookBecome hk.2 hb hk.1 (fun b hb2 => P _ _ _ _ _ _ _ ⟨rfl, by omega, fun i hi => h3 i (by omega), h4⟩ hb2)⟩
