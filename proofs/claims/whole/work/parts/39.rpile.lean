set_option maxHeartbeats 400000
/-! leaves of a text, for the pile -/
def FIT (B : BkA) (F1 F3 kf : Nat → Nat) (c : Nat) : Prop := ∀ j, j < c → kf j ≤ bn B ∧ (∀ i, i < kf j → ¬ fitP B (F1 j) (F3 j) i) ∧ (kf j < bn B → fitP B (F1 j) (F3 j) (kf j))
def lfV (B : BkA) (F3 kf : Nat → Nat) (j : Nat) : Nat := sumF (bZ B) (kf j) + F3 j - 1
theorem fits_ex (B : BkA) (F1 F3 : Nat → Nat) (c : Nat) : ∃ kf, FIT B F1 F3 kf c := ⟨fun j => Classical.choose (fit_ex B (F1 j) (F3 j)), fun j _ => Classical.choose_spec (fit_ex B (F1 j) (F3 j))⟩
section rp
variable {B : BkA} {a md c : Nat} {F1 F2 F3 kf : Nat → Nat} {s t g : Nat → Int32}
theorem lf_in (w : WB B) (hE : EOK a md F1 F2 F3 c) (hF : FIT B F1 F3 kf c) {j : Nat} (hj : j < c) (hk : kf j < bn B) : InQ B (kf j) (lfV B F3 kf j) ∧ lfV B F3 kf j < lvs B ∧ lvs B ≤ 960 := by
  have h3 := (hF j hj).2.2 hk
  have h9 := (hE j hj).2.2.2.2.2.2.2.2.1
  have hs := w.sum (Nat.le_refl _)
  have h4 : F3 j ≤ bZ B (kf j) := h3.2
  have q : InQ B (kf j) (lfV B F3 kf j) := by
    refine ⟨hk, ?_, ?_⟩
    · unfold lfV; omega
    · show lfV B F3 kf j < sumF (bZ B) (kf j) + bZ B (kf j)
      unfold lfV; omega
  have hs2 : lvs B ≤ 960 := hs
  exact ⟨q, (inQ_lt w q).2.2, hs2⟩
theorem x_lfG {r r2 : RowT} {j : Nat} {Post : Int32 → Prop} (w : WB B) (h : RowN 40 (bn B) (bS B) r) (h2 : RowN 40 (bn B) (bZ B) r2) (hE : EOK a md F1 F2 F3 c) (hF : FIT B F1 F3 kf c) (hj : j < c) (G : kf j < bn B → Post (nI (lfV B F3 kf j))) (N : ¬ kf j < bn B → Post (-1)) : wp_X1_leafSigned r r2 (nI (F1 j)) (nI (F3 j)) Post := by
  obtain ⟨q1, q2, q3, q4, q5, q6, q7, q8, q9, q10⟩ := hE j hj
  obtain ⟨h1, h3, h4⟩ := hF j hj
  refine x_leafSigned w h h2 (by omega) q9 (by omega) h1 h3 h4 ?_
  unfold leafV
  by_cases e : kf j < bn B
  · rw [if_pos e]; exact G e
  · rw [if_neg e]; exact N e
theorem r_lfG {j : Nat} {Post : Int32 → Prop} (h : MQ2 s B) (w : WB B) (hc : c ≤ 20) (hE : EOK a md F1 F2 F3 c) (hF : FIT B F1 F3 kf c) (hT : TLD t F1 F2 F3 c) (hj : j < c) (G : kf j < bn B → Post (nI (lfV B F3 kf j))) (N : ¬ kf j < bn B → Post (-1)) : wp_X9_found s t (nI j) Post := by
  obtain ⟨q1, q2, q3, q4, q5, q6, q7, q8, q9, q10⟩ := hE j hj
  obtain ⟨h1, h3, h4⟩ := hF j hj
  obtain ⟨t0, t1, _, t3⟩ := hT j hj
  refine ⟨kf j + 1, rl_found h w (by omega) q1 ⟨q9, q10⟩ t0 t1 t3 h1 h3 h4 ?_ (kf j) 0 (by omega)⟩
  unfold leafV
  by_cases e : kf j < bn B
  · rw [if_pos e]; exact G e
  · rw [if_neg e]; exact N e
theorem xl_findAll {r1 r2 e1 e3 : RowT} {m : Nat} {Post : Int32 → RowT → Prop} (w : WB B) (h : RowN 40 (bn B) (bS B) r1) (h2 : RowN 40 (bn B) (bZ B) r2) (hc : c ≤ 20) (hE : EOK a md F1 F2 F3 c) (hF : FIT B F1 F3 kf c) (k1 : RowN 20 c F1 e1) (k3 : RowN 20 c F3 e3) (hm : m ≤ c) (hm1 : ∀ j, j < m → kf j < bn B) (hm2 : m < c → ¬ kf m < bn B)
    (P1 : m = c → ∀ r, RowN 20 c (lfV B F3 kf) r → Post (nI 1) r) (P0 : m < c → ∀ r, AnyR 20 r → Post (nI 0) r) : ∀ (d i : Nat) (r : RowT), i + d = m → RowN 20 i (lfV B F3 kf) r → wl_X8_findLeavesOfText_9 r1 r2 e1 e3 Post (d + 1) r (nI i) := by
  intro d
  induction d with
  | zero =>
    intro i r hi hr
    have e : i = m := by omega
    subst e
    refine s_length k3 (pk_le c i (fun z => ?_) (fun z => s_at k1 i z (s_at k3 i z (x_lfG w h h2 hE hF z (fun q => absurd q (hm2 z)) (fun _ => ⟨fun _ => P0 z r ⟨_, _, hr⟩, fun q => absurd rfl q⟩)))))
    have e2 : i = c := by omega
    exact P1 e2 r (e2 ▸ hr)
  | succ d ih =>
    intro i r hi hr
    have hg := hm1 i (by omega)
    have hl := lf_in w hE hF (show i < c by omega) hg
    refine s_length k3 (pk_le c i (fun z => absurd z (by omega)) (fun z => s_at k1 i z (s_at k3 i z (x_lfG w h h2 hE hF z (fun _ => ⟨fun q => absurd q (nI_m1 (by omega)), fun _ => s_add hr (by omega) (fun u hu => ?_)⟩) (fun q => absurd hg q)))))
    rw [nI_add i 1]
    refine ih (i + 1) u (by omega) (hu.congr (fun j hj => ?_))
    unfold insF
    by_cases q : j < i
    · rw [if_pos q]
    · rw [if_neg q, if_pos (by omega), show j = i by omega]
theorem rl_findAll {st ty at1 ri tm lt : Int32} {m : Nat} {Post : Int32 → (Nat → Int32) → (Nat → Int32) → Int32 → Int32 → Int32 → Int32 → Int32 → Int32 → Prop} (h : MB s B) (w : WB B) (hc : c ≤ 20) (hE : EOK a md F1 F2 F3 c) (hF : FIT B F1 F3 kf c) (hT : TLD t F1 F2 F3 c) (hm : m ≤ c) (hm1 : ∀ j, j < m → kf j < bn B) (hm2 : m < c → ¬ kf m < bn B)
    (P1 : m = c → ∃ k, wl_X9_readPile_43 s g t st ty at1 ri tm lt (nI c) Post k (nI 0)) (P0 : m < c → Post (-1) s t st at1 ri tm lt (nI c)) : ∀ (d i : Nat), i + d = m → wl_X9_readPile_17 s g t st ty at1 ri tm lt (nI c) Post (d + 1) (nI i) := by
  intro d
  induction d with
  | zero =>
    intro i hi
    have e : i = m := by omega
    subst e
    exact pk_le c i (fun z => P1 (by omega)) (fun z => r_lfG h.mq w hc hE hF hT z (fun q => absurd q (hm2 z)) (fun _ => ⟨fun q => absurd q (by decide), fun _ => P0 z⟩))
  | succ d ih =>
    intro i hi
    have hg := hm1 i (by omega)
    have hl := lf_in w hE hF (show i < c by omega) hg
    refine pk_le c i (fun z => absurd z (by omega)) (fun z => r_lfG h.mq w hc hE hF hT z (fun _ => ⟨fun _ => ?_, fun q => absurd (nI_pos' (by omega)) q⟩) (fun q => absurd hg q))
    rw [nI_add i 1]
    exact ih (i + 1) (by omega)
/-- a leaf of the text that may not be piled: lost, or told before -/
def BAD (B : BkA) (F3 kf : Nat → Nat) (j : Nat) : Prop := bitn (bL B (kf j)) (lfV B F3 kf j - sumF (bZ B) (kf j)) = 1 ∨ ∃ i, i < j ∧ lfV B F3 kf i = lfV B F3 kf j
theorem xl_once {r1 r2 r3 f : RowT} {m : Nat} {Post : Int32 → Prop} (w : WB B) (h : RowN 40 (bn B) (bS B) r1) (h2 : RowN 40 (bn B) (bZ B) r2) (h3 : RowN 40 (bn B) (bL B) r3) (hE : EOK a md F1 F2 F3 c) (hF : FIT B F1 F3 kf c) (hG : ∀ j, j < c → kf j < bn B) (hf : RowN 20 c (lfV B F3 kf) f) (hm : m ≤ c) (hm1 : ∀ j, j < m → ¬ BAD B F3 kf j) (hm2 : m < c → BAD B F3 kf m)
    (P1 : m = c → Post (nI 1)) (P0 : m < c → Post (nI 0)) : ∀ (d i : Nat), i + d = m → wl_X8_allFoundThereOnce_2 r1 r2 r3 f Post (d + 1) (nI i) := by
  have hc : c ≤ 20 := hf.2.2.1
  have hb : ∀ j, j < c → lfV B F3 kf j < 2 ^ 31 := fun j hj => by
    have := lf_in w hE hF hj (hG j hj)
    omega
  intro d
  induction d with
  | zero =>
    intro i hi
    have e : i = m := by omega
    subst e
    refine s_length hf (pk_le c i (fun z => P1 (by omega)) (fun z => s_at hf i z ?_))
    have hl := lf_in w hE hF z (hG i z)
    have hbt := bitn_le (bL B (kf i)) (lfV B F3 kf i - sumF (bZ B) (kf i))
    refine x_isLost w h h2 h3 hl.1 (b_z (fun q => ?_) (fun q => P0 z))
    obtain ⟨i2, q1, q2⟩ := (hm2 z).resolve_left (by omega)
    obtain ⟨k, g1, g2, g3⟩ := firstN (fun x => lfV B F3 kf x = lfV B F3 kf i) c
    have hki : k < i := by
      by_cases q3 : k ≤ i2
      · omega
      · exact absurd q2 (g2 i2 (by omega))
    exact s_firstIndexOf hf hb (by have := hb i z; omega) k g1 g3 (fun x hx => g2 x hx) (pk_le i k (fun q3 => absurd q3 (by omega)) (fun _ => P0 z))
  | succ d ih =>
    intro i hi
    have z : i < c := by omega
    have hno := hm1 i (by omega)
    have hl := lf_in w hE hF z (hG i z)
    have hbt := bitn_le (bL B (kf i)) (lfV B F3 kf i - sumF (bZ B) (kf i))
    have n1 : bitn (bL B (kf i)) (lfV B F3 kf i - sumF (bZ B) (kf i)) ≠ 1 := fun q => hno (Or.inl q)
    refine s_length hf (pk_le c i (fun q => absurd q (by omega)) (fun _ => s_at hf i z (x_isLost w h h2 h3 hl.1 (b_z (fun _ => ?_) (fun q => absurd (by omega) n1)))))
    refine s_firstIndexOf hf hb (by have := hb i z; omega) i (by omega) (fun _ => rfl) (fun x hx q => hno (Or.inr ⟨x, hx, q⟩)) (pk_le i i (fun _ => ?_) (fun q => absurd q (by omega)))
    rw [nI_add i 1]
    exact ih (i + 1) (by omega)
theorem rl_56 {st ty at1 ri tm lt : Int32} {v : Nat} {K : Int32 → Prop} {Post : Int32 → (Nat → Int32) → (Nat → Int32) → Int32 → Int32 → Int32 → Int32 → Int32 → Int32 → Prop} (h : MB s B) (w : WB B) (hc : c ≤ 20) (hE : EOK a md F1 F2 F3 c) (hF : FIT B F1 F3 kf c) (hT : TLD t F1 F2 F3 c) (hG : ∀ j, j < c → kf j < bn B) (hv : v < c)
    (P1 : ¬ BAD B F3 kf v → K (nI (v + 1))) (P0 : BAD B F3 kf v → Post (-4) s t st at1 ri tm lt (nI c)) : ∀ (d i z : Nat), i + d = v → z ≤ 1 → (z = 1 → ∃ x, x < i ∧ lfV B F3 kf x = lfV B F3 kf v) → (z = 0 → ∀ x, x < i → lfV B F3 kf x ≠ lfV B F3 kf v) → wl_X9_readPile_56 s g t st ty at1 ri tm lt (nI c) (nI v) K Post (d + 1) (nI z) (nI i) := by
  have hl := lf_in w hE hF hv (hG v hv)
  intro d
  induction d with
  | zero =>
    intro i z hi hz z1 z0
    have e : i = v := by omega
    subst e
    refine pk_le i i (fun _ => b_z (fun q => r_lfG h.mq w hc hE hF hT hv (fun _ => ?_) (fun q2 => absurd (hG i hv) q2)) (fun q => P0 (Or.inr (z1 (by omega))))) (fun q => absurd q (by omega))
    have hbt := bitn_le (bL B (kf i)) (lfV B F3 kf i - sumF (bZ B) (kf i))
    refine r_isLost h w hl.1 (b_z (fun q2 => ?_) (fun q2 => P0 (Or.inl (by omega))))
    rw [nI_add i 1]
    refine P1 (fun q3 => q3.elim (fun q4 => by omega) (fun q4 => ?_))
    obtain ⟨x, hx, hx2⟩ := q4
    exact z0 q x hx hx2
  | succ d ih =>
    intro i z hi hz z1 z0
    have hli := lf_in w hE hF (show i < c by omega) (hG i (by omega))
    refine pk_le v i (fun q => absurd q (by omega)) (fun _ => b_z (fun q => r_lfG h.mq w hc hE hF hT (show i < c by omega) (fun _ => r_lfG h.mq w hc hE hF hT hv (fun _ => ?_) (fun q2 => absurd (hG v hv) q2)) (fun q2 => absurd (hG i (by omega)) q2)) (fun q => ?_))
    · rw [nI_add i 1]
      refine pk_eq (lfV B F3 kf i) (lfV B F3 kf v) (fun e => ih (i + 1) 1 (by omega) (by decide) (fun _ => ⟨i, by omega, e⟩) (fun q2 => absurd q2 (by decide))) (fun e => ih (i + 1) 0 (by omega) (by decide) (fun q2 => absurd q2 (by decide)) (fun _ x hx => ?_))
      by_cases e2 : x = i
      · rw [e2]; exact e
      · exact z0 q x (by omega)
    · rw [nI_add i 1]
      refine ih (i + 1) 1 (by omega) (by decide) (fun _ => ?_) (fun q2 => absurd q2 (by decide))
      obtain ⟨x, hx, hx2⟩ := z1 (by omega)
      exact ⟨x, by omega, hx2⟩
end rp
