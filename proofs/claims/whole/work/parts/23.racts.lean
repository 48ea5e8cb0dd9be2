/-! what changes a book, by the reference -/
theorem MB.congr {s t : Nat → Int32} {B : BkA} (w : WB B) (h : MB s B) (e : ∀ i, i < 176 → t i = s i) : MB t B := by
  obtain ⟨h1, h2, h3, h4, h5, h6, h7⟩ := h
  have hn := w.2.2.1
  have hp := w.2.2.2.2.2.2.1
  refine ⟨by rw [e 0 (by decide)]; exact h1, by rw [e 1 (by decide)]; exact h2, by rw [e 2 (by decide)]; exact h3, fun j hj => ?_, by rw [e 163 (by decide)]; exact h5, fun j hj => ?_, fun i hi => ?_⟩
  · obtain ⟨a, b, c, d⟩ := h4 j hj
    exact ⟨by rw [e _ (by omega)]; exact a, by rw [e _ (by omega)]; exact b, by rw [e _ (by omega)]; exact c, by rw [e _ (by omega)]; exact d⟩
  · rw [e _ (by omega)]
    exact h6 j hj
  · obtain ⟨j, hj, hv⟩ := h7 i hi
    exact ⟨j, hj, by rw [e _ (by omega)]; exact hv⟩
/-- copies of whole states -/
def cpS (s : Nat → Int32) (a b : Nat) : Nat → Int32 := fun i => if 176 * b ≤ i ∧ i < 176 * b + 176 then s (i - 176 * b + 176 * a) else s i
theorem rl_copies {s : Nat → Int32} {a b : Nat} {Post : (Nat → Int32) → Prop} (ha : a < 6) (hb : b < 6) (hab : a ≠ b) (P : ∀ t, (∀ i, t i = cpS s a b i) → Post t) : ∀ (d k : Nat) (t : Nat → Int32), k + d = 176 → (∀ i, t i = if 176 * b ≤ i ∧ i < 176 * b + k then s (i - 176 * b + 176 * a) else s i) → wl_X9_copies_2 (nI a) (nI b) Post (d + 1) t (nI k) := by
  intro d
  induction d with
  | zero =>
    intro k t hk ht
    refine pk_le 176 k (fun _ => P t (fun i => ?_)) (fun c => absurd c (by omega))
    rw [ht i, show k = 176 by omega]
    rfl
  | succ d ih =>
    intro k t hk ht
    refine pk_le 176 k (fun c => absurd c (by omega)) (fun _ => ?_)
    rw [pk_mul, pk_mul, nI_add, nI_add]
    refine ⟨vp_in_nI (by omega) (by decide), vp_in_nI (by omega) (by decide), ?_⟩
    rw [nI_clamp (by omega), nI_clamp (by omega), nI_add]
    refine ih (k + 1) _ (by omega) (fun i => ?_)
    unfold upd
    by_cases e : i = 176 * b + k
    · rw [if_pos e, if_pos (by omega), ht, if_neg (by omega)]
      congr 1
      omega
    · rw [if_neg e, ht]
      by_cases c : 176 * b ≤ i ∧ i < 176 * b + k
      · rw [if_pos c, if_pos (by omega)]
      · rw [if_neg c, if_neg (by omega)]
theorem r_copies {s : Nat → Int32} {a b : Nat} {Post : (Nat → Int32) → Prop} (ha : a < 6) (hb : b < 6) (hab : a ≠ b) (P : ∀ t, (∀ i, t i = cpS s a b i) → Post t) : wp_X9_copies s (nI a) (nI b) Post :=
  ⟨177, rl_copies ha hb hab P 176 0 s (by omega) (fun i => by rw [if_neg (by omega)])⟩
def HM (s : Nat → Int32) (hs : Nat → BkA) (k : Nat) : Prop := ∀ i, i < k → MB (fun x => s (176 * (i + 1) + x)) (hs i) ∧ WB (hs i)
theorem HM.frame {s t : Nat → Int32} {hs : Nat → BkA} {k : Nat} (h : HM s hs k) (e : ∀ i, 176 ≤ i → t i = s i) : HM t hs k := fun i hi => ⟨(h i hi).1.congr (h i hi).2 (fun x _ => e _ (by omega)), (h i hi).2⟩
theorem cpS_out {s : Nat → Int32} {a b c x : Nat} (hc : c ≠ b) (hx : x < 176) : cpS s a b (176 * c + x) = s (176 * c + x) := by
  unfold cpS
  rw [if_neg (by omega)]
theorem cpS_in {s : Nat → Int32} {a b x : Nat} (hx : x < 176) : cpS s a b (176 * b + x) = s (176 * a + x) := by
  unfold cpS
  rw [if_pos (by omega)]
  congr 1
  omega
theorem rj_records {s : Nat → Int32} {B : BkA} {hs : Nat → BkA} {k : Nat} {Post : (Nat → Int32) → Int32 → Prop} (h : MB s B) (w : WB B) (hm : HM s hs k) (hk : k < 4)
    (P : ∀ t, MB t B → HM t (fun i => if i = k then B else hs i) (k + 1) → (∀ x, x < 176 → t (880 + x) = s (880 + x)) → Post t (nI (k + 1))) : wj_X9_records_39 s (nI k) Post := by
  unfold wj_X9_records_39
  rw [nI_add]
  refine r_copies (by decide) (by omega) (by omega) (fun t ht => P t (h.congr w (fun x hx => ?_)) (fun i hi => ?_) (fun x hx => ?_))
  · have := cpS_out (s := s) (a := 0) (b := k + 1) (c := 0) (x := x) (by omega) hx
    rw [ht]
    rw [Nat.mul_zero, Nat.zero_add] at this
    exact this
  · by_cases e : i = k
    · subst e
      show MB _ (if i = i then B else hs i) ∧ WB (if i = i then B else hs i)
      rw [if_pos rfl]
      refine ⟨h.congr w (fun x hx => ?_), w⟩
      show t (176 * (i + 1) + x) = s x
      rw [ht, cpS_in hx, Nat.mul_zero, Nat.zero_add]
    · show MB _ (if i = k then B else hs i) ∧ WB (if i = k then B else hs i)
      rw [if_neg e]
      have hi2 := hm i (by omega)
      refine ⟨hi2.1.congr hi2.2 (fun x hx => ?_), hi2.2⟩
      show t (176 * (i + 1) + x) = s (176 * (i + 1) + x)
      rw [ht, cpS_out (by omega) hx]
  · have := cpS_out (s := s) (a := 0) (b := k + 1) (c := 5) (x := x) (by omega) hx
    rw [ht]
    exact this
/-- records() -/
theorem r_records {s : Nat → Int32} {B : BkA} {hs : Nat → BkA} {k : Nat} {Post : (Nat → Int32) → Int32 → Prop} (h : MB s B) (w : WB B) (hm : HM s hs k) (hk : k ≤ 4)
    (P : ∀ t, MB t B → HM t (recS hs k B) (min (k + 1) 4) → (∀ x, x < 176 → t (880 + x) = s (880 + x)) → Post t (nI (min (k + 1) 4))) : wp_X9_records s (nI k) Post := by
  refine pk_eq k 4 (fun e => ?_) (fun e => ?_)
  · subst e
    refine ⟨4, ?_⟩
    refine pk_le 4 1 (fun c => absurd c (by decide)) (fun _ => ?_)
    rw [nI_add]
    refine r_copies (a := 1 + 1) (b := 1) (by decide) (by decide) (by decide) (fun t1 ht1 => ?_)
    refine pk_le 4 (1 + 1) (fun c => absurd c (by decide)) (fun _ => ?_)
    rw [nI_add]
    refine r_copies (a := 1 + 1 + 1) (b := 1 + 1) (by decide) (by decide) (by decide) (fun t2 ht2 => ?_)
    refine pk_le 4 (1 + 1 + 1) (fun c => absurd c (by decide)) (fun _ => ?_)
    rw [nI_add]
    refine r_copies (a := 1 + 1 + 1 + 1) (b := 1 + 1 + 1) (by decide) (by decide) (by decide) (fun t3 ht3 => ?_)
    refine pk_le 4 (1 + 1 + 1 + 1) (fun _ => ?_) (fun c => absurd c (by decide))
    rw [pk_sub (by decide)]
    have at3 : ∀ c x, x < 176 → t3 (176 * c + x) = if c = 1 then s (176 * 2 + x) else if c = 2 then s (176 * 3 + x) else if c = 3 then s (176 * 4 + x) else s (176 * c + x) := by
      intro c x hx
      by_cases e3 : c = 3
      · subst e3
        rw [ht3, cpS_in hx, ht2, cpS_out (by decide) hx, ht1, cpS_out (by decide) hx]
        rfl
      · rw [ht3, cpS_out e3 hx]
        by_cases e2 : c = 2
        · subst e2
          rw [ht2, cpS_in hx, ht1, cpS_out (by decide) hx]
          rfl
        · rw [ht2, cpS_out e2 hx]
          by_cases e1 : c = 1
          · subst e1
            rw [ht1, cpS_in hx]
            rfl
          · rw [ht1, cpS_out e1 hx, if_neg e1, if_neg e2, if_neg e3]
    have h0 : MB t3 B := h.congr w (fun x hx => by
      have := at3 0 x hx
      rw [Nat.mul_zero, Nat.zero_add] at this
      exact this)
    have hm3 : HM t3 (fun i => hs (i + 1)) 3 := by
      intro i hi
      have hi2 := hm (i + 1) (by omega)
      refine ⟨hi2.1.congr hi2.2 (fun x hx => ?_), hi2.2⟩
      show t3 (176 * (i + 1) + x) = s (176 * (i + 1 + 1) + x)
      rw [at3 _ x hx]
      rcases (show i = 0 ∨ i = 1 ∨ i = 2 by omega) with rfl | rfl | rfl <;> rfl
    refine rj_records h0 w hm3 (by decide) (fun t g1 g2 g3 => P t g1 (fun i hi => ?_) (fun x hx => ?_))
    · have := g2 i hi
      unfold recS
      rw [if_neg (by decide)]
      exact this
    · rw [g3 x hx]
      have := at3 5 x hx
      exact this
  · have hk4 : k < 4 := by omega
    refine rj_records h w hm hk4 (fun t g1 g2 g3 => ?_)
    have := P t g1
    unfold recS at this
    rw [if_pos hk4, Nat.min_eq_left (by omega)] at this
    exact this g2 g3
theorem sub1 (m : Nat) : (nI m) + (-1) = nI m - nI 1 := by
  rw [Int32.sub_eq_add_neg]
  rfl
theorem rl_puts_in {s g : Nat → Int32} {p1 p2 p3 p4 : Int32} {m : Nat} {K : (Nat → Int32) → Int32 → Prop} {Post : (Nat → Int32) → Prop} (hm : m < 40) (P : ∀ t, (∀ i, t i = if 3 + 4 * (m + 1) ≤ i ∧ i < 3 + 4 * (m + 1) + 4 then g (i - 4) else g i) → K t (nI m + (-1))) : ∀ (d k : Nat) (t : Nat → Int32), k + d = 4 → (∀ i, t i = if 3 + 4 * (m + 1) ≤ i ∧ i < 3 + 4 * (m + 1) + k then g (i - 4) else g i) → wl_X9_puts_19 p1 p2 p3 p4 (nI m) K Post (d + 1) t (nI k) := by
  intro d
  induction d with
  | zero =>
    intro k t hk ht
    refine pk_le 4 k (fun _ => P t (fun i => ?_)) (fun c => absurd c (by omega))
    rw [ht i, show k = 4 by omega]
  | succ d ih =>
    intro k t hk ht
    refine pk_le 4 k (fun c => absurd c (by omega)) (fun _ => ?_)
    rw [nI_add]
    refine r_of (r_of ⟨vp_in_nI (by omega) (by decide), vp_in_nI (by omega) (by decide), ?_⟩)
    rw [nI_clamp (by omega), nI_clamp (by omega), nI_add]
    refine ih (k + 1) _ (by omega) (fun i => ?_)
    unfold upd
    by_cases e : i = 3 + 4 * (m + 1) + k
    · rw [if_pos e, if_pos (by omega), ht, if_neg (by omega)]
      congr 1
      omega
    · rw [if_neg e, ht]
      by_cases c : 3 + 4 * (m + 1) ≤ i ∧ i < 3 + 4 * (m + 1) + k
      · rw [if_pos c, if_pos (by omega)]
      · rw [if_neg c, if_neg (by omega)]
/-- a quire put in its place: what the numbers are behind it -/
def putS (s : Nat → Int32) (n q : Nat) (a b c : Int32) : Nat → Int32 := fun i => if i = 163 then nI 0 else if i = 2 then s 2 + nI 1 else if i = 3 + 4 * q + 3 then nI 0 else if i = 3 + 4 * q + 2 then c else if i = 3 + 4 * q + 1 then b else if i = 3 + 4 * q + 0 then a else if 3 + 4 * (q + 1) ≤ i ∧ i < 3 + 4 * (n + 1) then s (i - 4) else s i
theorem rl_puts {s : Nat → Int32} {n q : Nat} {a b c : Int32} {Post : (Nat → Int32) → Prop} (hn : n < 40) (hq : q ≤ n) (P : ∀ t, (∀ i, t i = putS s n q a b c i) → Post t) : ∀ (d m : Nat) (g : Nat → Int32), q + d = m → m ≤ n → (∀ i, g i = if 3 + 4 * (m + 1) ≤ i ∧ i < 3 + 4 * (n + 1) then s (i - 4) else s i) → wl_X9_puts_10 (nI q) a b c Post (d + 1) g (nI m - nI 1) := by
  intro d
  induction d with
  | zero =>
    intro m g hm hmn hg
    refine ⟨fun _ => ?_, fun z => absurd ((le_hi (n := m) (p := nI q) (by omega)).mpr (nI_le (by omega) (by omega))) z⟩
    refine r_of ⟨vp_in_nI (by omega) (by decide), r_of ⟨vp_in_nI (by omega) (by decide), r_of ⟨vp_in_nI (by omega) (by decide), r_of ⟨vp_in_nI (by omega) (by decide), vp_in_nI (by decide) (by decide), vp_in_nI (by decide) (by decide), vp_in_nI (by decide) (by decide), P _ (fun i => ?_)⟩⟩⟩⟩
    rw [nI_clamp (by omega), nI_clamp (by omega), nI_clamp (by omega), nI_clamp (by omega), nI_clamp (by omega), nI_clamp (by omega)]
    have h2 : g 2 = s 2 := by rw [hg, if_neg (by omega)]
    have hm2 : m = q := by omega
    subst hm2
    unfold putS
    by_cases e1 : i = 163
    · rw [if_pos e1]; simp only [upd, e1, if_true]
    · rw [if_neg e1]
      by_cases e2 : i = 2
      · rw [if_pos e2]
        simp only [upd, e2]
        rw [if_neg (by decide), if_pos trivial, if_neg (by omega), if_neg (by omega), if_neg (by omega), if_neg (by omega), h2]
      · rw [if_neg e2]
        simp only [upd]
        rw [if_neg e1, if_neg e2]
        by_cases e3 : i = 3 + 4 * m + 3
        · rw [if_pos e3, if_pos e3]
        · rw [if_neg e3, if_neg e3]
          by_cases e4 : i = 3 + 4 * m + 2
          · rw [if_pos e4, if_pos e4]
          · rw [if_neg e4, if_neg e4]
            by_cases e5 : i = 3 + 4 * m + 1
            · rw [if_pos e5, if_pos e5]
            · rw [if_neg e5, if_neg e5]
              by_cases e6 : i = 3 + 4 * m + 0
              · rw [if_pos e6, if_pos e6]
              · rw [if_neg e6, if_neg e6]
                exact hg i
  | succ d ih =>
    intro m g hm hmn hg
    refine ⟨fun z => absurd ((le_hi (n := m) (p := nI q) (by omega)).mp z) (nI_ge (by omega) (by omega)), fun _ => ?_⟩
    rw [pk_sub (by omega)]
    refine ⟨5, rl_puts_in (s := s) (g := g) (m := m - 1) (by omega) (fun t ht => ?_) 4 0 g (by omega) (fun i => by rw [if_neg (by omega)])⟩
    rw [sub1]
    refine ih (m - 1) t (by omega) (by omega) (fun i => ?_)
    rw [ht, show m - 1 + 1 = m by omega]
    by_cases c1 : 3 + 4 * m ≤ i ∧ i < 3 + 4 * m + 4
    · rw [if_pos c1, if_pos (by omega), hg, if_neg (by omega)]
    · rw [if_neg c1, hg]
      by_cases c2 : 3 + 4 * (m + 1) ≤ i ∧ i < 3 + 4 * (n + 1)
      · rw [if_pos c2, if_pos (by omega)]
      · rw [if_neg c2, if_neg (by omega)]
theorem r_puts {s : Nat → Int32} {B : BkA} {q sn z : Nat} {Post : (Nat → Int32) → Prop} (h : MB s B) (w : WB B) (hq : q ≤ bn B) (hn : bn B < 40)
    (P : ∀ t, MB t (bal B, bsg B, bn B + 1, insF (bS B) q sn, insF (bZ B) q z, insF (bL B) q 0, 0, bP B) → (∀ i, 176 ≤ i → t i = s i) → Post t) : wp_X9_puts s (nI q) (nI (tmS sn)) (ltS sn) (nI z) Post := by
  refine ⟨vp_in_nI (by decide) (by decide), ?_⟩
  rintro _ rfl
  rw [nI_clamp (by decide), h.2.2.1]
  refine ⟨bn B - q + 1, rl_puts (s := s) (n := bn B) hn hq (fun t ht => ?_) (bn B - q) (bn B) s (by omega) (Nat.le_refl _) (fun i => by rw [if_neg (by omega)])⟩
  have out : ∀ i, i ≠ 163 → i ≠ 2 → (i < 3 + 4 * q ∨ 3 + 4 * (bn B + 1) ≤ i) → t i = s i := by
    intro i h1 h2 h3
    rw [ht, putS, if_neg h1, if_neg h2, if_neg (by omega), if_neg (by omega), if_neg (by omega), if_neg (by omega), if_neg (by omega)]
  have up : ∀ i, 3 + 4 * (q + 1) ≤ i → i < 3 + 4 * (bn B + 1) → i < 163 → t i = s (i - 4) := by
    intro i h1 h2 h3
    rw [ht, putS, if_neg (by omega), if_neg (by omega), if_neg (by omega), if_neg (by omega), if_neg (by omega), if_neg (by omega), if_pos ⟨h1, h2⟩]
  refine P t ⟨?_, ?_, ?_, fun j hj => ?_, ?_, fun j hj => absurd hj (Nat.not_lt_zero _), fun j hj => absurd hj (Nat.not_lt_zero _)⟩ (fun i hi => out i (by omega) (by omega) (by omega))
  · rw [out 0 (by decide) (by decide) (by omega)]; exact h.1
  · rw [out 1 (by decide) (by decide) (by omega)]; exact h.2.1
  · rw [ht, putS, if_neg (by decide), if_pos rfl, h.2.2.1, nI_add]
  · have hj : j < bn B + 1 := hj
    show t (3 + 4 * j + 0) = nI (tmS (insF (bS B) q sn j)) ∧ t (3 + 4 * j + 1) = ltS (insF (bS B) q sn j) ∧ t (3 + 4 * j + 2) = nI (insF (bZ B) q z j) ∧ t (3 + 4 * j + 3) = nI (insF (bL B) q 0 j)
    unfold insF
    by_cases c1 : j < q
    · rw [if_pos c1, if_pos c1, if_pos c1, out _ (by omega) (by omega) (by omega), out _ (by omega) (by omega) (by omega), out _ (by omega) (by omega) (by omega), out _ (by omega) (by omega) (by omega)]
      exact h.q (by omega)
    · rw [if_neg c1, if_neg c1, if_neg c1]
      by_cases c2 : j = q
      · subst c2
        rw [if_pos rfl, if_pos rfl, if_pos rfl]
        refine ⟨?_, ?_, ?_, ?_⟩
        · rw [ht, putS, if_neg (by omega), if_neg (by omega), if_neg (by omega), if_neg (by omega), if_neg (by omega), if_pos rfl]
        · rw [ht, putS, if_neg (by omega), if_neg (by omega), if_neg (by omega), if_neg (by omega), if_pos rfl]
        · rw [ht, putS, if_neg (by omega), if_neg (by omega), if_neg (by omega), if_pos rfl]
        · rw [ht, putS, if_neg (by omega), if_neg (by omega), if_pos rfl]
      · rw [if_neg c2, if_neg c2, if_neg c2, up _ (by omega) (by omega) (by omega), up _ (by omega) (by omega) (by omega), up _ (by omega) (by omega) (by omega), up _ (by omega) (by omega) (by omega)]
        have := h.q (q := j - 1) (by omega)
        rw [show 3 + 4 * j + 0 - 4 = 3 + 4 * (j - 1) + 0 by omega, show 3 + 4 * j + 1 - 4 = 3 + 4 * (j - 1) + 1 by omega, show 3 + 4 * j + 2 - 4 = 3 + 4 * (j - 1) + 2 by omega, show 3 + 4 * j + 3 - 4 = 3 + 4 * (j - 1) + 3 by omega]
        exact this
  · rw [ht, putS, if_pos rfl]
