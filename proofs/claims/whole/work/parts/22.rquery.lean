/-! what is told of a book, by the reference -/
theorem r_in {p lo hi : Int32} {Post : Int32 → Prop} (P0 : p < lo ∨ hi < p → Post (nI 0)) (P1 : ¬ p < lo → ¬ hi < p → Post (nI 1)) : wp_X9_in p lo hi Post := ⟨fun h => P0 (Or.inl h), fun h => ⟨fun g => P0 (Or.inr g), fun g => P1 h g⟩⟩
theorem rd {s : Nat → Int32} {k : Nat} {x : Int32} {Q : Int32 → Prop} (h : s k = x) (hk : k < 1056) (P : Q x) : vp_in (nI k) 1056 ∧ Q (s (nI k).toNatClampNeg) := by
  refine ⟨vp_in_nI hk (by decide), ?_⟩
  rw [nI_clamp (by omega), h]
  exact P
theorem le_hi {n : Nat} {p : Int32} (hn : n < 2 ^ 30) : nI n - nI 1 < p ↔ nI n ≤ p := by
  rw [Int32.lt_iff_toInt_lt, Int32.le_iff_toInt_le, pk_sub_toInt hn (by decide), nI_toInt (by omega)]
  omega
theorem MB.q {s : Nat → Int32} {B : BkA} (h : MB s B) {q : Nat} (hq : q < bn B) : s (3 + 4 * q + 0) = nI (tmS (bS B q)) ∧ s (3 + 4 * q + 1) = ltS (bS B q) ∧ s (3 + 4 * q + 2) = nI (bZ B q) ∧ s (3 + 4 * q + 3) = nI (bL B q) := h.2.2.2.1 q hq
section rq
variable {s : Nat → Int32} {B : BkA} {Post : Int32 → Prop}
theorem r_isStarred (h : MB s B) (w : WB B) {q : Nat} (hq : q < bn B) (P0 : bS B q < 78 → Post (nI 0)) (P1 : 78 ≤ bS B q → Post (nI 1)) : wp_X9_isStarred s (nI q) Post := by
  have hn := w.2.2.1
  refine r_of (rd (Q := fun v => (0 ≤ v → Post (nI 0)) ∧ (¬ 0 ≤ v → Post (nI 1))) (h.q hq).2.1 (by omega) ?_)
  unfold ltS
  by_cases c : bS B q < 78
  · rw [if_pos c]
    exact ⟨fun _ => P0 c, fun z => absurd (nI_pos' (by omega)) z⟩
  · rw [if_neg c]
    exact ⟨fun z => absurd z (by decide), fun _ => P1 (by omega)⟩
theorem r_sign (h : MB s B) (w : WB B) {q : Nat} (hq : q < bn B) (hS : bS B q < 78) (P : Post (nI (bS B q))) : wp_X9_sign s (nI q) Post := by
  have hn := w.2.2.1
  refine r_of (rd (Q := fun v => wp_X9_of (nI q) (nI 1) (fun r2 => (vp_in r2 1056 ∧ Post (((nI 26) * (v - (nI 1))) + (s r2.toNatClampNeg))))) (h.q hq).1 (by omega) ?_)
  refine r_of (rd (Q := fun v => Post (((nI 26) * (nI (tmS (bS B q)) - (nI 1))) + v)) (h.q hq).2.1 (by omega) ?_)
  rw [tmS, ltS, if_pos hS, if_pos hS, pk_sub (by omega), pk_mul, nI_add, show 26 * (bS B q / 26 + 1 - 1) + bS B q % 26 = bS B q by omega]
  exact P
theorem tm_lt_inj {a b : Nat} (ha : a < 83) (hb : b < 83) : (tmS a = tmS b ∧ ltS a = ltS b) ↔ a = b := by
  constructor
  · intro ⟨h1, h2⟩
    unfold tmS at h1
    unfold ltS at h2
    by_cases ca : a < 78
    · rw [if_pos ca] at h1 h2
      by_cases cb : b < 78
      · rw [if_pos cb] at h1 h2
        rw [nI_eq (by omega) (by omega)] at h2
        omega
      · rw [if_neg cb] at h1 h2
        exact absurd h2 (nI_m1 (by omega))
    · rw [if_neg ca] at h1 h2
      by_cases cb : b < 78
      · rw [if_pos cb] at h1 h2
        exact absurd h2.symm (nI_m1 (by omega))
      · rw [if_neg cb] at h1 h2
        omega
  · rintro rfl
    exact ⟨rfl, rfl⟩
theorem tmS_lt {a : Nat} (ha : a < 83) : tmS a < 6 := by
  unfold tmS
  by_cases ca : a < 78
  · rw [if_pos ca]; omega
  · rw [if_neg ca]; omega
theorem r_areSame (h : MB s B) (w : WB B) {i j : Nat} (hi : i < bn B) (hj : j < bn B) (P1 : bS B i = bS B j → Post (nI 1)) (P0 : bS B i ≠ bS B j → Post (nI 0)) : wp_X9_areSame s (nI i) (nI j) Post := by
  have hn := w.2.2.1
  have s1 := w.2.2.2.1 i hi
  have s2 := w.2.2.2.1 j hj
  have key := tm_lt_inj s1 s2
  have t1 := tmS_lt s1
  have t2 := tmS_lt s2
  unfold wp_X9_areSame
  refine r_of ⟨vp_in_nI (by omega) (by decide), r_of ⟨vp_in_nI (by omega) (by decide), ?_⟩⟩
  rw [nI_clamp (by omega), nI_clamp (by omega), (h.q hi).1, (h.q hj).1]
  refine pk_eq (tmS (bS B i)) (tmS (bS B j)) (fun e => ?_) (fun e => ?_)
  · refine r_of ⟨vp_in_nI (by omega) (by decide), r_of ⟨vp_in_nI (by omega) (by decide), ?_⟩⟩
    rw [nI_clamp (by omega), nI_clamp (by omega), (h.q hi).2.1, (h.q hj).2.1]
    exact ⟨fun e2 => P1 (key.mp ⟨e, e2⟩), fun e2 => P0 (fun q => e2 (key.mpr q).2)⟩
  · exact P0 (fun q => e (key.mpr q).1)
theorem z01 : (nI 0 = 0 ∨ nI 0 = 1) := by decide
theorem o01 : (nI 1 = 0 ∨ nI 1 = 1) := by decide
theorem r_isQuire (h : MB s B) (w : WB B) {p : Int32} (P0 : (∀ j, j < bn B → p ≠ nI j) → Post (nI 0)) (P1 : ∀ j, j < bn B → p = nI j → Post (nI 1)) : wp_X9_isQuire s p Post := by
  have hn := w.2.2.1
  refine rd (Q := fun v => wp_X9_in p (nI 0) (v - nI 1) (fun r1 => ((r1 = 0 ∨ r1 = 1) ∧ Post r1))) h.2.2.1 (by decide) ?_
  refine r_in (fun c => ⟨z01, P0 (fun j hj e => ?_)⟩) (fun c1 c2 => ⟨o01, ?_⟩)
  · subst e
    rcases c with c | c
    · exact nI_pos (n := j) (by omega) (by rw [nI_0] at c; exact c)
    · rw [le_hi (by omega)] at c
      exact nI_ge hj (by omega) c
  · rw [le_hi (by omega)] at c2
    rw [nI_0] at c1
    rcases pk_ix p (n := bn B) (by omega) with c | c | ⟨j, hj, e⟩
    · exact absurd c c1
    · exact absurd c c2
    · exact P1 j hj e
theorem rl_leaves (h : MB s B) (w : WB B) (P : Post (nI (lvs B))) : ∀ (d i : Nat), i + d = bn B → wl_X9_leaves_4 s Post (d + 1) (nI (sumF (bZ B) i)) (nI i) := by
  have hn := w.2.2.1
  intro d
  induction d with
  | zero =>
    intro i hd
    refine rd (Q := fun v => (v ≤ nI i → Post _) ∧ (¬ v ≤ nI i → _)) h.2.2.1 (by decide) (pk_le (bn B) i (fun _ => ?_) (fun c => absurd c (by omega)))
    rw [show i = bn B by omega]
    exact P
  | succ d ih =>
    intro i hd
    refine rd (Q := fun v => (v ≤ nI i → Post _) ∧ (¬ v ≤ nI i → _)) h.2.2.1 (by decide) (pk_le (bn B) i (fun c => absurd c (by omega)) (fun _ => r_of ⟨vp_in_nI (by omega) (by decide), ?_⟩))
    rintro _ rfl
    rw [nI_clamp (by omega), (h.q (by omega : i < bn B)).2.2.1, nI_add, nI_add]
    exact ih (i + 1) (by omega)
theorem r_leaves (h : MB s B) (w : WB B) (P : Post (nI (lvs B))) : wp_X9_leaves s Post := ⟨bn B + 1, rl_leaves h w P (bn B) 0 (by omega)⟩
theorem rl_first (h : MB s B) (w : WB B) {q : Nat} (hq : q ≤ bn B) (P : Post (nI (sumF (bZ B) q))) : ∀ (d i : Nat), i + d = q → wl_X9_first_4 s (nI q) Post (d + 1) (nI (sumF (bZ B) i)) (nI i) := by
  have hn := w.2.2.1
  intro d
  induction d with
  | zero =>
    intro i hd
    refine pk_le q i (fun _ => ?_) (fun c => absurd c (by omega))
    rw [show i = q by omega]
    exact P
  | succ d ih =>
    intro i hd
    refine pk_le q i (fun c => absurd c (by omega)) (fun _ => r_of ⟨vp_in_nI (by omega) (by decide), ?_⟩)
    rintro _ rfl
    rw [nI_clamp (by omega), (h.q (by omega : i < bn B)).2.2.1, nI_add, nI_add]
    exact ih (i + 1) (by omega)
theorem r_first (h : MB s B) (w : WB B) {q : Nat} (hq : q ≤ bn B) (P : Post (nI (sumF (bZ B) q))) : wp_X9_first s (nI q) Post := ⟨q + 1, rl_first h w hq P q 0 (by omega)⟩
theorem r_signed (h : MB s B) (w : WB B) {q : Nat} (hq : q < bn B) (P : Post (nI (sgN (bsg B) (bZ B q)))) : wp_X9_signed s (nI q) Post := by
  have hn := w.2.2.1
  have hz := w.2.2.2.2.1 q hq
  have hs := w.2.1
  refine r_of ⟨vp_in_nI (by omega) (by decide), ?_⟩
  rintro _ rfl
  rw [nI_clamp (by omega), (h.q hq).2.2.1]
  rintro _ rfl
  rw [nI_add, pk_div (by omega) (by decide) (by decide)]
  refine ⟨vp_in_nI (by decide) (by decide), ?_⟩
  rw [nI_clamp (by decide), h.2.1]
  refine pk_eq (bsg B) 2 (fun e => ?_) (fun e => pk_eq ((bZ B q + 1) / 2) (bZ B q) (fun e2 => ?_) (fun e2 => ⟨vp_in_nI (by decide) (by decide), pk_eq (bsg B) 1 (fun e3 => ?_) (fun e3 => ?_)⟩))
  · rw [sgN, if_neg (by omega), if_neg (by omega)] at P
    exact P
  · have : sgN (bsg B) (bZ B q) = bZ B q := by
      unfold sgN
      by_cases h0 : bsg B = 0
      · rw [if_pos h0, e2]
      · rw [if_neg h0, if_pos (by omega)]
        omega
    rw [this] at P
    exact P
  · rw [sgN, if_neg (by omega), if_pos e3, Nat.min_eq_left (by omega)] at P
    rw [nI_add]
    exact P
  · rw [sgN, if_pos (by omega)] at P
    exact P
theorem rl_signedOfAll (h : MB s B) (w : WB B) (P : Post (nI (sgd B))) : ∀ (d i : Nat), i + d = bn B → wl_X9_signedOfAll_4 s Post (d + 1) (nI (sumF (fun j => sgN (bsg B) (bZ B j)) i)) (nI i) := by
  have hn := w.2.2.1
  intro d
  induction d with
  | zero =>
    intro i hd
    refine rd (Q := fun v => (v ≤ nI i → Post _) ∧ (¬ v ≤ nI i → _)) h.2.2.1 (by decide) (pk_le (bn B) i (fun _ => ?_) (fun c => absurd c (by omega)))
    rw [show i = bn B by omega]
    exact P
  | succ d ih =>
    intro i hd
    refine rd (Q := fun v => (v ≤ nI i → Post _) ∧ (¬ v ≤ nI i → _)) h.2.2.1 (by decide) (pk_le (bn B) i (fun c => absurd c (by omega)) (fun _ => r_signed h w (by omega) ?_))
    rintro _ rfl
    rw [nI_add, nI_add]
    exact ih (i + 1) (by omega)
theorem r_signedOfAll (h : MB s B) (w : WB B) (P : Post (nI (sgd B))) : wp_X9_signedOfAll s Post := ⟨bn B + 1, rl_signedOfAll h w P (bn B) 0 (by omega)⟩
theorem r_isLeaf (h : MB s B) (w : WB B) {p : Int32} (P0 : (∀ j, j < lvs B → p ≠ nI j) → Post (nI 0)) (P1 : ∀ j, j < lvs B → p = nI j → Post (nI 1)) : wp_X9_isLeaf s p Post := by
  have hn := w.lvs
  refine r_leaves h w (r_in (fun c => ⟨z01, P0 (fun j hj e => ?_)⟩) (fun c1 c2 => ⟨o01, ?_⟩))
  · subst e
    rcases c with c | c
    · exact nI_pos (n := j) (by omega) (by rw [nI_0] at c; exact c)
    · rw [le_hi (by omega)] at c
      exact nI_ge hj (by omega) c
  · rw [le_hi (by omega)] at c2
    rw [nI_0] at c1
    rcases pk_ix p (n := lvs B) (by omega) with c | c | ⟨j, hj, e⟩
    · exact absurd c c1
    · exact absurd c c2
    · exact P1 j hj e
theorem rl_quireOf (h : MB s B) (w : WB B) {q j : Nat} (hq : InQ B q j) (P : Post (nI q)) : ∀ (d i : Nat), i + d = q → wl_X9_quireOf_2 s (nI j) Post (d + 1) (nI i) := by
  have hn := w.2.2.1
  obtain ⟨q1, q2, q3⟩ := hq
  have hj : j < 961 := by have := w.sum (q := q + 1) (by omega); omega
  intro d
  induction d with
  | zero =>
    intro i hd
    have e : i = q := by omega
    subst e
    have hs := w.sum (q := i + 1) (by omega)
    refine r_first h w (by omega) (r_of ⟨vp_in_nI (by omega) (by decide), ?_⟩)
    rw [nI_clamp (by omega), (h.q q1).2.2.1, nI_add]
    rw [sumF] at hs q3
    exact pk_lt j (sumF (bZ B) i + bZ B i) (fun _ => P) (fun c => absurd c (by omega))
  | succ d ih =>
    intro i hd
    have hs := w.sum (q := i + 1) (by omega)
    have hmono : sumF (bZ B) (i + 1) ≤ sumF (bZ B) q := sumF_mono (by omega)
    refine r_first h w (by omega) (r_of ⟨vp_in_nI (by omega) (by decide), ?_⟩)
    rw [nI_clamp (by omega), (h.q (by omega : i < bn B)).2.2.1, nI_add]
    rw [sumF] at hs hmono
    refine pk_lt j (sumF (bZ B) i + bZ B i) (fun c => absurd c (by omega)) (fun _ => ?_)
    rw [nI_add]
    exact ih (i + 1) (by omega)
theorem r_quireOf (h : MB s B) (w : WB B) {q j : Nat} (hq : InQ B q j) (P : Post (nI q)) : wp_X9_quireOf s (nI j) Post := ⟨q + 1, rl_quireOf h w hq P q 0 (by omega)⟩
theorem r_isLost (h : MB s B) (w : WB B) {q j : Nat} (hq : InQ B q j) (P : Post (nI (bitn (bL B q) (j - sumF (bZ B) q)))) : wp_X9_isLost s (nI j) Post := by
  have hn := w.2.2.1
  obtain ⟨k1, k2, k3⟩ := inQ_lt w hq
  have hl := w.lost hq.1
  have hq1 := hq.1
  refine r_quireOf h w hq (r_of ⟨vp_in_nI (by omega) (by decide), r_first h w (Nat.le_of_lt hq.1) ?_⟩)
  rw [nI_clamp (by omega), (h.q hq.1).2.2.2, pk_sub hq.2.1, bit_at (by omega) (by omega)]
  have hb := bitn_le (bL B q) (j - sumF (bZ B) q)
  refine pk_eq _ 1 (fun e => ?_) (fun e => ?_)
  · rw [e] at P; exact P
  · rw [show bitn (bL B q) (j - sumF (bZ B) q) = 0 by omega] at P; exact P
theorem sum_bits_le {m z : Nat} (hm : m < 2 ^ z) : ∀ k, sumF (bitn m) k ≤ z := by
  intro k
  by_cases hk : k ≤ z
  · have h1 := sumF_le (f := bitn m) (c := 1) k (fun j _ => bitn_le m j)
    omega
  · have h1 := sumF_le (f := bitn m) (c := 1) z (fun j _ => bitn_le m j)
    have h2 : sumF (bitn m) k = sumF (bitn m) z := by
      rw [show k = z + (k - z) by omega, sumF_add, sumF_zero (f := fun j => bitn m (z + j)) _ (fun j _ => bitn_hi0 hm (Nat.le_add_right _ _))]
      rfl
    omega
theorem fr_bits {m z : Nat} (hm : m < 2 ^ z) (hz : z ≤ 24) : z - sumF (bitn m) 24 = fr m z := by
  have h2 : sumF (bitn m) 24 = sumF (bitn m) z := by
    rw [show 24 = z + (24 - z) by omega, sumF_add, sumF_zero (f := fun j => bitn m (z + j)) _ (fun j _ => bitn_hi0 hm (Nat.le_add_right _ _))]
    rfl
  have h6 := sumF_compl (bitn m) (bitn_le _) z
  unfold fr
  omega
theorem rl_there (h : MB s B) (w : WB B) {q : Nat} (hq : q < bn B) (P : Post (nI (fr (bL B q) (bZ B q)))) : ∀ (d i : Nat), i + d = 24 → wl_X9_there_13 s (nI q) Post (d + 1) (nI (bZ B q - sumF (bitn (bL B q)) i)) (nI i) := by
  have hn := w.2.2.1
  have hz := w.2.2.2.2.1 q hq
  have hl := w.2.2.2.2.2.1 q hq
  have hl2 := w.lost hq
  intro d
  induction d with
  | zero =>
    intro i hd
    refine pk_le 24 i (fun _ => ?_) (fun c => absurd c (by omega))
    rw [show i = 24 by omega, fr_bits hl hz.2]
    exact P
  | succ d ih =>
    intro i hd
    have hb := sum_bits_le hl (i + 1)
    refine pk_le 24 i (fun c => absurd c (by omega)) (fun _ => r_of ⟨vp_in_nI (by omega) (by decide), ?_⟩)
    rintro _ rfl
    rw [sumF] at hb
    rw [nI_clamp (by omega), (h.q hq).2.2.2, bit_at (by omega) (by omega), pk_sub (by omega), nI_add]
    have := ih (i + 1) (by omega)
    rw [sumF, show bZ B q - (sumF (bitn (bL B q)) i + bitn (bL B q) i) = bZ B q - sumF (bitn (bL B q)) i - bitn (bL B q) i by omega] at this
    exact this
theorem r_there (h : MB s B) (w : WB B) {q : Nat} (hq : q < bn B) (P : Post (nI (fr (bL B q) (bZ B q)))) : wp_X9_there s (nI q) Post := by
  have hn := w.2.2.1
  refine r_of ⟨vp_in_nI (by omega) (by decide), ?_⟩
  rintro _ rfl
  rw [nI_clamp (by omega), (h.q hq).2.2.1]
  exact ⟨25, rl_there h w hq P 24 0 (by omega)⟩
theorem tA_all : tA B (lvs B) = sumF (fun q => fr (bL B q) (bZ B q)) (bn B) := by
  unfold tA
  refine sumF_congr _ (fun q hq => ?_)
  have h1 : sumF (bZ B) (q + 1) ≤ lvs B := sumF_mono (by omega)
  rw [sumF] at h1
  congr 1
  omega
theorem rl_thereOfAll (h : MB s B) (w : WB B) (P : Post (nI (tA B (lvs B)))) : ∀ (d i : Nat), i + d = bn B → wl_X9_thereOfAll_4 s Post (d + 1) (nI (sumF (fun q => fr (bL B q) (bZ B q)) i)) (nI i) := by
  have hn := w.2.2.1
  rw [tA_all] at P
  intro d
  induction d with
  | zero =>
    intro i hd
    refine rd (Q := fun v => (v ≤ nI i → Post _) ∧ (¬ v ≤ nI i → _)) h.2.2.1 (by decide) (pk_le (bn B) i (fun _ => ?_) (fun c => absurd c (by omega)))
    rw [show i = bn B by omega]
    exact P
  | succ d ih =>
    intro i hd
    refine rd (Q := fun v => (v ≤ nI i → Post _) ∧ (¬ v ≤ nI i → _)) h.2.2.1 (by decide) (pk_le (bn B) i (fun c => absurd c (by omega)) (fun _ => r_there h w (by omega) ?_))
    rintro _ rfl
    rw [nI_add, nI_add]
    exact ih (i + 1) (by omega)
theorem r_thereOfAll (h : MB s B) (w : WB B) (P : Post (nI (tA B (lvs B)))) : wp_X9_thereOfAll s Post := ⟨bn B + 1, rl_thereOfAll h w P (bn B) 0 (by omega)⟩
theorem sumF_bump {f g : Nat → Nat} {q c : Nat} : ∀ n, q < n → (∀ i, i < n → i ≠ q → f i = g i) → f q + c = g q → sumF f n + c = sumF g n
  | 0, h, _, _ => absurd h (Nat.not_lt_zero _)
  | n + 1, h, h1, h2 => by
    rw [sumF, sumF]
    by_cases e : q = n
    · subst e
      have := sumF_congr (f := f) (g := g) q (fun j hj => h1 j (by omega) (by omega))
      omega
    · have := sumF_bump (f := f) (g := g) n (by omega) (fun i hi hn => h1 i (by omega) hn) h2
      have h3 := h1 n (by omega) (fun z => e z.symm)
      omega
/-- one leaf more -/
theorem tA_step (w : WB B) {q j : Nat} (hq : InQ B q j) : tA B j + (1 - bitn (bL B q) (j - sumF (bZ B) q)) = tA B (j + 1) := by
  obtain ⟨q1, q2, q3⟩ := hq
  unfold tA
  refine sumF_bump (q := q) (bn B) q1 (fun i hi hne => ?_) ?_
  · rcases Nat.lt_or_ge i q with c | c
    · have h1 : sumF (bZ B) (i + 1) ≤ sumF (bZ B) q := sumF_mono (by omega)
      rw [sumF] at h1
      congr 1
      omega
    · have h1 : sumF (bZ B) (q + 1) ≤ sumF (bZ B) i := sumF_mono (by omega)
      congr 1
      omega
  · rw [sumF] at q3
    rw [show min (bZ B q) (j - sumF (bZ B) q) = j - sumF (bZ B) q by omega, show min (bZ B q) (j + 1 - sumF (bZ B) q) = j - sumF (bZ B) q + 1 by omega]
    unfold fr
    rw [sumF]
theorem tA_0 : tA B 0 = 0 := by
  unfold tA
  refine sumF_zero _ (fun q _ => ?_)
  rw [Nat.zero_sub, Nat.min_zero]
  rfl
theorem rl_thereAhead (h : MB s B) (w : WB B) {j : Nat} (hj : j ≤ lvs B) (P : Post (nI (tA B j))) : ∀ (d i : Nat), i + d = j → wl_X9_thereAhead_4 s (nI j) Post (d + 1) (nI (tA B i)) (nI i) := by
  have hn := w.lvs
  intro d
  induction d with
  | zero =>
    intro i hd
    refine pk_le j i (fun _ => ?_) (fun c => absurd c (by omega))
    rw [show i = j by omega]
    exact P
  | succ d ih =>
    intro i hd
    obtain ⟨q, hq⟩ := inQ_ex (B := B) (bn B) (Nat.le_refl _) i (show i < lvs B by omega)
    have hst := tA_step w hq
    have hb := bitn_le (bL B q) (i - sumF (bZ B) q)
    refine pk_le j i (fun c => absurd c (by omega)) (fun _ => r_isLost h w hq (b_z (fun e => ?_) (fun e => ?_) (by omega)))
    · rintro _ rfl
      rw [nI_add, nI_add]
      have := ih (i + 1) (by omega)
      rw [← hst, e] at this
      exact this
    · rintro _ rfl
      rw [nI_add, nI_add]
      have := ih (i + 1) (by omega)
      rw [← hst, show bitn (bL B q) (i - sumF (bZ B) q) = 1 by omega] at this
      exact this
theorem r_thereAhead (h : MB s B) (w : WB B) {j : Nat} (hj : j ≤ lvs B) (P : Post (nI (tA B j))) : wp_X9_thereAhead s (nI j) Post := by
  have := rl_thereAhead h w hj P j 0 (by omega)
  rw [tA_0] at this
  exact ⟨j + 1, this⟩
theorem rl_sameAhead (h : MB s B) (w : WB B) {q : Nat} (hq : q < bn B) (P : Post (nI (sumF (fun j => if bS B j = bS B q then 1 else 0) q))) : ∀ (d i : Nat), i + d = q → wl_X9_sameAhead_4 s (nI q) Post (d + 1) (nI (sumF (fun j => if bS B j = bS B q then 1 else 0) i)) (nI i) := by
  have hn := w.2.2.1
  intro d
  induction d with
  | zero =>
    intro i hd
    refine pk_le q i (fun _ => ?_) (fun c => absurd c (by omega))
    rw [show i = q by omega]
    exact P
  | succ d ih =>
    intro i hd
    refine pk_le q i (fun c => absurd c (by omega)) (fun _ => r_areSame h w (by omega) hq (fun e => ⟨fun z => absurd z (by decide), fun _ => ?_⟩) (fun e => ⟨fun _ => ?_, fun z => absurd nI_0 z⟩))
    · rintro _ rfl
      rw [nI_add, nI_add]
      have := ih (i + 1) (by omega)
      rw [sumF, if_pos e] at this
      exact this
    · rintro _ rfl
      rw [nI_add, nI_add]
      have := ih (i + 1) (by omega)
      rw [sumF, if_neg e] at this
      exact this
theorem r_sameAhead (h : MB s B) (w : WB B) {q : Nat} (hq : q < bn B) (P : Post (nI (sumF (fun j => if bS B j = bS B q then 1 else 0) q))) : wp_X9_sameAhead s (nI q) Post := ⟨q + 1, rl_sameAhead h w hq P q 0 (by omega)⟩
end rq
