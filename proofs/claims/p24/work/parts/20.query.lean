/-! what is told of a book, on both sides -/
theorem x_quires {B : BkA} {r : RowT} {Post : Int32 → Prop} (h : RowN 40 (bn B) (bS B) r) (P : Post (nI (bn B))) : wp_X1_quires r Post := s_length h P
theorem xl_firstLeaf {B : BkA} {r : RowT} {q : Nat} {Post : Int32 → Prop} (w : WB B) (h : RowN 40 (bn B) (bZ B) r) (hq : q ≤ bn B) (P : Post (nI (sumF (bZ B) q))) : ∀ (d i : Nat), i + d = q → wl_X1_firstLeaf_4 r (nI q) Post (d + 1) (nI (sumF (bZ B) i)) (nI i) := by
  have hn := w.2.2.1
  intro d
  induction d with
  | zero =>
    intro i hd
    refine pk_le q i (fun _ => ?_) (fun c => absurd c (by omega))
    rw [show i = q by omega]
    exact P
  | succ d ih =>
    intro i hd
    refine pk_le q i (fun c => absurd c (by omega)) (fun _ => s_at h i (by omega) ?_)
    rintro _ rfl
    rw [nI_add, nI_add]
    exact ih (i + 1) (by omega)
theorem x_firstLeaf {B : BkA} {r : RowT} {q : Nat} {Post : Int32 → Prop} (w : WB B) (h : RowN 40 (bn B) (bZ B) r) (hq : q ≤ bn B) (P : Post (nI (sumF (bZ B) q))) : wp_X1_firstLeaf r (nI q) Post := ⟨q + 1, xl_firstLeaf w h hq P q 0 (by omega)⟩
abbrev lvs (B : BkA) : Nat := sumF (bZ B) (bn B)
theorem WB.lvs {B : BkA} (w : WB B) : lvs B ≤ 960 := w.sum (Nat.le_refl _)
theorem x_leaves {B : BkA} {r r2 : RowT} {Post : Int32 → Prop} (w : WB B) (h : RowN 40 (bn B) (bS B) r) (h2 : RowN 40 (bn B) (bZ B) r2) (P : Post (nI (lvs B))) : wp_X1_leaves r r2 Post := x_quires h (x_firstLeaf w h2 (Nat.le_refl _) P)
def sgN (sg z : Nat) : Nat := if sg = 0 then (z + 1) / 2 else if sg = 1 then min ((z + 1) / 2 + 1) z else z
theorem x_signedIn {B : BkA} {r : RowT} {q : Nat} {Post : Int32 → Prop} (w : WB B) (h : RowN 40 (bn B) (bZ B) r) (hq : q < bn B) (P : Post (nI (sgN (bsg B) (bZ B q)))) : wp_X1_signedIn (nI (bsg B)) r (nI q) Post := by
  have hz := w.2.2.2.2.1 q hq
  have hs := w.2.1
  refine s_at h q hq ?_
  rintro _ rfl
  rw [nI_add, pk_div (by omega) (by decide) (by decide)]
  refine b_z (fun e => ?_) (fun e => pk_eq (bsg B) 1 (fun e1 => ?_) (fun e1 => ?_)) (by omega)
  · rw [sgN, if_pos e] at P
    exact P
  · rw [sgN, if_neg e, if_pos e1] at P
    rw [nI_add]
    by_cases hlt : bZ B q < (bZ B q + 1) / 2 + 1
    · rw [if_pos ((nI_ltI (by omega) (by omega)).mpr hlt)]
      rw [Nat.min_eq_right (by omega)] at P
      exact P
    · rw [if_neg (fun c => hlt ((nI_ltI (by omega) (by omega)).mp c))]
      rw [Nat.min_eq_left (by omega)] at P
      exact P
  · rw [sgN, if_neg e, if_neg e1] at P
    exact P
abbrev sgd (B : BkA) : Nat := sumF (fun j => sgN (bsg B) (bZ B j)) (bn B)
theorem sgN_le (sg z : Nat) (hz : 1 ≤ z) : sgN sg z ≤ z := by
  unfold sgN
  by_cases h0 : sg = 0
  · rw [if_pos h0]; omega
  · rw [if_neg h0]
    by_cases h1 : sg = 1
    · rw [if_pos h1]; omega
    · rw [if_neg h1]; omega
theorem xl_signedLeaves {B : BkA} {r r2 : RowT} {Post : Int32 → Prop} (w : WB B) (h : RowN 40 (bn B) (bS B) r) (h2 : RowN 40 (bn B) (bZ B) r2) (P : Post (nI (sgd B))) : ∀ (d i : Nat), i + d = bn B → wl_X1_signedLeaves_4 (nI (bsg B)) r r2 Post (d + 1) (nI (sumF (fun j => sgN (bsg B) (bZ B j)) i)) (nI i) := by
  have hn := w.2.2.1
  intro d
  induction d with
  | zero =>
    intro i hd
    refine x_quires h (pk_le (bn B) i (fun _ => ?_) (fun c => absurd c (by omega)))
    rw [show i = bn B by omega]
    exact P
  | succ d ih =>
    intro i hd
    refine x_quires h (pk_le (bn B) i (fun c => absurd c (by omega)) (fun _ => x_signedIn w h2 (by omega) ?_))
    rintro _ rfl
    rw [nI_add, nI_add]
    exact ih (i + 1) (by omega)
theorem x_signedLeaves {B : BkA} {r r2 : RowT} {Post : Int32 → Prop} (w : WB B) (h : RowN 40 (bn B) (bS B) r) (h2 : RowN 40 (bn B) (bZ B) r2) (P : Post (nI (sgd B))) : wp_X1_signedLeaves (nI (bsg B)) r r2 Post := ⟨bn B + 1, xl_signedLeaves w h h2 P (bn B) 0 (by omega)⟩
theorem x_isStarred {s : Nat} {Post : Int32 → Prop} (hs : s < 1000) (P0 : s < 78 → Post (nI 0)) (P1 : 78 ≤ s → Post (nI 1)) : wp_X5_isStarred (nI s) Post := pk_lt s 78 P0 P1
theorem x_times {s : Nat} {Post : Int32 → Prop} (hs : s < 1000) (P : Post (nI (tmS s))) : wp_X5_times (nI s) Post := by
  unfold tmS at P
  refine x_isStarred hs (fun h => ⟨fun _ => ?_, fun q => absurd nI_0 q⟩) (fun h => ⟨fun q => absurd q (by decide), fun _ => ?_⟩)
  · rw [if_pos h] at P
    rw [pk_div (by omega) (by decide) (by decide), nI_add]
    exact P
  · rw [if_neg (by omega)] at P
    rw [pk_sub h, nI_add, show s - 78 + 1 = s - 77 by omega]
    exact P
/-- the last quire of letters ahead of a place -/
def lastL (S : Nat → Nat) : Nat → Option Nat
  | 0 => none
  | q + 1 => if S q < 78 then some q else lastL S q
theorem lastL_some {S : Nat → Nat} : ∀ {q k : Nat}, lastL S q = some k → k < q ∧ S k < 78
  | 0, k, h => by cases h
  | q + 1, k, h => by
    rw [lastL] at h
    by_cases hq : S q < 78
    · rw [if_pos hq] at h
      cases h
      exact ⟨by omega, hq⟩
    · rw [if_neg hq] at h
      have := lastL_some h
      exact ⟨by omega, this.2⟩
def lastV (S : Nat → Nat) (o : Option Nat) : Int32 := match o with
  | some k => nI (S k)
  | none => -1
theorem xl_lastLettersAhead {B : BkA} {r : RowT} {Post : Int32 → Prop} (w : WB B) (h : RowN 40 (bn B) (bS B) r) : ∀ (q : Nat), q ≤ bn B → Post (lastV (bS B) (lastL (bS B) q)) → wl_X1_lastLettersAhead_4 r Post (q + 1) (nI q - nI 1) := by
  have hn := w.2.2.1
  intro q
  induction q with
  | zero =>
    intro _ P
    exact ⟨fun _ => P, fun c => absurd (by decide) c⟩
  | succ q ih =>
    intro hq P
    have hs := w.2.2.2.1 q (by omega)
    rw [pk_sub (by omega), Nat.add_sub_cancel]
    refine b_neg (s_at h q (by omega) (x_isStarred (by omega) (fun hl => ⟨fun _ => s_at h q (by omega) ?_, fun z => absurd nI_0 z⟩) (fun hl => ⟨fun z => absurd z (by decide), fun _ => ?_⟩)))
    · rw [lastL, if_pos hl] at P
      exact P
    · rw [lastL, if_neg (by omega)] at P
      have e : nI q + -1 = nI q - nI 1 := by
        rw [Int32.sub_eq_add_neg]
        rfl
      rw [e]
      exact ih (by omega) P
theorem x_lastLettersAhead {B : BkA} {r : RowT} {q : Nat} {Post : Int32 → Prop} (w : WB B) (h : RowN 40 (bn B) (bS B) r) (hq : q ≤ bn B) (P : Post (lastV (bS B) (lastL (bS B) q))) : wp_X1_lastLettersAhead r (nI q) Post := by
  unfold wp_X1_lastLettersAhead
  rintro _ rfl
  exact ⟨q + 1, xl_lastLettersAhead w h q hq P⟩
theorem x_hasQuire {B : BkA} {r : RowT} {p : Int32} {Post : Int32 → Prop} (w : WB B) (h : RowN 40 (bn B) (bS B) r) (P0 : (∀ j, j < bn B → p ≠ nI j) → Post (nI 0)) (P1 : ∀ j, j < bn B → p = nI j → Post (nI 1)) : wp_X1_hasQuire r p Post := by
  have hn := w.2.2.1
  unfold wp_X1_hasQuire
  rcases pk_ix p (n := bn B) (by omega) with c | c | ⟨j, hj, rfl⟩
  · exact ⟨fun _ => P0 (fun j hj e => nI_pos (n := j) (by omega) (by rw [← e]; exact c)), fun z => absurd c z⟩
  · have P := P0 (fun j hj e => nI_ge hj (by omega) (by rw [← e]; exact c))
    exact ⟨fun _ => P, fun _ => x_quires h ⟨fun _ => P, fun z => absurd c z⟩⟩
  · exact b_neg (x_quires h (pk_le (bn B) j (fun c => absurd c (by omega)) (fun _ => P1 j hj rfl)))
theorem x_hasLeaf {B : BkA} {r r2 : RowT} {p : Int32} {Post : Int32 → Prop} (w : WB B) (h : RowN 40 (bn B) (bS B) r) (h2 : RowN 40 (bn B) (bZ B) r2) (P0 : (∀ j, j < lvs B → p ≠ nI j) → Post (nI 0)) (P1 : ∀ j, j < lvs B → p = nI j → Post (nI 1)) : wp_X1_hasLeaf r r2 p Post := by
  have hn := w.lvs
  unfold wp_X1_hasLeaf
  rcases pk_ix p (n := lvs B) (by omega) with c | c | ⟨j, hj, rfl⟩
  · exact ⟨fun _ => P0 (fun j hj e => nI_pos (n := j) (by omega) (by rw [← e]; exact c)), fun z => absurd c z⟩
  · have P := P0 (fun j hj e => nI_ge hj (by omega) (by rw [← e]; exact c))
    exact ⟨fun _ => P, fun _ => x_leaves w h h2 ⟨fun _ => P, fun z => absurd c z⟩⟩
  · exact b_neg (x_leaves w h h2 (pk_le (lvs B) j (fun c => absurd c (by omega)) (fun _ => P1 j hj rfl)))
/-- a leaf's quire -/
def InQ (B : BkA) (q j : Nat) : Prop := q < bn B ∧ sumF (bZ B) q ≤ j ∧ j < sumF (bZ B) (q + 1)
theorem inQ_ex {B : BkA} : ∀ (n : Nat), n ≤ bn B → ∀ j, j < sumF (bZ B) n → ∃ q, InQ B q j
  | 0, _, j, h => absurd h (Nat.not_lt_zero _)
  | n + 1, hn, j, h => by
    by_cases hj : j < sumF (bZ B) n
    · exact inQ_ex n (by omega) j hj
    · exact ⟨n, by omega, by omega, h⟩
theorem xl_quireOf {B : BkA} {r r2 : RowT} {q j : Nat} {Post : Int32 → Prop} (w : WB B) (h : RowN 40 (bn B) (bS B) r) (h2 : RowN 40 (bn B) (bZ B) r2) (hq : InQ B q j) (P : Post (nI q)) : ∀ (d i : Nat), i + d = q → wl_X1_quireOf_11 r r2 (nI j) Post (d + 1) (nI i) (nI (sumF (bZ B) (i + 1))) := by
  have hn := w.2.2.1
  have hm := w.sum (Nat.le_refl (bn B))
  obtain ⟨q1, q2, q3⟩ := hq
  have hj : j < 961 := by have := w.sum (q := q + 1) (by omega); omega
  intro d
  induction d with
  | zero =>
    intro i hd
    have hs := w.sum (q := i + 1) (by omega)
    refine x_quires h ?_
    rw [pk_sub (by omega)]
    refine pk_le (bn B - 1) i (fun _ => by rw [show i = q by omega]; exact P) (fun _ => pk_lt j (sumF (bZ B) (i + 1)) (fun _ => by rw [show i = q by omega]; exact P) (fun c => absurd c (by rw [show i = q by omega]; omega)))
  | succ d ih =>
    intro i hd
    have hs := w.sum (q := i + 1) (by omega)
    have hmono : sumF (bZ B) (i + 1) ≤ sumF (bZ B) q := sumF_mono (by omega)
    refine x_quires h ?_
    rw [pk_sub (by omega)]
    refine pk_le (bn B - 1) i (fun c => absurd c (by omega)) (fun _ => pk_lt j (sumF (bZ B) (i + 1)) (fun c => absurd c (by omega)) (fun _ => ?_))
    rw [nI_add]
    refine s_at h2 (i + 1) (by omega) ?_
    rintro _ rfl
    rw [nI_add]
    exact ih (i + 1) (by omega)
theorem x_quireOf {B : BkA} {r r2 : RowT} {q j : Nat} {Post : Int32 → Prop} (w : WB B) (h : RowN 40 (bn B) (bS B) r) (h2 : RowN 40 (bn B) (bZ B) r2) (hq : InQ B q j) (P : Post (nI q)) : wp_X1_quireOf r r2 (nI j) Post := by
  have hn : 0 < bn B := by have := hq.1; omega
  refine s_at h2 0 hn ⟨q + 1, ?_⟩
  have := xl_quireOf w h h2 hq P q 0 (by omega)
  rw [sumF, sumF, Nat.zero_add] at this
  exact this
theorem x_numberOf {B : BkA} {r r2 : RowT} {q j : Nat} {Post : Int32 → Prop} (w : WB B) (h : RowN 40 (bn B) (bS B) r) (h2 : RowN 40 (bn B) (bZ B) r2) (hq : InQ B q j) (P : Post (nI (j - sumF (bZ B) q + 1))) : wp_X1_numberOf r r2 (nI j) Post := by
  refine x_quireOf w h h2 hq (x_firstLeaf w h2 (Nat.le_of_lt hq.1) ?_)
  rw [pk_sub hq.2.1, nI_add]
  exact P
theorem inQ_lt {B : BkA} {q j : Nat} (w : WB B) (h : InQ B q j) : j - sumF (bZ B) q < bZ B q ∧ bZ B q ≤ 24 ∧ j < lvs B := by
  obtain ⟨h1, h2, h3⟩ := h
  have hz := w.2.2.2.2.1 q h1
  have hm : sumF (bZ B) (q + 1) ≤ lvs B := sumF_mono (by omega)
  rw [sumF] at h3
  refine ⟨by omega, hz.2, ?_⟩
  rw [sumF] at hm
  omega
theorem x_isLost {B : BkA} {r r2 r3 : RowT} {q j : Nat} {Post : Int32 → Prop} (w : WB B) (h : RowN 40 (bn B) (bS B) r) (h2 : RowN 40 (bn B) (bZ B) r2) (h3 : RowN 40 (bn B) (bL B) r3) (hq : InQ B q j) (P : Post (nI (bitn (bL B q) (j - sumF (bZ B) q)))) : wp_X1_isLost r r2 r3 (nI j) Post := by
  obtain ⟨k1, k2, k3⟩ := inQ_lt w hq
  have hl := w.lost hq.1
  refine x_quireOf w h h2 hq (s_at h3 q hq.1 (x_numberOf w h h2 hq ?_))
  rw [pk_sub (by omega), Nat.add_sub_cancel, bit_at (by omega) (by omega)]
  have hb := bitn_le (bL B q) (j - sumF (bZ B) q)
  refine pk_eq _ 1 (fun e => ?_) (fun e => ?_)
  · rw [e] at P; exact P
  · rw [show bitn (bL B q) (j - sumF (bZ B) q) = 0 by omega] at P; exact P
/-- leaves that are not lost, of the first t of a quire -/
def fr (m t : Nat) : Nat := sumF (fun k => 1 - bitn m k) t
theorem fr_le (m : Nat) : ∀ t, fr m t ≤ t
  | 0 => Nat.le_refl _
  | t + 1 => by
    have := fr_le m t
    unfold fr at this ⊢
    rw [sumF]
    omega
theorem x_thereIn {B : BkA} {r2 r3 : RowT} {q : Nat} {Post : Int32 → Prop} (w : WB B) (h2 : RowN 40 (bn B) (bZ B) r2) (h3 : RowN 40 (bn B) (bL B) r3) (hq : q < bn B) (P : Post (nI (fr (bL B q) (bZ B q)))) : wp_X1_thereIn r2 r3 (nI q) Post := by
  have hl := w.lost hq
  have hz := w.2.2.2.2.1 q hq
  refine s_at h2 q hq (s_at h3 q hq (s_bitCount (by omega) ?_))
  have h5 := pop_low (n := bZ B q) (by omega) (w.2.2.2.2.2.1 q hq)
  have h6 := sumF_compl (bitn (bL B q)) (bitn_le _) (bZ B q)
  rw [h5, pk_sub (by omega)]
  rw [show bZ B q - sumF (bitn (bL B q)) (bZ B q) = fr (bL B q) (bZ B q) by unfold fr; omega]
  exact P
def tA (B : BkA) (j : Nat) : Nat := sumF (fun q => fr (bL B q) (min (bZ B q) (j - sumF (bZ B) q))) (bn B)
theorem max_sub {j f : Nat} (hj : j < 2 ^ 30) (hf : f < 2 ^ 30) : (if nI j - nI f < nI 0 then nI 0 else nI j - nI f) = nI (j - f) := by
  by_cases h : f ≤ j
  · rw [pk_sub h, if_neg (by rw [nI_ltI (by omega) (by decide)]; omega)]
  · rw [if_pos (by rw [nI_0]; exact pk_sneg hf (by omega)), show j - f = 0 by omega]
theorem min_nI {a z : Nat} (ha : a < 2 ^ 31) (hz : z < 2 ^ 31) : (if nI a < nI z then nI a else nI z) = nI (min z a) := by
  by_cases h : a < z
  · rw [if_pos ((nI_ltI ha hz).mpr h), Nat.min_eq_right (by omega)]
  · rw [if_neg (fun c => h ((nI_ltI ha hz).mp c)), Nat.min_eq_left (by omega)]
theorem bitn_mod {m t k : Nat} (h : k < t) : bitn (m % 2 ^ t) k = bitn m k := by
  unfold bitn
  have e : 2 ^ t = 2 ^ k * 2 ^ (t - k) := by rw [← Nat.pow_add]; congr 1; omega
  rw [e, Nat.mod_mul_right_div_self]
  have e2 : 2 ^ (t - k) = 2 * 2 ^ (t - k - 1) := by rw [← Nat.pow_succ']; congr 1; omega
  rw [e2, Nat.mod_mul_right_mod]
theorem xl_thereAhead {B : BkA} {r r2 r3 : RowT} {j : Nat} {Post : Int32 → Prop} (w : WB B) (h : RowN 40 (bn B) (bS B) r) (h2 : RowN 40 (bn B) (bZ B) r2) (h3 : RowN 40 (bn B) (bL B) r3) (hj : j < 2 ^ 30) (P : Post (nI (tA B j))) : ∀ (d i : Nat), i + d = bn B → wl_X1_thereAhead_7 r r2 r3 (nI j) Post (d + 1) (nI (sumF (fun q => fr (bL B q) (min (bZ B q) (j - sumF (bZ B) q))) i)) (nI (sumF (bZ B) i)) (nI i) := by
  have hn := w.2.2.1
  intro d
  induction d with
  | zero =>
    intro i hd
    refine x_quires h (pk_le (bn B) i (fun _ => ?_) (fun c => absurd c (by omega)))
    rw [show i = bn B by omega]
    exact P
  | succ d ih =>
    intro i hd
    have hz := w.2.2.2.2.1 i (by omega)
    have hl := w.lost (j := i) (by omega)
    have hs := w.sum (q := i) (by omega)
    refine x_quires h (pk_le (bn B) i (fun c => absurd c (by omega)) (fun _ => s_at h2 i (by omega) ?_))
    rintro _ rfl
    rw [max_sub hj (by omega), min_nI (by omega) (by omega)]
    refine s_at h3 i (by omega) ?_
    generalize ht : min (bZ B i) (j - sumF (bZ B) i) = t
    have ht2 : t ≤ 24 := by omega
    have hp1 : 1 ≤ 2 ^ t := Nat.one_le_two_pow
    rw [one_shl (by omega), pk_sub hp1, nI_and, Nat.and_two_pow_sub_one_eq_mod]
    have hlt : bL B i % 2 ^ t < 2 ^ t := Nat.mod_lt _ (by omega)
    refine s_bitCount (Nat.lt_of_lt_of_le hlt (Nat.pow_le_pow_right (by decide) (by omega))) ?_
    have h5 := pop_low (n := t) (by omega) hlt
    have h5b : sumF (bitn (bL B i % 2 ^ t)) t = sumF (bitn (bL B i)) t := sumF_congr t (fun k hk => bitn_mod hk)
    have h6 := sumF_compl (bitn (bL B i)) (bitn_le _) t
    rw [h5, h5b, pk_sub (by omega), show t - sumF (bitn (bL B i)) t = fr (bL B i) t by unfold fr; omega]
    rintro _ rfl
    rintro _ rfl
    rw [nI_add, nI_add, nI_add]
    have := ih (i + 1) (by omega)
    rw [sumF, sumF] at this
    simp only [ht] at this
    exact this
theorem x_thereAhead {B : BkA} {r r2 r3 : RowT} {j : Nat} {Post : Int32 → Prop} (w : WB B) (h : RowN 40 (bn B) (bS B) r) (h2 : RowN 40 (bn B) (bZ B) r2) (h3 : RowN 40 (bn B) (bL B) r3) (hj : j < 2 ^ 30) (P : Post (nI (tA B j))) : wp_X1_thereAhead r r2 r3 (nI j) Post := ⟨bn B + 1, xl_thereAhead w h h2 h3 hj P (bn B) 0 (by omega)⟩
theorem x_leavesThere {B : BkA} {r r2 r3 : RowT} {Post : Int32 → Prop} (w : WB B) (h : RowN 40 (bn B) (bS B) r) (h2 : RowN 40 (bn B) (bZ B) r2) (h3 : RowN 40 (bn B) (bL B) r3) (P : Post (nI (tA B (lvs B)))) : wp_X1_leavesThere r r2 r3 Post := by
  have hs := w.lvs
  exact x_leaves w h h2 (x_thereAhead w h h2 h3 (by omega) P)
theorem xl_sameAhead {B : BkA} {r : RowT} {q : Nat} {Post : Int32 → Prop} (w : WB B) (h : RowN 40 (bn B) (bS B) r) (hq : q < bn B) (P : Post (nI (sumF (fun j => if bS B j = bS B q then 1 else 0) q))) : ∀ (d i : Nat), i + d = q → wl_X1_sameAhead_4 r (nI q) Post (d + 1) (nI (sumF (fun j => if bS B j = bS B q then 1 else 0) i)) (nI i) := by
  have hn := w.2.2.1
  intro d
  induction d with
  | zero =>
    intro i hd
    refine pk_le q i (fun _ => ?_) (fun c => absurd c (by omega))
    rw [show i = q by omega]
    exact P
  | succ d ih =>
    intro i hd
    have h1 := w.2.2.2.1 i (by omega)
    have h2 := w.2.2.2.1 q hq
    refine pk_le q i (fun c => absurd c (by omega)) (fun _ => s_at h i (by omega) (s_at h q hq (pk_eq (bS B i) (bS B q) (fun e => ?_) (fun e => ?_))))
    · rw [nI_add, nI_add]
      have := ih (i + 1) (by omega)
      rw [sumF, if_pos e] at this
      exact this
    · rw [nI_add]
      have := ih (i + 1) (by omega)
      rw [sumF, if_neg e] at this
      exact this
theorem x_sameAhead {B : BkA} {r : RowT} {q : Nat} {Post : Int32 → Prop} (w : WB B) (h : RowN 40 (bn B) (bS B) r) (hq : q < bn B) (P : Post (nI (sumF (fun j => if bS B j = bS B q then 1 else 0) q))) : wp_X1_sameAhead r (nI q) Post := ⟨q + 1, xl_sameAhead w h hq P q 0 (by omega)⟩
theorem xl_starredQuires {B : BkA} {r : RowT} {Post : Int32 → Prop} (w : WB B) (h : RowN 40 (bn B) (bS B) r) (P : Post (nI (sumF (fun j => if bS B j < 78 then 0 else 1) (bn B)))) : ∀ (d i : Nat), i + d = bn B → wl_X1_starredQuires_4 r Post (d + 1) (nI (sumF (fun j => if bS B j < 78 then 0 else 1) i)) (nI i) := by
  have hn := w.2.2.1
  intro d
  induction d with
  | zero =>
    intro i hd
    refine x_quires h (pk_le (bn B) i (fun _ => ?_) (fun c => absurd c (by omega)))
    rw [show i = bn B by omega]
    exact P
  | succ d ih =>
    intro i hd
    have h1 := w.2.2.2.1 i (by omega)
    refine x_quires h (pk_le (bn B) i (fun c => absurd c (by omega)) (fun _ => s_at h i (by omega) (x_isStarred (by omega) (fun e => ⟨fun _ => ?_, fun z => absurd nI_0 z⟩) (fun e => ⟨fun z => absurd z (by decide), fun _ => ?_⟩))))
    · rw [nI_add]
      have := ih (i + 1) (by omega)
      rw [sumF, if_pos e] at this
      exact this
    · rw [nI_add, nI_add]
      have := ih (i + 1) (by omega)
      rw [sumF, if_neg (by omega)] at this
      exact this
theorem x_starredQuires {B : BkA} {r : RowT} {Post : Int32 → Prop} (w : WB B) (h : RowN 40 (bn B) (bS B) r) (P : Post (nI (sumF (fun j => if bS B j < 78 then 0 else 1) (bn B)))) : wp_X1_starredQuires r Post := ⟨bn B + 1, xl_starredQuires w h P (bn B) 0 (by omega)⟩
