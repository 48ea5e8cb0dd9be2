/-! what a book is: its alphabet's mask, signing, quires (sign, size, lost leaves as bits), pile (rising) -/
abbrev BkA : Type := Nat × Nat × Nat × (Nat → Nat) × (Nat → Nat) × (Nat → Nat) × Nat × (Nat → Nat)
abbrev bal (B : BkA) : Nat := B.1
abbrev bsg (B : BkA) : Nat := B.2.1
abbrev bn (B : BkA) : Nat := B.2.2.1
abbrev bS (B : BkA) : Nat → Nat := B.2.2.2.1
abbrev bZ (B : BkA) : Nat → Nat := B.2.2.2.2.1
abbrev bL (B : BkA) : Nat → Nat := B.2.2.2.2.2.1
abbrev bpn (B : BkA) : Nat := B.2.2.2.2.2.2.1
abbrev bP (B : BkA) : Nat → Nat := B.2.2.2.2.2.2.2
def WB (B : BkA) : Prop := bal B < 2 ^ 26 ∧ bsg B ≤ 2 ∧ bn B ≤ 40 ∧ (∀ j, j < bn B → bS B j < 83) ∧ (∀ j, j < bn B → 1 ≤ bZ B j ∧ bZ B j ≤ 24) ∧ (∀ j, j < bn B → bL B j < 2 ^ (bZ B j)) ∧ bpn B ≤ 12 ∧ (∀ i j, i < j → j < bpn B → bP B i < bP B j) ∧ (∀ j, j < bpn B → bP B j < sumF (bZ B) (bn B))
def XB (b : BookT) (B : BkA) : Prop := b.1 = nI (bal B) ∧ b.2.1 = nI (bsg B) ∧ RowN 40 (bn B) (bS B) b.2.2.1 ∧ RowN 40 (bn B) (bZ B) b.2.2.2.1 ∧ RowN 40 (bn B) (bL B) b.2.2.2.2.1 ∧ RowN 12 (bpn B) (bP B) b.2.2.2.2.2
def tmS (s : Nat) : Nat := if s < 78 then s / 26 + 1 else s - 77
def ltS (s : Nat) : Int32 := if s < 78 then nI (s % 26) else -1
def MB (s : Nat → Int32) (B : BkA) : Prop := s 0 = nI (bal B) ∧ s 1 = nI (bsg B) ∧ s 2 = nI (bn B) ∧ (∀ j, j < bn B → s (3 + 4 * j + 0) = nI (tmS (bS B j)) ∧ s (3 + 4 * j + 1) = ltS (bS B j) ∧ s (3 + 4 * j + 2) = nI (bZ B j) ∧ s (3 + 4 * j + 3) = nI (bL B j)) ∧ s 163 = nI (bpn B) ∧
  (∀ j, j < bpn B → ∃ i, i < bpn B ∧ s (164 + j) = nI (bP B i)) ∧ (∀ i, i < bpn B → ∃ j, j < bpn B ∧ s (164 + j) = nI (bP B i))
theorem lost_lt {m z : Nat} (h : m < 2 ^ z) (hz : z ≤ 24) : m < 2 ^ 24 := Nat.lt_of_lt_of_le h (Nat.pow_le_pow_right (by decide) hz)
theorem WB.lost {B : BkA} (w : WB B) {j : Nat} (hj : j < bn B) : bL B j < 2 ^ 24 := lost_lt (w.2.2.2.2.2.1 j hj) (w.2.2.2.2.1 j hj).2
theorem WB.sum {B : BkA} (w : WB B) {q : Nat} (hq : q ≤ bn B) : sumF (bZ B) q ≤ 960 := by
  have h1 := sumF_le (f := bZ B) (c := 24) q (fun j hj => (w.2.2.2.2.1 j (by omega)).2)
  have h2 := w.2.2.1
  omega
/-! the alphabet -/
theorem bitn_hi0 {a k n : Nat} (ha : a < 2 ^ n) (hk : n ≤ k) : bitn a k = 0 := by
  unfold bitn
  have h : 2 ^ n ≤ 2 ^ k := Nat.pow_le_pow_right (by decide) hk
  rw [Nat.div_eq_of_lt (by omega)]
def lettersN (a : Nat) : Nat := sumF (fun l => 1 - bitn a l) 26
theorem sumF_compl (f : Nat → Nat) (hf : ∀ j, f j ≤ 1) : ∀ n, sumF (fun j => 1 - f j) n + sumF f n = n
  | 0 => rfl
  | n + 1 => by
    have h := sumF_compl f hf n
    have h1 := hf n
    rw [sumF, sumF]
    omega
theorem pop_low {a n : Nat} (hn : n ≤ 32) (ha : a < 2 ^ n) : pop a = sumF (bitn a) n := by
  unfold pop
  rw [show 32 = n + (32 - n) by omega, sumF_add, sumF_zero (f := fun j => bitn a (n + j)) _ (fun j _ => bitn_hi0 ha (Nat.le_add_right _ _))]
  rfl
theorem x_has {a l : Nat} {Post : Int32 → Prop} (ha : a < 2 ^ 31) (hl : l < 26) (P0 : bitn a l = 0 → Post (nI 1)) (P1 : bitn a l = 1 → Post (nI 0)) : wp_X0_has (nI a) (nI l) Post := by
  unfold wp_X0_has
  rw [bit_at ha (by omega)]
  have hb := bitn_le a l
  exact b_neg (pk_le 26 l (fun c => absurd c (by omega)) (fun _ => b_z (fun h => P0 h) (fun h => P1 (by omega)) (by omega)))
theorem x_has_out {a : Nat} {p : Int32} {Post : Int32 → Prop} (h : p < 0 ∨ nI 26 ≤ p) (P : Post (nI 0)) : wp_X0_has (nI a) p Post := by
  unfold wp_X0_has
  refine ⟨fun _ => P, fun h1 => ⟨fun _ => P, fun h2 => ?_⟩⟩
  exact absurd h (fun q => q.elim h1 h2)
theorem x_letters {a : Nat} {Post : Int32 → Prop} (ha : a < 2 ^ 26) (P : Post (nI (lettersN a))) : wp_X0_letters (nI a) Post := by
  unfold wp_X0_letters
  refine s_bitCount (by omega) ?_
  have h1 := pop_low (n := 26) (by decide) ha
  have h2 := sumF_compl (bitn a) (bitn_le a) 26
  rw [h1, pk_sub (by omega)]
  have e : 26 - sumF (bitn a) 26 = lettersN a := by
    unfold lettersN
    omega
  rw [e]
  exact P
theorem x_letter {s : Nat} {Post : Int32 → Prop} (h : s < 2 ^ 31) (P : Post (nI (s % 26))) : wp_X5_letter (nI s) Post := by
  unfold wp_X5_letter
  rw [pk_rem h (by decide) (by decide)]
  exact P
/-- from s on, the first sign of letters that is not left out; 78 or more: none -/
def nxt (a : Nat) : Nat → Nat → Nat
  | 0, s => s
  | d + 1, s => if bitn a (s % 26) = 0 then s else nxt a d (s + 1)
def nextA (a s : Nat) : Nat := nxt a (78 - s) s
def nv (k : Nat) : Int32 := if k < 78 then nI k else -1
theorem nxt_ge (a : Nat) : ∀ d s, s ≤ nxt a d s
  | 0, s => Nat.le_refl _
  | d + 1, s => by
    rw [nxt]
    by_cases h : bitn a (s % 26) = 0
    · rw [if_pos h]; exact Nat.le_refl _
    · rw [if_neg h]
      have := nxt_ge a d (s + 1)
      omega
theorem nxt_le (a : Nat) : ∀ d s, nxt a d s ≤ s + d
  | 0, s => Nat.le_refl _
  | d + 1, s => by
    rw [nxt]
    by_cases h : bitn a (s % 26) = 0
    · rw [if_pos h]; omega
    · rw [if_neg h]
      have := nxt_le a d (s + 1)
      omega
theorem xl_nextSign {a : Nat} {Post : Int32 → Prop} (ha : a < 2 ^ 31) : ∀ (d s : Nat), 78 - s = d → s < 1000 → Post (nv (nxt a d s)) → wl_X0_nextSign_4 (nI a) Post (d + 1) (nI s) := by
  intro d
  induction d with
  | zero =>
    intro s hs hs2 P
    refine pk_le 78 s (fun _ => ?_) (fun c => absurd c (by omega))
    rw [nxt, nv, if_neg (by omega)] at P
    exact P
  | succ d ih =>
    intro s hs hs2 P
    refine pk_le 78 s (fun c => absurd c (by omega)) (fun _ => x_letter (by omega) (x_has ha (by omega) (fun h => ?_) (fun h => ?_)))
    · refine ⟨fun q => absurd q (by decide), fun _ => ?_⟩
      rw [nxt, if_pos h, nv, if_pos (by omega)] at P
      exact P
    · refine ⟨fun _ => ?_, fun q => absurd nI_0 q⟩
      rw [nI_add]
      rw [nxt, if_neg (by omega)] at P
      exact ih (s + 1) (by omega) (by omega) P
/-- nextSign of a sign told by the place behind it (0: behind none) -/
theorem x_nextSign {a s : Nat} {p : Int32} {Post : Int32 → Prop} (ha : a < 2 ^ 31) (hs : s < 1000) (hp : p + nI 1 = nI s) (P : Post (nv (nextA a s))) : wp_X0_nextSign (nI a) p Post := by
  unfold wp_X0_nextSign
  rintro _ rfl
  rw [hp]
  exact ⟨_, xl_nextSign ha _ s rfl hs P⟩
theorem m1_add : (-1 : Int32) + nI 1 = nI 0 := by decide
def btwN (a x y : Nat) : Nat := sumF (fun i => 1 - bitn a ((x + 1 + i) % 26)) (y - (x + 1))
theorem xl_signsBetween {a x y : Nat} {Post : Int32 → Prop} (ha : a < 2 ^ 31) (hy : y ≤ 78) (P : Post (nI (btwN a x y))) : ∀ (d i : Nat), x + 1 + i + d = y → wl_X0_signsBetween_7 (nI a) (nI y) Post (d + 1) (nI (sumF (fun i => 1 - bitn a ((x + 1 + i) % 26)) i)) (nI (x + 1 + i)) := by
  intro d
  induction d with
  | zero =>
    intro i hd
    refine pk_le y (x + 1 + i) (fun _ => ?_) (fun c => absurd c (by omega))
    rw [btwN, show y - (x + 1) = i by omega] at P
    exact P
  | succ d ih =>
    intro i hd
    refine pk_le y (x + 1 + i) (fun c => absurd c (by omega)) (fun _ => pk_le 78 (x + 1 + i) (fun c => absurd c (by omega)) (fun _ => x_letter (by omega) (x_has ha (by omega) (fun h => ?_) (fun h => ?_))))
    · refine ⟨fun q => absurd q (by decide), fun _ => ?_⟩
      rw [nI_add, nI_add]
      have := ih (i + 1) (by omega)
      rw [sumF, h] at this
      exact this
    · refine ⟨fun _ => ?_, fun q => absurd nI_0 q⟩
      rw [nI_add]
      have := ih (i + 1) (by omega)
      rw [sumF, h] at this
      exact this
theorem x_signsBetween {a x y : Nat} {Post : Int32 → Prop} (ha : a < 2 ^ 31) (hx : x < 1000) (hy : y ≤ 78) (P : Post (nI (btwN a x y))) : wp_X0_signsBetween (nI a) (nI x) (nI y) Post := by
  unfold wp_X0_signsBetween
  rintro _ rfl
  rw [nI_add]
  by_cases h : x + 1 ≤ y
  · exact ⟨_, xl_signsBetween ha hy P (y - (x + 1)) 0 (by omega)⟩
  · refine ⟨1, pk_le y (x + 1) (fun _ => ?_) (fun c => absurd c (by omega))⟩
    rw [btwN, show y - (x + 1) = 0 by omega] at P
    exact P
/-! the reference's own -/