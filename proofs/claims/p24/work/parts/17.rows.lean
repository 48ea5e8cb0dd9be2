/-! pure: sums, rows, bits, alphabets. From here on no machine is seen: wp's are shown out of what the rows hold -/
def sumF (f : Nat → Nat) : Nat → Nat
  | 0 => 0
  | k + 1 => sumF f k + f k
theorem sumF_le {f : Nat → Nat} {c : Nat} : ∀ n, (∀ j, j < n → f j ≤ c) → sumF f n ≤ c * n
  | 0, _ => Nat.zero_le _
  | n + 1, h => by
    have h1 := sumF_le n (fun j hj => h j (by omega))
    have h2 := h n (by omega)
    rw [sumF, Nat.mul_succ]
    omega
theorem sumF_congr {f g : Nat → Nat} : ∀ n, (∀ j, j < n → f j = g j) → sumF f n = sumF g n
  | 0, _ => rfl
  | n + 1, h => by rw [sumF, sumF, sumF_congr n (fun j hj => h j (by omega)), h n (by omega)]
theorem sumF_mono {f : Nat → Nat} {a b : Nat} (h : a ≤ b) : sumF f a ≤ sumF f b := by
  induction h with
  | refl => exact Nat.le_refl _
  | step _ ih => exact Nat.le_trans ih (Nat.le_add_right _ _)
theorem sumF_zero {f : Nat → Nat} : ∀ n, (∀ j, j < n → f j = 0) → sumF f n = 0
  | 0, _ => rfl
  | n + 1, h => by rw [sumF, sumF_zero n (fun j hj => h j (by omega)), h n (by omega)]
/-- any number of 32 bits is that of its bits -/
theorem nI_any (x : Int32) : x = nI x.toBitVec.toNat := by
  apply Int32.toBitVec_inj.mp
  apply BitVec.eq_of_toNat_eq
  rw [pk_tn (x.toBitVec.isLt)]
theorem nI_z {n : Nat} (h : n < 2 ^ 31) : (nI n = 0) ↔ n = 0 := by rw [← nI_0]; exact nI_eq h (by decide)
theorem nI_m1 {n : Nat} (h : n < 2 ^ 31) : ¬ nI n = -1 := by
  intro q
  have h1 := congrArg Int32.toInt q
  rw [nI_toInt h] at h1
  have h2 : (-1 : Int32).toInt = -1 := by decide
  omega
/-- a comparison with 0 -/
theorem b_neg {n : Nat} {A B : Prop} (b : B) (h : n < 2 ^ 31 := by omega) : (nI n < 0 → A) ∧ (¬ nI n < 0 → B) := ⟨fun c => absurd c (nI_pos h), fun _ => b⟩
theorem b_z {n : Nat} {A B : Prop} (f : n = 0 → A) (g : n ≠ 0 → B) (h : n < 2 ^ 31 := by omega) : (nI n = 0 → A) ∧ (¬ nI n = 0 → B) := ⟨fun c => f ((nI_z h).mp c), fun c => g (fun q => c ((nI_z h).mpr q))⟩
/-- rows -/
def RowN (cap n : Nat) (f : Nat → Nat) (r : RowT) : Prop := r.1 = cap ∧ r.2.2 = nI n ∧ n ≤ cap ∧ cap ≤ 1000 ∧ ∀ j, j < n → r.2.1 j = nI (f j)
theorem RowN.congr {cap n : Nat} {f g : Nat → Nat} {r : RowT} (h : RowN cap n f r) (e : ∀ j, j < n → f j = g j) : RowN cap n g r := ⟨h.1, h.2.1, h.2.2.1, h.2.2.2.1, fun j hj => by rw [← e j hj]; exact h.2.2.2.2 j hj⟩
theorem row0_ok {cap : Nat} {f : Nat → Nat} (g : Nat → Int32) (h : cap ≤ 1000) : RowN cap 0 f (cap, g, 0) := ⟨rfl, nI_0.symm, Nat.zero_le _, h, fun j hj => absurd hj (by omega)⟩
theorem s_length {cap n : Nat} {f : Nat → Nat} {r : RowT} {Post : Int32 → Prop} (h : RowN cap n f r) (P : Post (nI n)) : wp_X4_length r Post := by
  unfold wp_X4_length
  rw [h.2.1]
  exact P
theorem s_at {cap n : Nat} {f : Nat → Nat} {r : RowT} {Post : Int32 → Prop} (h : RowN cap n f r) (i : Nat) (hi : i < n) (P : Post (nI (f i))) : wp_X4_at r (nI i) Post := by
  obtain ⟨h1, h2, h3, h4, h5⟩ := h
  unfold wp_X4_at
  rw [h1, h2]
  refine b_neg (pk_le n i (fun c => absurd c (by omega)) (fun _ => pk_le cap i (fun c => absurd c (by omega)) (fun _ => ⟨vp_in_nI (by omega) (by omega), ?_⟩)))
  rw [nI_clamp (by omega), h5 i hi]
  exact P
theorem s_at_out {cap n : Nat} {f : Nat → Nat} {r : RowT} {Post : Int32 → Prop} (h : RowN cap n f r) (i : Nat) (hi : n ≤ i) (hi2 : i < 2 ^ 31) (P : Post (-1)) : wp_X4_at r (nI i) Post := by
  obtain ⟨h1, h2, h3, h4, h5⟩ := h
  unfold wp_X4_at
  rw [h1, h2]
  exact b_neg (pk_le n i (fun _ => P) (fun c => absurd c (by omega)))
def updN (f : Nat → Nat) (k x : Nat) : Nat → Nat := fun j => if j = k then x else f j
theorem s_set {cap n : Nat} {f : Nat → Nat} {r : RowT} {Post : RowT → Prop} (h : RowN cap n f r) (i : Nat) (hi : i < n) (v : Nat) (P : ∀ r2, RowN cap n (updN f i v) r2 → Post r2) : wp_X4_set r (nI i) (nI v) Post := by
  obtain ⟨h1, h2, h3, h4, h5⟩ := h
  unfold wp_X4_set
  rw [h1, h2]
  refine b_neg (pk_le n i (fun c => absurd c (by omega)) (fun _ => pk_le cap i (fun c => absurd c (by omega)) (fun _ => ⟨vp_in_nI (by omega) (by omega), P _ ⟨rfl, rfl, h3, h4, fun j hj => ?_⟩⟩)))
  rw [nI_clamp (by omega)]
  show (if j = i then nI v else r.2.1 j) = nI (if j = i then v else f j)
  by_cases hj2 : j = i
  · rw [if_pos hj2, if_pos hj2]
  · rw [if_neg hj2, if_neg hj2, h5 j hj]
def insF (f : Nat → Nat) (q x : Nat) : Nat → Nat := fun j => if j < q then f j else if j = q then x else f (j - 1)
def dropF (f : Nat → Nat) (q : Nat) : Nat → Nat := fun j => if j < q then f j else f (j + 1)
theorem sl_addAt {cap n i v : Nat} {f : Nat → Nat} {Post : RowT → Prop} (hi : i ≤ n) (P : ∀ r2, RowN cap (n + 1) (insF f i v) r2 → Post r2) : ∀ (d : Nat) (g : Nat → Nat) (z : RowT), i + d ≤ n → RowN cap (n + 1) g z → (∀ j, j ≤ i + d → j < n → g j = f j) → (∀ j, i + d < j → j ≤ n → g j = f (j - 1)) → wl_X4_addAt_42 (nI i) (nI v) Post (d + 1) z (nI (i + d)) := by
  intro d
  induction d with
  | zero =>
    intro g z hd hz h1 h2
    have hc := hz.2.2.1
    have hc2 := hz.2.2.2.1
    refine pk_le (i + 0) i (fun _ => ?_) (fun c => absurd c (by omega))
    refine s_set hz i (by omega) v (fun r2 hr => P r2 (hr.congr (fun j hj => ?_)))
    unfold updN insF
    by_cases hj1 : j < i
    · rw [if_neg (by omega), if_pos hj1, h1 j (by omega) (by omega)]
    · by_cases hj2 : j = i
      · rw [if_pos hj2, if_neg hj1, if_pos hj2]
      · rw [if_neg hj2, if_neg hj1, if_neg hj2, h2 j (by omega) (by omega)]
  | succ d ih =>
    intro g z hd hz h1 h2
    have hc := hz.2.2.1
    have hc2 := hz.2.2.2.1
    refine pk_le (i + (d + 1)) i (fun c => absurd c (by omega)) (fun _ => ?_)
    rw [pk_sub (by omega)]
    refine s_at hz _ (by omega) ?_
    refine s_set hz _ (by omega) _ (fun r2 hr => ?_)
    rw [show i + (d + 1) = (i + d) + 1 by omega, pk_m1]
    refine ih (updN g (i + (d + 1)) (g (i + (d + 1) - 1))) r2 (by omega) hr (fun j hj hjn => ?_) (fun j hj hjn => ?_)
    · unfold updN
      rw [if_neg (by omega)]
      exact h1 j (by omega) hjn
    · unfold updN
      by_cases hj2 : j = i + (d + 1)
      · rw [if_pos hj2, hj2]
        exact h1 _ (by omega) (by omega)
      · rw [if_neg hj2]
        exact h2 j (by omega) hjn
theorem s_addAt {cap n i v : Nat} {f : Nat → Nat} {r : RowT} {Post : RowT → Prop} (h : RowN cap n f r) (hi : i ≤ n) (hn : n < cap) (P : ∀ r2, RowN cap (n + 1) (insF f i v) r2 → Post r2) : wp_X4_addAt r (nI i) (nI v) Post := by
  obtain ⟨h1, h2, h3, h4, h5⟩ := h
  unfold wp_X4_addAt
  rw [h1, h2]
  refine b_neg (pk_lt n i (fun c => absurd c (by omega)) (fun _ => pk_lt n cap (fun _ => ?_) (fun c => absurd c (by omega))))
  rintro _ rfl
  rw [nI_add, pk_sub (by omega)]
  refine ⟨(n - i) + 1, ?_⟩
  have e : n + 1 - 1 = i + (n - i) := by omega
  rw [e]
  refine sl_addAt hi P (n - i) (fun j => if j < n then f j else (r.2.1 j).toBitVec.toNat) _ (by omega) ⟨rfl, rfl, by omega, h4, fun j hj => ?_⟩ (fun j hj hjn => if_pos hjn) (fun j hj hjn => absurd hj (by omega))
  show r.2.1 j = nI (if j < n then f j else (r.2.1 j).toBitVec.toNat)
  by_cases hjn : j < n
  · rw [if_pos hjn]
    exact h5 j hjn
  · rw [if_neg hjn]
    exact nI_any _
theorem s_add {cap n v : Nat} {f : Nat → Nat} {r : RowT} {Post : RowT → Prop} (h : RowN cap n f r) (hn : n < cap) (P : ∀ r2, RowN cap (n + 1) (insF f n v) r2 → Post r2) : wp_X4_add r (nI v) Post := by
  unfold wp_X4_add
  rw [h.2.1]
  exact s_addAt h (Nat.le_refl n) hn P
theorem s_empty {cap n : Nat} {f : Nat → Nat} {r : RowT} {Post : RowT → Prop} (h : RowN cap n f r) (P : ∀ r2 : RowT, (∀ g, RowN cap 0 g r2) → Post r2) : wp_X4_empty r Post := by
  unfold wp_X4_empty
  refine P _ (fun g => ?_)
  obtain ⟨h1, h2, h3, h4, h5⟩ := h
  rw [h1]
  exact ⟨rfl, rfl, Nat.zero_le _, h4, fun j hj => absurd hj (by omega)⟩
theorem sl_drop {cap n q : Nat} {f : Nat → Nat} {Post : RowT → Prop} (hq : q < n) (P : ∀ r2, RowN cap (n - 1) (dropF f q) r2 → Post r2) : ∀ (d i : Nat) (g : Nat → Nat) (z : RowT), i + d + 1 = n → q ≤ i → RowN cap n g z → (∀ j, j < i → g j = dropF f q j) → (∀ j, i ≤ j → j < n → g j = f j) → wl_X4_drop_15 Post (d + 1) z (nI i) := by
  intro d
  induction d with
  | zero =>
    intro i g z hd hqi hz h1 h2
    have hc := hz.2.2.1
    have hc2 := hz.2.2.2.1
    unfold wl_X4_drop_15
    rw [hz.2.1, pk_sub (by omega)]
    refine pk_le (n - 1) i (fun _ => ?_) (fun c => absurd c (by omega))
    obtain ⟨e1, e2, e3, e4, e5⟩ := hz
    refine P _ ⟨e1, rfl, by omega, e4, fun j hj => ?_⟩
    rw [e5 j (by omega), h1 j (by omega)]
  | succ d ih =>
    intro i g z hd hqi hz h1 h2
    have hc := hz.2.2.1
    have hc2 := hz.2.2.2.1
    unfold wl_X4_drop_15
    rw [hz.2.1, pk_sub (by omega)]
    refine pk_le (n - 1) i (fun c => absurd c (by omega)) (fun _ => ?_)
    rw [nI_add]
    refine s_at hz _ (by omega) ?_
    refine s_set hz _ (by omega) _ (fun r2 hr => ?_)
    refine ih (i + 1) (updN g i (g (i + 1))) r2 (by omega) (by omega) hr (fun j hj => ?_) (fun j hj hjn => ?_)
    · unfold updN
      by_cases hj2 : j = i
      · rw [if_pos hj2, h2 _ (by omega) (by omega), dropF, hj2, if_neg (by omega)]
      · rw [if_neg hj2]
        exact h1 j (by omega)
    · unfold updN
      rw [if_neg (by omega)]
      exact h2 j (by omega) hjn
theorem s_drop {cap n q : Nat} {f : Nat → Nat} {r : RowT} {Post : RowT → Prop} (h : RowN cap n f r) (hq : q < n) (P : ∀ r2, RowN cap (n - 1) (dropF f q) r2 → Post r2) : wp_X4_drop r (nI q) Post := by
  have hc := h.2.2.1
  have hc2 := h.2.2.2.1
  unfold wp_X4_drop
  rw [h.2.1]
  refine b_neg (pk_lt q n (fun _ => ⟨(n - 1 - q) + 1, ?_⟩) (fun c => absurd c (by omega)))
  exact sl_drop hq P (n - 1 - q) q f r (by omega) (Nat.le_refl _) h (fun j hj => by rw [dropF, if_pos hj]) (fun j _ _ => rfl)
theorem sl_become {cap cap2 n : Nat} {f : Nat → Nat} {o : RowT} {Post : RowT → Prop} (ho : RowN cap2 n f o) (P : ∀ r2, RowN cap n f r2 → Post r2) : ∀ (d i : Nat) (g : Nat → Nat) (z : RowT), i + d = n → RowN cap n g z → (∀ j, j < i → g j = f j) → wl_X4_become_18 o Post (d + 1) z (nI i) := by
  intro d
  induction d with
  | zero =>
    intro i g z hd hz h1
    have hc := hz.2.2.1
    have hc2 := hz.2.2.2.1
    unfold wl_X4_become_18
    rw [hz.2.1]
    refine pk_le n i (fun _ => P _ (hz.congr (fun j hj => h1 j (by omega)))) (fun c => absurd c (by omega))
  | succ d ih =>
    intro i g z hd hz h1
    have hc := hz.2.2.1
    have hc2 := hz.2.2.2.1
    unfold wl_X4_become_18
    rw [hz.2.1]
    refine pk_le n i (fun c => absurd c (by omega)) (fun _ => ?_)
    refine s_at ho _ (by omega) ?_
    refine s_set hz _ (by omega) _ (fun r2 hr => ?_)
    rw [nI_add]
    refine ih (i + 1) _ r2 (by omega) hr (fun j hj => ?_)
    unfold updN
    by_cases hj2 : j = i
    · rw [if_pos hj2, hj2]
    · rw [if_neg hj2]
      exact h1 j (by omega)
theorem s_become {cap cap2 n m : Nat} {f g : Nat → Nat} {r o : RowT} {Post : RowT → Prop} (h : RowN cap m g r) (ho : RowN cap2 n f o) (hn : n ≤ cap) (P : ∀ r2, RowN cap n f r2 → Post r2) : wp_X4_become r o Post := by
  obtain ⟨h1, h2, h3, h4, h5⟩ := h
  unfold wp_X4_become
  rw [h1, ho.2.1]
  have e : (if nI cap < nI n then nI cap else nI n) = nI n := by
    rw [if_neg]
    rw [nI_ltI (by omega) (by omega)]
    omega
  rw [e]
  refine ⟨n + 1, sl_become ho P n 0 (fun j => (r.2.1 j).toBitVec.toNat) _ (by omega) ⟨rfl, rfl, hn, h4, fun j hj => nI_any _⟩ (fun j hj => absurd hj (by omega))⟩
/-! bits -/
def bitn (m k : Nat) : Nat := m / 2 ^ k % 2
theorem bitn_le (m k : Nat) : bitn m k ≤ 1 := by unfold bitn; omega
theorem and31 {l : Nat} (h : l < 32) : nI l &&& 31 = nI l := by
  rw [pk_andN (k := 5) (by omega) (by decide)]
  rw [Nat.mod_eq_of_lt h]
theorem smod32 : ∀ l, l < 32 → ((nI l).toBitVec.smod 32).toNat = l := by decide
theorem bit_at {a l : Nat} (ha : a < 2 ^ 31) (hl : l < 32) : (nI a >>> (nI l &&& 31)) &&& nI 1 = nI (bitn a l) := by
  rw [and31 hl, pk_shrN ha _ l (smod32 l hl), pk_andN (k := 1) (by have := Nat.div_le_self a (2 ^ l); omega) (by decide)]
  rfl
theorem one_shl {k : Nat} (hk : k < 31) : nI 1 <<< (nI k &&& 31) = nI (2 ^ k) := by
  have h2 : 2 ^ k < 2 ^ 31 := Nat.pow_lt_pow_right (by decide) hk
  rw [and31 (by omega), pk_shlN _ k (smod32 k (by omega)) (by omega)]
  rw [Nat.one_mul]
theorem nI_xor (a b : Nat) : nI a ^^^ nI b = nI (a ^^^ b) := by
  apply Int32.toBitVec_inj.mp
  show BitVec.ofNat 32 a ^^^ BitVec.ofNat 32 b = BitVec.ofNat 32 (a ^^^ b)
  rw [BitVec.ofNat_xor]
theorem nI_and (a b : Nat) : nI a &&& nI b = nI (a &&& b) := by
  apply Int32.toBitVec_inj.mp
  show BitVec.ofNat 32 a &&& BitVec.ofNat 32 b = BitVec.ofNat 32 (a &&& b)
  rw [BitVec.ofNat_and]
