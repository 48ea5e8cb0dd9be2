/-! the count of bits, as the JDK counts them -/
theorem sumF_add (f : Nat → Nat) (a : Nat) : ∀ b, sumF f (a + b) = sumF f a + sumF (fun j => f (a + j)) b
  | 0 => rfl
  | b + 1 => by
    show sumF f (a + b) + f (a + b) = _
    rw [sumF_add f a b, sumF]
    omega
def pop (x : Nat) : Nat := sumF (bitn x) 32
theorem and_split {b m : Nat} (c k : Nat) (hb : b < 256) (hm : m < 256) : (b + 256 * c) &&& (m + 256 * k) = (b &&& m) + 256 * (c &&& k) := by
  have h1 : ((b + 256 * c) &&& (m + 256 * k)) % 2 ^ 8 = (b &&& m) := by
    rw [Nat.and_mod_two_pow]
    congr 1 <;> omega
  have h2 : ((b + 256 * c) &&& (m + 256 * k)) / 2 ^ 8 = (c &&& k) := by
    rw [Nat.and_div_two_pow]
    congr 1 <;> omega
  omega
def bc1 (M x : Nat) : Nat := x - (x / 2 &&& M)
def bc2 (M x : Nat) : Nat := (x &&& M) + (x / 4 &&& M)
def bc3 (M x : Nat) : Nat := (x + x / 16) &&& M
theorem bd1 : ∀ b, b < 256 → ∀ e, e < 2 → (b / 2 + 128 * e) &&& 85 = b / 2 &&& 85 := by decide +kernel
theorem bd2 : ∀ b, b < 256 → ∀ e, e < 4 → (b / 4 + 64 * e) &&& 51 = b / 4 &&& 51 := by decide +kernel
theorem bd3 : ∀ b, b < 69 → ∀ e, e < 5 → (b + b / 16 + 16 * e) &&& 15 = (b + b / 16) &&& 15 := by decide +kernel
theorem st1 {b : Nat} (c K : Nat) (hb : b < 256) : bc1 (85 + 256 * K) (b + 256 * c) = bc1 85 b + 256 * bc1 K c := by
  unfold bc1
  have e : (b + 256 * c) / 2 = (b / 2 + 128 * (c % 2)) + 256 * (c / 2) := by omega
  rw [e, and_split _ _ (by omega) (by decide), bd1 b hb _ (by omega)]
  have h1 : (b / 2 &&& 85) ≤ b / 2 := Nat.and_le_left
  have h2 : (c / 2 &&& K) ≤ c / 2 := Nat.and_le_left
  omega
theorem st2 {b : Nat} (c K : Nat) (hb : b < 256) : bc2 (51 + 256 * K) (b + 256 * c) = bc2 51 b + 256 * bc2 K c := by
  unfold bc2
  have e : (b + 256 * c) / 4 = (b / 4 + 64 * (c % 4)) + 256 * (c / 4) := by omega
  rw [e, and_split _ _ hb (by decide), and_split _ _ (by omega) (by decide), bd2 b hb _ (by omega)]
  omega
theorem st3 {b : Nat} (c K : Nat) (hb : b < 69) (hc : c % 16 < 5) : bc3 (15 + 256 * K) (b + 256 * c) = bc3 15 b + 256 * bc3 K c := by
  unfold bc3
  have e : (b + 256 * c) + (b + 256 * c) / 16 = (b + b / 16 + 16 * (c % 16)) + 256 * (c + c / 16) := by omega
  rw [e, and_split _ _ (by omega) (by decide), bd3 b hb _ hc]
theorem bytes : ∀ b, b < 256 → bc2 51 (bc1 85 b) < 69 ∧ bc2 51 (bc1 85 b) % 16 < 5 ∧ bc3 15 (bc2 51 (bc1 85 b)) = sumF (bitn b) 8 ∧ sumF (bitn b) 8 ≤ 8 ∧ bc1 85 b < 256 := by decide +kernel
theorem bitn_lo {b c k : Nat} (hb : b < 256) (hk : k < 8) : bitn (b + 256 * c) k = bitn b k := by
  unfold bitn
  rcases (show k = 0 ∨ k = 1 ∨ k = 2 ∨ k = 3 ∨ k = 4 ∨ k = 5 ∨ k = 6 ∨ k = 7 by omega) with rfl | rfl | rfl | rfl | rfl | rfl | rfl | rfl <;> omega
theorem bitn_hi {b c k : Nat} (hb : b < 256) : bitn (b + 256 * c) (8 + k) = bitn c k := by
  unfold bitn
  rw [Nat.pow_add, ← Nat.div_div_eq_div_mul]
  have : (b + 256 * c) / 2 ^ 8 = c := by omega
  rw [this]
theorem pop_split {b c : Nat} (hb : b < 256) (n : Nat) : sumF (bitn (b + 256 * c)) (8 + n) = sumF (bitn b) 8 + sumF (bitn c) n := by
  rw [sumF_add]
  have h1 : sumF (bitn (b + 256 * c)) 8 = sumF (bitn b) 8 := sumF_congr 8 (fun j hj => bitn_lo hb hj)
  have h2 : sumF (fun j => bitn (b + 256 * c) (8 + j)) n = sumF (bitn c) n := sumF_congr n (fun j _ => bitn_hi hb)
  rw [h1, h2]
theorem pop_count {x : Nat} (hx : x < 2 ^ 31) : let y3 := bc3 252645135 (bc2 858993459 (bc1 1431655765 x)); let y4 := y3 + y3 / 256; (y4 + y4 / 65536) &&& 63 = pop x := by
  obtain ⟨b0, b1, b2, b3, h0, h1, h2, h3, rfl⟩ : ∃ b0 b1 b2 b3, b0 < 256 ∧ b1 < 256 ∧ b2 < 256 ∧ b3 < 256 ∧ x = b0 + 256 * (b1 + 256 * (b2 + 256 * b3)) := ⟨x % 256, x / 256 % 256, x / 65536 % 256, x / 16777216, by omega, by omega, by omega, by omega, by omega⟩
  obtain ⟨p0, q0, e0, s0, t0⟩ := bytes b0 h0
  obtain ⟨p1, q1, e1, s1, t1⟩ := bytes b1 h1
  obtain ⟨p2, q2, e2, s2, t2⟩ := bytes b2 h2
  obtain ⟨p3, q3, e3, s3, t3⟩ := bytes b3 h3
  have m1 : (1431655765 : Nat) = 85 + 256 * (85 + 256 * (85 + 256 * 85)) := by decide
  have m2 : (858993459 : Nat) = 51 + 256 * (51 + 256 * (51 + 256 * 51)) := by decide
  have m3 : (252645135 : Nat) = 15 + 256 * (15 + 256 * (15 + 256 * 15)) := by decide
  have k1 : bc1 1431655765 (b0 + 256 * (b1 + 256 * (b2 + 256 * b3))) = bc1 85 b0 + 256 * (bc1 85 b1 + 256 * (bc1 85 b2 + 256 * bc1 85 b3)) := by rw [m1, st1 _ _ h0, st1 _ _ h1, st1 _ _ h2]
  have k2 : bc2 858993459 (bc1 1431655765 (b0 + 256 * (b1 + 256 * (b2 + 256 * b3)))) = bc2 51 (bc1 85 b0) + 256 * (bc2 51 (bc1 85 b1) + 256 * (bc2 51 (bc1 85 b2) + 256 * bc2 51 (bc1 85 b3))) := by rw [k1, m2, st2 _ _ t0, st2 _ _ t1, st2 _ _ t2]
  have k3 : bc3 252645135 (bc2 858993459 (bc1 1431655765 (b0 + 256 * (b1 + 256 * (b2 + 256 * b3))))) = sumF (bitn b0) 8 + 256 * (sumF (bitn b1) 8 + 256 * (sumF (bitn b2) 8 + 256 * sumF (bitn b3) 8)) := by
    rw [k2, m3, st3 _ _ p0 (by omega), st3 _ _ p1 (by omega), st3 _ _ p2 q3, e0, e1, e2, e3]
  have k4 : pop (b0 + 256 * (b1 + 256 * (b2 + 256 * b3))) = sumF (bitn b0) 8 + (sumF (bitn b1) 8 + (sumF (bitn b2) 8 + sumF (bitn b3) 8)) := by
    unfold pop
    rw [show (32 : Nat) = 8 + (8 + (8 + 8)) from rfl, pop_split h0, pop_split h1, pop_split h2]
  intro y3 y4
  rw [k4]
  have hy3 : y3 = sumF (bitn b0) 8 + 256 * (sumF (bitn b1) 8 + 256 * (sumF (bitn b2) 8 + 256 * sumF (bitn b3) 8)) := k3
  have hy4 : y4 = y3 + y3 / 256 := rfl
  rw [show (63 : Nat) = 2 ^ 6 - 1 from rfl, Nat.and_two_pow_sub_one_eq_mod]
  generalize sumF (bitn b0) 8 = u0 at *
  generalize sumF (bitn b1) 8 = u1 at *
  generalize sumF (bitn b2) 8 = u2 at *
  generalize sumF (bitn b3) 8 = u3 at *
  clear k1 k2 k3 k4 m1 m2 m3 e0 e1 e2 e3 p0 p1 p2 p3 q0 q1 q2 q3 t0 t1 t2 t3
  have hd : y3 / 256 = u1 + 256 * (u2 + 256 * u3) := by omega
  have hy4' : y4 = (u0 + u1) + 256 * ((u1 + u2) + 256 * ((u2 + u3) + 256 * u3)) := by omega
  have hd2 : y4 / 65536 = (u2 + u3) + 256 * u3 := by omega
  omega
theorem s_bitCount {x : Nat} {Post : Int32 → Prop} (hx : x < 2 ^ 31) (P : Post (nI (pop x))) : wp_J6_bitCount_0f7a4 (nI x) Post := by
  have h := pop_count hx
  unfold wp_J6_bitCount_0f7a4
  have a1 : bc1 1431655765 x ≤ x := by unfold bc1; omega
  have a2 : bc2 858993459 (bc1 1431655765 x) < 2 ^ 31 := by
    unfold bc2
    have h1 : (bc1 1431655765 x &&& 858993459) ≤ 858993459 := Nat.and_le_right
    have h2 : (bc1 1431655765 x / 4 &&& 858993459) ≤ 858993459 := Nat.and_le_right
    omega
  have a3 : bc3 252645135 (bc2 858993459 (bc1 1431655765 x)) ≤ 252645135 := Nat.and_le_right
  have q1 : nI x - (((nI x).toUInt32 >>> (Int32.toUInt32 (nI 1) &&& Int32.toUInt32 31)).toInt32 &&& nI 1431655765) = nI (bc1 1431655765 x) := by
    rw [pk_ushrN (k := 1) (by omega) _ (by decide), nI_and, pk_sub (Nat.le_trans Nat.and_le_left (Nat.div_le_self _ _))]
    rfl
  have q2 : ∀ y, y < 2 ^ 31 → (nI y &&& nI 858993459) + (((nI y).toUInt32 >>> (Int32.toUInt32 (nI 2) &&& Int32.toUInt32 31)).toInt32 &&& nI 858993459) = nI (bc2 858993459 y) := by
    intro y hy
    rw [pk_ushrN (k := 2) (by omega) _ (by decide), nI_and, nI_and, nI_add]
    rfl
  have q3 : ∀ y, y < 2 ^ 31 → (nI y + ((nI y).toUInt32 >>> (Int32.toUInt32 (nI 4) &&& Int32.toUInt32 31)).toInt32) &&& nI 252645135 = nI (bc3 252645135 y) := by
    intro y hy
    rw [pk_ushrN (k := 4) (by omega) _ (by decide), nI_add, nI_and]
    rfl
  have q4 : ∀ y, y < 2 ^ 31 → nI y + ((nI y).toUInt32 >>> (Int32.toUInt32 (nI 8) &&& Int32.toUInt32 31)).toInt32 = nI (y + y / 256) := by
    intro y hy
    rw [pk_ushrN (k := 8) (by omega) _ (by decide), nI_add]
  have q5 : ∀ y, y < 2 ^ 31 → (nI y + ((nI y).toUInt32 >>> (Int32.toUInt32 (nI 16) &&& Int32.toUInt32 31)).toInt32) &&& nI 63 = nI ((y + y / 65536) &&& 63) := by
    intro y hy
    rw [pk_ushrN (k := 16) (by omega) _ (by decide), nI_add, nI_and]
  rintro _ rfl
  rw [q1]
  rintro _ rfl
  rw [q2 _ (by omega)]
  rintro _ rfl
  rw [q3 _ a2]
  rintro _ rfl
  rw [q4 _ (by omega)]
  rintro _ rfl
  rw [q5 _ (by omega), h]
  exact P
