set_option maxHeartbeats 400000
/-! letters, and what holds of every state of the law's run -/
theorem bitn_tb (m k : Nat) : bitn m k = if m.testBit k then 1 else 0 := by
  unfold bitn
  rw [Nat.testBit_eq_decide_div_mod_eq]
  generalize m / 2 ^ k = y
  by_cases h : y % 2 = 1
  · rw [h]; rfl
  · have h0 : y % 2 = 0 := by omega
    rw [h0]; rfl
theorem bitn_xor (a l i : Nat) : bitn (a ^^^ 2 ^ l) i = if i = l then 1 - bitn a l else bitn a i := by
  rw [bitn_tb (a ^^^ 2 ^ l) i, bitn_tb a l, bitn_tb a i, Nat.testBit_xor, Nat.testBit_two_pow]
  by_cases h : i = l
  · subst h
    rw [if_pos rfl]
    cases a.testBit i <;> simp
  · rw [if_neg h]
    have h2 : decide (l = i) = false := decide_eq_false (fun z => h z.symm)
    rw [h2]
    cases a.testBit i <;> rfl
theorem bits_eq {a b : Nat} (ha : a < 2 ^ 26) (hb : b < 2 ^ 26) (h : ∀ i, i < 26 → bitn a i = bitn b i) : a = b := by
  refine Nat.eq_of_testBit_eq (fun i => ?_)
  have e : bitn a i = bitn b i := by
    by_cases c : i < 26
    · exact h i c
    · rw [bitn_hi0 ha (by omega), bitn_hi0 hb (by omega)]
  rw [bitn_tb, bitn_tb] at e
  revert e
  cases a.testBit i <;> cases b.testBit i <;> simp
theorem sumF_one {f g : Nat → Nat} {l : Nat} : ∀ n, l < n → (∀ i, i < n → i ≠ l → g i = f i) → sumF g n + f l = sumF f n + g l
  | 0, h, _ => absurd h (Nat.not_lt_zero _)
  | n + 1, h, e => by
    rw [sumF, sumF]
    by_cases c : l = n
    · subst c
      rw [sumF_congr (f := g) (g := f) l (fun j hj => e j (by omega) (by omega))]
      omega
    · have ih := sumF_one (f := f) (g := g) n (by omega) (fun i hi hne => e i (by omega) hne)
      rw [e n (by omega) (fun z => c z.symm)]
      omega
theorem sumF_ge {f : Nat → Nat} {i : Nat} : ∀ n, i < n → f i ≤ sumF f n
  | 0, h => absurd h (Nat.not_lt_zero _)
  | n + 1, h => by
    rw [sumF]
    by_cases c : i = n
    · rw [c]; omega
    · have := sumF_ge (f := f) n (show i < n by omega)
      omega
theorem sumF_two {f : Nat → Nat} {i j : Nat} : ∀ n, i < n → j < n → i ≠ j → f i + f j ≤ sumF f n
  | 0, h, _, _ => absurd h (Nat.not_lt_zero _)
  | n + 1, h, h2, hne => by
    rw [sumF]
    by_cases c : i = n
    · have := sumF_ge (f := f) n (show j < n by omega)
      rw [c]; omega
    · by_cases c2 : j = n
      · have := sumF_ge (f := f) n (show i < n by omega)
        rw [c2]; omega
      · have := sumF_two (f := f) n (show i < n by omega) (show j < n by omega) hne
        omega
theorem letters_xor {a l : Nat} (hl : l < 26) : (bitn a l = 0 → lettersN (a ^^^ 2 ^ l) + 1 = lettersN a) ∧ (bitn a l = 1 → lettersN (a ^^^ 2 ^ l) = lettersN a + 1) := by
  have h := sumF_one (f := fun i => 1 - bitn a i) (g := fun i => 1 - bitn (a ^^^ 2 ^ l) i) (l := l) 26 hl (fun i _ hne => by
    show 1 - bitn (a ^^^ 2 ^ l) i = 1 - bitn a i
    rw [bitn_xor, if_neg hne])
  have e : bitn (a ^^^ 2 ^ l) l = 1 - bitn a l := by rw [bitn_xor, if_pos rfl]
  have h : lettersN (a ^^^ 2 ^ l) + (1 - bitn a l) = lettersN a + (1 - bitn (a ^^^ 2 ^ l) l) := h
  rw [e] at h
  refine ⟨fun z => ?_, fun z => ?_⟩
  · rw [z] at h; omega
  · rw [z] at h; omega
theorem letters_in {a l : Nat} (hl : l < 26) (h : bitn a l = 0) : 1 ≤ lettersN a := by
  have := sumF_ge (f := fun i => 1 - bitn a i) 26 hl
  have e : 1 - bitn a l = 1 := by omega
  unfold lettersN
  omega
theorem letters_ex {a : Nat} (h : 1 ≤ lettersN a) : ∃ l, l < 26 ∧ bitn a l = 0 := by
  obtain ⟨k, h1, h2, h3⟩ := firstN (fun i => bitn a i = 0) 26
  by_cases c : k < 26
  · exact ⟨k, c, h3 c⟩
  · have : lettersN a = 0 := sumF_zero 26 (fun j hj => by
      have h4 := h2 j (by omega)
      have h5 := bitn_le a j
      show 1 - bitn a j = 0
      have h6 : bitn a j ≠ 0 := h4
      omega)
    omega
theorem letters_le (a : Nat) : lettersN a ≤ 26 := by
  have := sumF_le (f := fun l => 1 - bitn a l) (c := 1) 26 (fun j _ => Nat.sub_le _ _)
  unfold lettersN
  omega
def GB (B : BkA) : Prop := bpn B = 0 ∧ 1 ≤ lettersN (bal B)
def INV (σ : St) : Prop := GB σ.1 ∧ (∀ i, i < σ.2.1 → GB (σ.2.2.1 i)) ∧ σ.2.2.2.1 = 0
theorem XOK.st4 {σ : St} {x : XS} (h : XOK σ x) : σ.2.1 ≤ 4 := h.2.2.1.2.1
theorem INV.act {σ : St} {B : BkA} (h : INV σ) (h4 : σ.2.1 ≤ 4) (hB : GB B) : INV (actS σ B) := by
  obtain ⟨h1, h2, h3⟩ := h
  refine ⟨hB, fun i hi => ?_, h3⟩
  have hi : i < min (σ.2.1 + 1) 4 := hi
  show GB (recS σ.2.2.1 σ.2.1 σ.1 i)
  unfold recS
  by_cases c : σ.2.1 < 4
  · rw [if_pos c]
    show GB (if i = σ.2.1 then σ.1 else σ.2.2.1 i)
    by_cases e : i = σ.2.1
    · rw [if_pos e]; exact h1
    · rw [if_neg e]; exact h2 i (by omega)
  · rw [if_neg c]
    show GB (if i = 3 then σ.1 else σ.2.2.1 (i + 1))
    by_cases e : i = 3
    · rw [if_pos e]; exact h1
    · rw [if_neg e]; exact h2 (i + 1) (by omega)
theorem inv00 : INV s00 := ⟨⟨rfl, by decide⟩, fun i hi => absurd hi (Nat.not_lt_zero _), rfl⟩
/-- an act, taken back -/
theorem xq_back {σ : St} {B : BkA} {x : XS} (hi : INV σ) (h4 : σ.2.1 ≤ 4) (hx : XOK (actS σ B) x) {Post : Int32 → XS → Prop} (P : ∀ k σ2 x2, k ≤ 4 → XOK σ2 x2 → INV σ2 → σ2.1 = σ.1 → σ2.2.2.2 = σ.2.2.2 → Post (nI k) x2) : wx_undo x Post := by
  obtain ⟨k, hk⟩ : ∃ k, min (σ.2.1 + 1) 4 = k + 1 := ⟨min (σ.2.1 + 1) 4 - 1, by omega⟩
  have hk4 : k < 4 := by omega
  refine xq_undo hx (k := k) hk (fun x2 h2 => P k _ x2 (by omega) h2 ⟨?_, fun i hi2 => ?_, hi.2.2⟩ ?_ rfl)
  · show GB (recS σ.2.2.1 σ.2.1 σ.1 k)
    have e : recS σ.2.2.1 σ.2.1 σ.1 k = σ.1 := by
      unfold recS
      by_cases c : σ.2.1 < 4
      · rw [if_pos c]
        exact if_pos (by omega)
      · rw [if_neg c]
        exact if_pos (by omega)
    rw [e]
    exact hi.1
  · have hi2 : i < k := hi2
    have hh := (INV.act (B := σ.1) hi h4 hi.1).2.1 i (by show i < min (σ.2.1 + 1) 4; omega)
    exact hh
  · show recS σ.2.2.1 σ.2.1 σ.1 k = σ.1
    unfold recS
    by_cases c : σ.2.1 < 4
    · rw [if_pos c]
      exact if_pos (by omega)
    · rw [if_neg c]
      exact if_pos (by omega)
/-- is a letter left out? -/
theorem isOut_ok {σ : St} {x : XS} (hx : XOK σ x) (hi : INV σ) {l : Nat} (hl : l < 26) {Post : Int32 → XS → Prop} (P : ∀ σ2 x2, XOK σ2 x2 → INV σ2 → σ2.1 = σ.1 → σ2.2.2.2 = σ.2.2.2 → Post (nI (bitn (bal σ.1) l)) x2) : wp_L_isOut x (nI (65 + l)) Post := by
  have hb := bitn_le (bal σ.1) l
  unfold wp_L_isOut
  refine xq_leaveOut hx hl (Nat.le_refl 1) (fun e => ⟨fun _ => ?_, fun z => absurd rfl z⟩) (fun e1 e2 e3 => ⟨fun z => absurd z (by decide), fun _ => ?_⟩) (fun e1 e2 x2 hx2 => ⟨fun z => absurd z (nI_m5 ?_), fun _ => ?_⟩)
  · unfold wj_L_isOut_18
    have := P σ x hx hi rfl rfl
    rw [e] at this
    exact ⟨fun _ => ⟨Or.inr (by decide), this⟩, fun z => absurd (show (-5 : Int32) < 0 by decide) z⟩
  · unfold wj_L_isOut_18
    have := P σ x hx hi rfl rfl
    rw [e1] at this
    exact ⟨fun _ => ⟨Or.inl (by decide), this⟩, fun z => absurd (show (-4 : Int32) < 0 by decide) z⟩
  · have := letters_le (bal σ.1 ^^^ 2 ^ l)
    omega
  · unfold wj_L_isOut_18
    have hle := letters_le (bal σ.1 ^^^ 2 ^ l)
    refine b_neg (n := lettersN (bal σ.1 ^^^ 2 ^ l)) (xq_back hi hx.st4 hx2 (fun k σ2 x3 hk k1 k2 k3 k4 => ⟨Or.inl (by decide), ?_⟩))
    have := P σ2 x3 k1 k2 k3 k4
    rw [show bitn (bal σ.1) l = 0 by omega] at this
    exact this
