set_option maxHeartbeats 400000
/-! what is read of the text: all of it -/
section parse
variable {n a md : Nat} {tx : Nat → Nat} {rt : RowT} {g s : Nat → Int32} {B : BkA}
def EOK (a md : Nat) (E1 E2 E3 : Nat → Nat) (c : Nat) : Prop := ∀ j, j < c → E1 j < 83 ∧ E2 j < 83 ∧ E1 j ≤ E2 j ∧ (E1 j ≠ E2 j → E2 j < 78) ∧ (md = 0 → E1 j = E2 j) ∧ tmS (E1 j) = tmS (E2 j) ∧ (E1 j < 78 → bitn a (E1 j % 26) = 0) ∧ (E2 j < 78 → bitn a (E2 j % 26) = 0) ∧ 1 ≤ E3 j ∧ E3 j ≤ 24
def TLD (t : Nat → Int32) (E1 E2 E3 : Nat → Nat) (c : Nat) : Prop := ∀ j, j < c → t (4 * j) = nI (tmS (E1 j)) ∧ t (4 * j + 1) = ltS (E1 j) ∧ t (4 * j + 2) = ltS (E2 j) ∧ t (4 * j + 3) = nI (E3 j)
def LoopEx (n a md : Nat) (rt : RowT) (g s : Nat → Int32) (d c i : Nat) (E1 E2 E3 : Nat → Nat) : Prop :=
    (∃ c2 F1 F2 F3, 1 ≤ c2 ∧ c2 ≤ 20 ∧ EOK a md F1 F2 F3 c2
      ∧ (∀ u1 u2 u3 Post, RowN 20 c E1 u1 → RowN 20 c E2 u2 → RowN 20 c E3 u3 → (∀ v1 v2 v3 p, RowN 20 c2 F1 v1 → RowN 20 c2 F2 v2 → RowN 20 c2 F3 v3 → Post (-1) v1 v2 v3 p) → wl_X6_readEntries_28 rt (nI a) (nI md) Post (d + 1) u1 u2 u3 (nI i) (nI c))
      ∧ (∀ told tm lt Post, TLD told E1 E2 E3 c → (∀ t2 p tm2 lt2, TLD t2 F1 F2 F3 c2 → Post (-1) t2 p (nI 1) tm2 lt2 (nI c2)) → wl_X9_fault_17 s g (nI n) (nI md) Post (d + 2) told (nI i) (nI 1) tm lt (nI c) (nI 1)))
    ∨ (∃ e, e ≤ n ∧ (∀ u1 u2 u3 Post, RowN 20 c E1 u1 → RowN 20 c E2 u2 → RowN 20 c E3 u3 → (∀ v1 v2 v3 p, AnyR 20 v1 → AnyR 20 v2 → AnyR 20 v3 → Post (nI e) v1 v2 v3 p) → wl_X6_readEntries_28 rt (nI a) (nI md) Post (d + 1) u1 u2 u3 (nI i) (nI c))
      ∧ (∀ told tm lt Post, (∀ t2 p ri tm2 lt2 it, Post (nI e) t2 p ri tm2 lt2 it) → wl_X9_fault_17 s g (nI n) (nI md) Post (d + 2) told (nI i) (nI 1) tm lt (nI c) (nI 1)))
theorem TLD.step {t t2 : Nat → Int32} {E1 E2 E3 : Nat → Nat} {c s1 s2 z : Nat} (h : TLD t E1 E2 E3 c) (h0 : ∀ j, j < 4 * c → t2 j = t j) (h1 : t2 (4 * c) = nI (tmS s1)) (h2 : t2 (4 * c + 1) = ltS s1) (h3 : t2 (4 * c + 2) = ltS s2) (h4 : t2 (4 * c + 3) = nI z) : TLD t2 (insF E1 c s1) (insF E2 c s2) (insF E3 c z) (c + 1) := by
  intro j hj
  unfold insF
  by_cases e : j < c
  · simp only [if_pos e]
    rw [h0 _ (by omega), h0 _ (by omega), h0 _ (by omega), h0 _ (by omega)]
    exact h j e
  · have e2 : j = c := by omega
    subst e2
    simp only [if_neg e, if_true]
    exact ⟨h1, h2, h3, h4⟩
theorem EOK.step {E1 E2 E3 : Nat → Nat} {c s1 s2 z : Nat} (h : EOK a md E1 E2 E3 c) (hs : s1 < 83 ∧ s2 < 83 ∧ s1 ≤ s2 ∧ (s1 ≠ s2 → s2 < 78) ∧ (md = 0 → s1 = s2) ∧ tmS s1 = tmS s2 ∧ (s1 < 78 → bitn a (s1 % 26) = 0) ∧ (s2 < 78 → bitn a (s2 % 26) = 0) ∧ 1 ≤ z ∧ z ≤ 24) : EOK a md (insF E1 c s1) (insF E2 c s2) (insF E3 c z) (c + 1) := by
  intro j hj
  unfold insF
  by_cases e : j < c
  · simp only [if_pos e]
    exact h j e
  · have e2 : j = c := by omega
    subst e2
    simp only [if_neg e, if_true]
    exact hs
theorem loop_fail (h : TXT n tx rt g) {d c i e : Nat} {E1 E2 E3 : Nat → Nat} (hi : i ≤ n) (hci : 3 * c ≤ i) (he : e ≤ n)
    (hX : ∀ u1 u2 u3 Post, Post (nI 0) u1 u2 u3 (nI e) → wp_X6_readEntry rt u1 u2 u3 (nI i) (nI a) (nI md) Post) (hM : ∀ told tm lt Post, (∀ t2 tm2 lt2, Post t2 (nI e) (nI 0) tm2 lt2 (nI (c + 1))) → wp_X9_item s g told (nI n) (nI i) (nI 1) tm lt (nI c) (nI md) Post) : LoopEx n a md rt g s d c i E1 E2 E3 := by
  have hn := h.n60
  unfold LoopEx
  refine Or.inr ⟨e, he, fun u1 u2 u3 Post g1 g2 g3 P => s_length h.1 (pk_lt n c (fun z => absurd z (by omega)) (fun _ => hX _ _ _ _ (f0 (P _ _ _ _ ⟨_, _, g1⟩ ⟨_, _, g2⟩ ⟨_, _, g3⟩)))), fun told tm lt Post P => f1 (hM _ _ _ _ (fun t2 tm2 lt2 => f0 ?_))⟩
  refine f0 ?_
  exact f0 (f0 (P _ _ _ _ _ _))
theorem loop_ex (h : TXT n tx rt g) (al : ALF a md s B) : ∀ (d c i : Nat) (E1 E2 E3 : Nat → Nat), n ≤ i + d → i ≤ n → 3 * c ≤ i → EOK a md E1 E2 E3 c → LoopEx n a md rt g s d c i E1 E2 E3 := by
  have hn := h.n60
  intro d
  induction d with
  | zero =>
    intro c i E1 E2 E3 hd hi hci hE
    have he := entry_ex h al hi (c := c) (by omega)
    unfold EntEx at he
    rcases he with ⟨s1, s2, z, k, k2, k3, _⟩ | ⟨e, he, hX, hM⟩
    · omega
    · exact loop_fail h hi hci he hX hM
  | succ d ih =>
    intro c i E1 E2 E3 hd hi hci hE
    have he := entry_ex h al hi (c := c) (by omega)
    unfold EntEx at he
    rcases he with ⟨s1, s2, z, k, k2, k3, z1, z2, q1, q2, q3, q4, q5, q6, q7, q8, hX, hM⟩ | ⟨e, he, hX, hM⟩
    · have hE2 := hE.step (s1 := s1) (s2 := s2) (z := z) ⟨q1, q2, q3, q4, q5, q6, q7, q8, z1, z2⟩
      by_cases ce : i + k = n
      · unfold LoopEx
        refine Or.inl ⟨c + 1, _, _, _, by omega, by omega, hE2, fun u1 u2 u3 Post g1 g2 g3 P => s_length h.1 (pk_lt n c (fun z => absurd z (by omega)) (fun _ => hX _ _ _ _ _ _ _ (by omega) g1 g2 g3 (fun v1 v2 v3 w1 w2 w3 => f1 (s_length h.1 ⟨fun _ => P _ _ _ _ w1 w2 w3, fun z => absurd (by rw [ce]) z⟩)))), fun told tm lt Post hT P => f1 (hM _ _ _ _ (fun t2 tm2 lt2 a0 a1 a2 a3 a4 => f1 (pk_le n (i + k) (fun _ => ?_) (fun z => absurd z (by omega)))))⟩
        refine f0 (f0 (f1 (P _ _ _ _ (hT.step a0 a1 a2 a3 a4))))
      · by_cases cc : chN n tx (i + k) = 44
        · have hlt := ch_lt (n := n) (tx := tx) (i := i + k) (by omega)
          have hg : g (nI (i + k)).toNatClampNeg = nI 44 := by rw [nI_clamp (by omega), (h.2 (i + k) hlt.1).1, ← hlt.2, cc]
          have hne : ¬ nI (i + k) = nI n := fun z => ce ((nI_eq (by omega) (by omega)).mp z)
          have R := ih (c + 1) (i + k + 1) (insF E1 c s1) (insF E2 c s2) (insF E3 c z) (by omega) (by omega) (by omega) hE2
          have XS : ∀ u1 u2 u3 Post, RowN 20 c E1 u1 → RowN 20 c E2 u2 → RowN 20 c E3 u3 → (∀ v1 v2 v3, RowN 20 (c + 1) (insF E1 c s1) v1 → RowN 20 (c + 1) (insF E2 c s2) v2 → RowN 20 (c + 1) (insF E3 c z) v3 → wl_X6_readEntries_28 rt (nI a) (nI md) Post (d + 1) v1 v2 v3 (nI (i + k + 1)) (nI (c + 1))) → wl_X6_readEntries_28 rt (nI a) (nI md) Post (d + 1 + 1) u1 u2 u3 (nI i) (nI c) := by
            intro u1 u2 u3 Post g1 g2 g3 P
            refine s_length h.1 (pk_lt n c (fun z => absurd z (by omega)) (fun _ => hX _ _ _ _ _ _ _ (by omega) g1 g2 g3 (fun v1 v2 v3 w1 w2 w3 => f1 (s_length h.1 ⟨fun z => absurd z hne, fun _ => x_ch h (by omega) (ch_eq h (by decide) (fun _ => ?_) (fun z => absurd cc z))⟩))))
            rw [nI_add (i + k) 1, nI_add c 1]
            exact P v1 v2 v3 w1 w2 w3
          have MS2 : ∀ told tm lt Post, (∀ t2 tm2 lt2, (TLD told E1 E2 E3 c → TLD t2 (insF E1 c s1) (insF E2 c s2) (insF E3 c z) (c + 1)) → wl_X9_fault_17 s g (nI n) (nI md) Post (d + 2) t2 (nI (i + k + 1)) (nI 1) tm2 lt2 (nI (c + 1)) (nI 1)) → wl_X9_fault_17 s g (nI n) (nI md) Post (d + 1 + 2) told (nI i) (nI 1) tm lt (nI c) (nI 1) := by
            intro told tm lt Post P
            refine f1 (hM _ _ _ _ (fun t2 tm2 lt2 a0 a1 a2 a3 a4 => f1 (pk_le n (i + k) (fun z => absurd z (by omega)) (fun _ => f1 ⟨vp_in_nI (by omega) (by decide), fun _ => ⟨Or.inr rfl, f1 ?_⟩, fun z => absurd hg z⟩))))
            rw [nI_add (i + k) 1]
            exact P t2 tm2 lt2 (fun hT => hT.step a0 a1 a2 a3 a4)
          unfold LoopEx at R ⊢
          rcases R with ⟨c2, F1, F2, F3, r1, r2, r3, rX, rM⟩ | ⟨e, he, rX, rM⟩
          · exact Or.inl ⟨c2, F1, F2, F3, r1, r2, r3, fun u1 u2 u3 Post g1 g2 g3 P => XS _ _ _ _ g1 g2 g3 (fun v1 v2 v3 w1 w2 w3 => rX _ _ _ _ w1 w2 w3 P), fun told tm lt Post hT P => MS2 _ _ _ _ (fun t2 tm2 lt2 hT2 => rM _ _ _ _ (hT2 hT) P)⟩
          · exact Or.inr ⟨e, he, fun u1 u2 u3 Post g1 g2 g3 P => XS _ _ _ _ g1 g2 g3 (fun v1 v2 v3 w1 w2 w3 => rX _ _ _ _ w1 w2 w3 P), fun told tm lt Post P => MS2 _ _ _ _ (fun t2 tm2 lt2 _ => rM _ _ _ _ P)⟩
        · have hne : ¬ nI (i + k) = nI n := fun z => ce ((nI_eq (by omega) (by omega)).mp z)
          have hg : ¬ g (nI (i + k)).toNatClampNeg = nI 44 := by
            have hc : chN n tx (i + k) = tx (i + k) := by unfold chN; rw [if_pos (by omega)]
            have hb := (h.2 (i + k) (by omega)).2
            rw [nI_clamp (by omega), (h.2 (i + k) (by omega)).1]
            intro z
            exact cc (hc.trans ((nI_eq (by omega) (by decide)).mp z))
          unfold LoopEx
          refine Or.inr ⟨i + k, k3, fun u1 u2 u3 Post g1 g2 g3 P => s_length h.1 (pk_lt n c (fun z => absurd z (by omega)) (fun _ => hX _ _ _ _ _ _ _ (by omega) g1 g2 g3 (fun v1 v2 v3 w1 w2 w3 => f1 (s_length h.1 ⟨fun z => absurd z hne, fun _ => x_ch h (by omega) (ch_eq h (by decide) (fun z => absurd z cc) (fun _ => P _ _ _ _ ⟨_, _, w1⟩ ⟨_, _, w2⟩ ⟨_, _, w3⟩))⟩)))), fun told tm lt Post P => f1 (hM _ _ _ _ (fun t2 tm2 lt2 a0 a1 a2 a3 a4 => f1 (pk_le n (i + k) (fun z => absurd z (by omega)) (fun _ => f1 ⟨vp_in_nI (by omega) (by decide), fun z => absurd z hg, fun _ => ⟨Or.inl rfl, f0 ?_⟩⟩))))⟩
          rw [nI_add (i + k) 0]
          exact f0 (f0 (P _ _ _ _ _ _))
    · exact loop_fail h hi hci he hX hM
def TxtEx (n a md : Nat) (rt : RowT) (g s : Nat → Int32) : Prop :=
    (∃ c F1 F2 F3, 1 ≤ c ∧ c ≤ 20 ∧ EOK a md F1 F2 F3 c
      ∧ (∀ u1 u2 u3 p Post, AnyR 20 u1 → AnyR 20 u2 → AnyR 20 u3 → (∀ v1 v2 v3 p, RowN 20 c F1 v1 → RowN 20 c F2 v2 → RowN 20 c F3 v3 → Post (-1) v1 v2 v3 p) → wp_X6_readEntries rt u1 u2 u3 p (nI a) (nI md) Post)
      ∧ (∀ told p ri tm lt it Post, (∀ t2 p tm2 lt2, TLD t2 F1 F2 F3 c → Post (-1) t2 p (nI 1) tm2 lt2 (nI c)) → wp_X9_fault s g told (nI n) p ri tm lt it (nI md) Post))
    ∨ (∃ e, e ≤ n ∧ (∀ u1 u2 u3 p Post, AnyR 20 u1 → AnyR 20 u2 → AnyR 20 u3 → (∀ v1 v2 v3 p, AnyR 20 v1 → AnyR 20 v2 → AnyR 20 v3 → Post (nI e) v1 v2 v3 p) → wp_X6_readEntries rt u1 u2 u3 p (nI a) (nI md) Post)
      ∧ (∀ told p ri tm lt it Post, (∀ t2 p ri tm2 lt2 it, Post (nI e) t2 p ri tm2 lt2 it) → wp_X9_fault s g told (nI n) p ri tm lt it (nI md) Post))
theorem text_ex (h : TXT n tx rt g) (al : ALF a md s B) : TxtEx n a md rt g s := by
  have R := loop_ex h al n 0 0 (fun _ => 0) (fun _ => 0) (fun _ => 0) (by omega) (Nat.zero_le _) (Nat.zero_le _) (fun j hj => absurd hj (Nat.not_lt_zero _))
  unfold LoopEx at R
  unfold TxtEx
  rcases R with ⟨c2, F1, F2, F3, r1, r2, r3, rX, rM⟩ | ⟨e, he, rX, rM⟩
  · exact Or.inl ⟨c2, F1, F2, F3, r1, r2, r3, fun u1 u2 u3 p Post ⟨_, _, g1⟩ ⟨_, _, g2⟩ ⟨_, _, g3⟩ P => s_empty g1 (fun w1 k1 => s_empty g2 (fun w2 k2 => s_empty g3 (fun w3 k3 => ⟨n + 1, rX _ _ _ _ (k1 _) (k2 _) (k3 _) P⟩))), fun told p ri tm lt it Post P => ⟨n + 2, rM _ _ _ _ (fun j hj => absurd hj (Nat.not_lt_zero _)) P⟩⟩
  · exact Or.inr ⟨e, he, fun u1 u2 u3 p Post ⟨_, _, g1⟩ ⟨_, _, g2⟩ ⟨_, _, g3⟩ P => s_empty g1 (fun w1 k1 => s_empty g2 (fun w2 k2 => s_empty g3 (fun w3 k3 => ⟨n + 1, rX _ _ _ _ (k1 _) (k2 _) (k3 _) P⟩))), fun told p ri tm lt it Post P => ⟨n + 2, rM _ _ _ _ P⟩⟩
end parse
