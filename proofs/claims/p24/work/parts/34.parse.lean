set_option maxHeartbeats 400000
/-! what is read of a text that is written as formulas are -/
section parse
variable {n a : Nat} {tx : Nat → Nat} {rt : RowT}
/-- the character at a place; behind the end none -/
def chN (n : Nat) (tx : Nat → Nat) (i : Nat) : Nat := if i < n then tx i else 70000
def chV (n : Nat) (tx : Nat → Nat) (i : Nat) : Int32 := if i < n then nI (tx i) else -1
def TXT (n : Nat) (tx : Nat → Nat) (rt : RowT) : Prop := RowN 60 n tx rt ∧ ∀ j, j < n → tx j < 65536
theorem TXT.n60 (h : TXT n tx rt) : n ≤ 60 := h.1.2.2.1
theorem x_ch {Post : Int32 → Prop} (h : TXT n tx rt) {i : Nat} (hi : i < 1000) (P : Post (chV n tx i)) : wp_X4_at rt (nI i) Post := by
  unfold chV at P
  by_cases c : i < n
  · rw [if_pos c] at P; exact s_at h.1 i c P
  · rw [if_neg c] at P; exact s_at_out h.1 i (by omega) (by omega) P
theorem ch_eq {A C : Prop} (h : TXT n tx rt) {i k : Nat} (hk : k < 65536) (f : chN n tx i = k → A) (f2 : chN n tx i ≠ k → C) : (chV n tx i = nI k → A) ∧ (¬ chV n tx i = nI k → C) := by
  unfold chV
  unfold chN at f f2
  by_cases c : i < n
  · have hb := h.2 i c
    rw [if_pos c]
    rw [if_pos c] at f f2
    exact pk_eq (tx i) k f f2
  · rw [if_neg c]
    rw [if_neg c] at f2
    exact ⟨fun z => absurd z.symm (nI_m1 (by omega)), fun _ => f2 (by omega)⟩
theorem ch_lt {i : Nat} (h : chN n tx i < 65536) : i < n ∧ chN n tx i = tx i := by
  unfold chN at h ⊢
  by_cases c : i < n
  · rw [if_pos c]; exact ⟨c, rfl⟩
  · rw [if_neg c] at h; omega
theorem ch_v {i k : Nat} (h : chN n tx i = k) (hk : k < 65536) : chV n tx i = nI k := by
  have h2 := ch_lt (n := n) (tx := tx) (i := i) (by omega)
  unfold chV
  rw [if_pos h2.1, ← h2.2, h]
theorem x_dig {Post : Int32 → Prop} (h : TXT n tx rt) {i : Nat} (hi : i < 1000) (P1 : ∀ d, d ≤ 9 → chN n tx i = 48 + d → Post (nI d)) (P0 : ¬ (48 ≤ chN n tx i ∧ chN n tx i ≤ 57) → Post (-1)) : wp_X6_digitAt rt (nI i) Post := by
  refine x_ch h hi ?_
  rintro _ rfl
  unfold chV
  unfold chN at P1 P0
  by_cases c : i < n
  · rw [if_pos c] at P1 P0
    rw [if_pos c]
    have hb := h.2 i c
    by_cases q : tx i < 48
    · exact ⟨fun _ => P0 (fun z => by omega), fun z => absurd (pk_sneg (by decide) q) z⟩
    · rw [pk_sub (by omega)]
      exact b_neg (pk_lt 9 (tx i - 48) (fun z => P0 (fun z2 => by omega)) (fun z => P1 (tx i - 48) (by omega) (by omega)))
  · rw [if_neg c] at P0
    rw [if_neg c]
    exact ⟨fun _ => P0 (fun z => by omega), fun z => absurd (by decide) z⟩
/-- a sign stands at a place -/
def SgAt (n : Nat) (tx : Nat → Nat) (i s : Nat) : Prop := i + tmS s ≤ n ∧ ∀ k, k < tmS s → tx (i + k) = chS s k
theorem SgAt.ch {i s k : Nat} (h : SgAt n tx i s) (hk : k < tmS s) : chN n tx (i + k) = chS s k := by
  have h1 := h.1
  unfold chN
  rw [if_pos (by omega)]
  exact h.2 k hk
theorem stars_at (h : TXT n tx rt) {i s : Nat} {Post : Int32 → Int32 → Prop} (hs : 78 ≤ s) (hs2 : s < 83) (g : SgAt n tx i s) (hn : chN n tx (i + tmS s) ≠ 42) (P : Post (nI s) (nI (i + tmS s))) : wp_X6_readStars rt (nI i) Post := by
  have ht : tmS s = s - 77 := by unfold tmS; rw [if_neg (by omega)]
  have hn60 := h.n60
  have g1 := g.1
  have key : ∀ (d k : Nat), k + d = tmS s → wl_X6_readStars_2 rt Post (d + 1) (nI (i + k)) (nI k) := by
    intro d
    induction d with
    | zero =>
      intro k hk
      have e : k = tmS s := by omega
      have X : wj_X6_readStars_39 rt (nI (i + k)) (nI k) Post := by
        show Post (nI 78 + nI k - nI 1) (nI (i + k))
        rw [nI_add, pk_sub (by omega), show 78 + k - 1 = s by omega, e]
        exact P
      exact pk_le 5 k (fun _ => X) (fun _ => x_ch h (by omega) (ch_eq h (by decide) (fun c => absurd (e ▸ c) hn) (fun _ => X)))
    | succ d ih =>
      intro k hk
      have hc : chN n tx (i + k) = 42 := by
        rw [g.ch (show k < tmS s by omega)]
        unfold chS
        rw [if_neg (by omega)]
      refine pk_le 5 k (fun z => absurd z (by omega)) (fun _ => x_ch h (by omega) (ch_eq h (by decide) (fun _ => ?_) (fun c => absurd hc c)))
      rw [nI_add (i + k) 1, nI_add k 1]
      exact ih (k + 1) (by omega)
  exact ⟨tmS s + 1, key (tmS s) 0 (by omega)⟩
theorem letters_at (h : TXT n tx rt) (ha : a < 2 ^ 26) {i s : Nat} {Post : Int32 → Int32 → Prop} (hs : s < 78) (hb : bitn a (s % 26) = 0) (g : SgAt n tx i s) (hn : chN n tx (i + tmS s) ≠ 97 + s % 26) (P : Post (nI s) (nI (i + tmS s))) : wp_X6_readLetters rt (nI i) (nI a) Post := by
  have ht : tmS s = s / 26 + 1 := by unfold tmS; rw [if_pos hs]
  have hn60 := h.n60
  have g1 := g.1
  have h0 : chN n tx i = 65 + s % 26 := by
    have := g.ch (show 0 < tmS s by omega)
    rw [Nat.add_zero] at this
    rw [this]
    unfold chS
    rw [if_pos hs, if_pos rfl]
  have hV := ch_v h0 (by omega)
  have key : ∀ (d k : Nat), k + d = tmS s → 1 ≤ k → wl_X6_readLetters_37 rt (nI a) (nI (s % 26)) Post (d + 1) (nI (i + k)) (nI k) := by
    intro d
    induction d with
    | zero =>
      intro k hk hk1
      have e : k = tmS s := by omega
      have X : wj_X6_readLetters_76 rt (nI (i + k)) (nI a) (nI (s % 26)) (nI k) Post := by
        show Post ((nI k - nI 1) * nI 26 + nI (s % 26)) (nI (i + k))
        rw [pk_sub (by omega), pk_mul, nI_add, show (k - 1) * 26 + s % 26 = s by omega, e]
        exact P
      refine pk_le 3 k (fun _ => X) (fun _ => x_ch h (by omega) ?_)
      rw [nI_add 97 (s % 26)]
      exact ch_eq h (by omega) (fun c => absurd (e ▸ c) hn) (fun _ => X)
    | succ d ih =>
      intro k hk hk1
      have hc : chN n tx (i + k) = 97 + s % 26 := by
        rw [g.ch (show k < tmS s by omega)]
        unfold chS
        rw [if_pos hs, if_neg (by omega)]
      refine pk_le 3 k (fun z => absurd z (by omega)) (fun _ => x_ch h (by omega) ?_)
      rw [nI_add 97 (s % 26), nI_add (i + k) 1, nI_add k 1]
      exact ch_eq h (by omega) (fun _ => ih (k + 1) (by omega) (by omega)) (fun c => absurd hc c)
  refine x_ch h (by omega) ?_
  rintro _ rfl
  rw [hV, pk_sub (by omega), Nat.add_sub_cancel_left]
  refine x_has (by omega) (by omega) (fun _ => f1 ⟨tmS s - 1 + 1, ?_⟩) (fun z => absurd z (by omega))
  rw [nI_add i 1]
  exact key (tmS s - 1) 1 (by omega) (Nat.le_refl _)
theorem letters_no (h : TXT n tx rt) (ha : a < 2 ^ 26) {i l : Nat} {Post : Int32 → Int32 → Prop} (hl : l < 26) (hc : chN n tx i = 65 + l) (hb : bitn a l ≠ 0) (P : Post (-1) (nI i)) : wp_X6_readLetters rt (nI i) (nI a) Post := by
  have hV := ch_v hc (by omega)
  have hi := (ch_lt (n := n) (tx := tx) (i := i) (by omega)).1
  have hn60 := h.n60
  have hb2 := bitn_le a l
  refine x_ch h (by omega) ?_
  rintro _ rfl
  rw [hV, pk_sub (by omega), Nat.add_sub_cancel_left]
  exact x_has (by omega) hl (fun z => absurd z hb) (fun _ => f0 P)
/-- a number stands at a place -/
def nmL (z : Nat) : Nat := if z < 10 then 1 else 2
def NmAt (n : Nat) (tx : Nat → Nat) (i z : Nat) : Prop := i + nmL z ≤ n ∧ (z < 10 → tx i = 48 + z) ∧ (10 ≤ z → tx i = 48 + z / 10 ∧ tx (i + 1) = 48 + z % 10)
theorem nmL_le (z : Nat) : 1 ≤ nmL z ∧ nmL z ≤ 2 := by
  unfold nmL
  split <;> omega
theorem NmAt.first {i z : Nat} (h : NmAt n tx i z) (h1 : 1 ≤ z) (h2 : z ≤ 24) : 49 ≤ chN n tx i ∧ chN n tx i ≤ 57 := by
  have hl := nmL_le z
  obtain ⟨g1, g2, g3⟩ := h
  unfold chN
  rw [if_pos (by omega)]
  by_cases c : z < 10
  · rw [g2 c]; omega
  · rw [(g3 (by omega)).1]; omega
theorem num_at (h : TXT n tx rt) {i z : Nat} {Post : Int32 → Int32 → Prop} (h1 : 1 ≤ z) (h2 : z ≤ 24) (g : NmAt n tx i z) (hn : ¬ (48 ≤ chN n tx (i + nmL z) ∧ chN n tx (i + nmL z) ≤ 57)) (P : Post (nI z) (nI (i + nmL z))) : wp_X6_readNumber rt (nI i) Post := by
  have hn60 := h.n60
  have hf := g.first h1 h2
  have hl := nmL_le z
  obtain ⟨g1, g2, g3⟩ := g
  have hc : chN n tx i = tx i := (ch_lt (by omega)).2
  by_cases c : z < 10
  · have e : nmL z = 1 := if_pos c
    rw [e] at hn P
    have hz := g2 c
    refine x_dig h (by omega) (fun d hd hd2 => ?_) (fun q => absurd ⟨by omega, hf.2⟩ q)
    have ed : d = z := by omega
    subst ed
    refine pk_le 1 d (fun _ => ?_) (fun q => absurd q (by omega))
    rw [nI_add i 1]
    exact x_dig h (by omega) (fun d2 hd2 hd3 => absurd ⟨by omega, by omega⟩ hn) (fun _ => ⟨fun _ => P, fun q => absurd (by decide) q⟩)
  · have e : nmL z = 2 := if_neg c
    rw [e] at P g1
    obtain ⟨k1, k2⟩ := g3 (by omega)
    have hc2 : chN n tx (i + 1) = tx (i + 1) := by
      unfold chN
      rw [if_pos (by omega)]
    refine x_dig h (by omega) (fun d hd hd2 => ?_) (fun q => absurd ⟨by omega, hf.2⟩ q)
    have ed : d = z / 10 := by omega
    subst ed
    refine pk_le 1 (z / 10) (fun _ => ?_) (fun q => absurd q (by omega))
    rw [nI_add i 1]
    refine x_dig h (by omega) (fun d2 hd2 hd3 => ?_) (fun q => absurd ⟨by omega, by omega⟩ q)
    have ed2 : d2 = z % 10 := by omega
    subst ed2
    refine b_neg ?_
    rw [pk_mul, nI_add (z / 10 * 10) (z % 10), nI_add (i + 1) 1, show z / 10 * 10 + z % 10 = z by omega]
    exact pk_le z 24 (fun _ => P) (fun q => absurd q (by omega))
theorem tail_at (h : TXT n tx rt) {i z c s1 s2 : Nat} {al : Int32} {E1 E2 E3 : Nat → Nat} {u1 u2 u3 : RowT} {Post : Int32 → RowT → RowT → RowT → Int32 → Prop} (h1 : 1 ≤ z) (h2 : z ≤ 24) (g : NmAt n tx i z) (hn : ¬ (48 ≤ chN n tx (i + nmL z) ∧ chN n tx (i + nmL z) ≤ 57)) (hc : c < 20) (g1 : RowN 20 c E1 u1) (g2 : RowN 20 c E2 u2) (g3 : RowN 20 c E3 u3)
    (P : ∀ v1 v2 v3, RowN 20 (c + 1) (insF E1 c s1) v1 → RowN 20 (c + 1) (insF E2 c s2) v2 → RowN 20 (c + 1) (insF E3 c z) v3 → Post (nI 1) v1 v2 v3 (nI (i + nmL z))) : wj_X6_readEntry_69 rt u1 u2 u3 (nI i) al (nI s1) (nI s2) Post :=
  num_at h h1 h2 g hn (b_z (fun e => absurd e (by omega)) (fun _ => s_add g1 hc (fun v1 k1 => s_add g2 hc (fun v2 k2 => s_add g3 hc (fun v3 k3 => P v1 v2 v3 k1 k2 k3)))))
/-- an entry stands at a place -/
def EnAt (n : Nat) (tx : Nat → Nat) (i f1 f2 z : Nat) : Prop := SgAt n tx i f1 ∧ (f1 = f2 → NmAt n tx (i + tmS f1) z) ∧ (f1 ≠ f2 → i + tmS f1 < n ∧ tx (i + tmS f1) = 45 ∧ SgAt n tx (i + tmS f1 + 1) f2 ∧ NmAt n tx (i + tmS f1 + 1 + tmS f2) z)
def enL (f1 f2 z : Nat) : Nat := tmS f1 + (if f1 = f2 then 0 else 1 + tmS f2) + nmL z
theorem sgn_m1 {sn : Nat} (h : sn < 83) : ¬ nI sn = -1 := nI_m1 (by omega)
theorem readSign_at (h : TXT n tx rt) (ha : a < 2 ^ 26) {i s : Nat} {Post : Int32 → Int32 → Prop} (hs : s < 83) (hb : s < 78 → bitn a (s % 26) = 0) (g : SgAt n tx i s) (hn : chN n tx (i + tmS s) ≤ 57) (hn2 : chN n tx (i + tmS s) ≠ 42) (P : Post (nI s) (nI (i + tmS s))) : wp_X6_readSign rt (nI i) (nI a) Post := by
  have hn60 := h.n60
  have ht := tmS_pos (s := s)
  have g1 := g.1
  have h0 := g.ch (show 0 < tmS s by omega)
  rw [Nat.add_zero] at h0
  unfold wp_X6_readSign
  by_cases c : s < 78
  · have e : chN n tx i ≠ 42 := by
      rw [h0]
      unfold chS
      rw [if_pos c, if_pos rfl]
      omega
    exact x_ch h (by omega) (ch_eq h (by decide) (fun z => absurd z e) (fun _ => letters_at h ha c (hb c) g (by omega) P))
  · have e : chN n tx i = 42 := by
      rw [h0]
      unfold chS
      rw [if_neg c]
    exact x_ch h (by omega) (ch_eq h (by decide) (fun _ => stars_at h (by omega) hs g hn2 P) (fun z => absurd e z))
theorem entry_at (h : TXT n tx rt) (ha : a < 2 ^ 26) {i c f1' f2' z : Nat} {E1 E2 E3 : Nat → Nat} {u1 u2 u3 : RowT} {Post : Int32 → RowT → RowT → RowT → Int32 → Prop} (h1 : f1' < 83) (hle : f1' ≤ f2') (h2 : f1' ≠ f2' → f2' < 78 ∧ tmS f1' = tmS f2' ∧ bitn a (f2' % 26) = 0) (hb : f1' < 78 → bitn a (f1' % 26) = 0) (hz1 : 1 ≤ z) (hz2 : z ≤ 24) (g : EnAt n tx i f1' f2' z)
    (hn : ¬ (48 ≤ chN n tx (i + enL f1' f2' z) ∧ chN n tx (i + enL f1' f2' z) ≤ 57)) (hc : c < 20) (g1 : RowN 20 c E1 u1) (g2 : RowN 20 c E2 u2) (g3 : RowN 20 c E3 u3)
    (P : ∀ v1 v2 v3, RowN 20 (c + 1) (insF E1 c f1') v1 → RowN 20 (c + 1) (insF E2 c f2') v2 → RowN 20 (c + 1) (insF E3 c z) v3 → Post (nI 1) v1 v2 v3 (nI (i + enL f1' f2' z))) : wp_X6_readEntry rt u1 u2 u3 (nI i) (nI a) (nI 1) Post := by
  have hn60 := h.n60
  obtain ⟨k1, k2, k3⟩ := g
  unfold wp_X6_readEntry
  by_cases e : f1' = f2'
  · subst e
    have hN := k2 rfl
    have hf := hN.first hz1 hz2
    have eL : i + enL f1' f1' z = i + tmS f1' + nmL z := by unfold enL; rw [if_pos rfl]; omega
    rw [eL] at hn P
    have hk1 := k1.1
    have T : wj_X6_readEntry_69 rt u1 u2 u3 (nI (i + tmS f1')) (nI a) (nI f1') (nI f1') Post := tail_at h hz1 hz2 hN hn hc g1 g2 g3 P
    refine readSign_at h ha h1 hb k1 (by omega) (by omega) ⟨fun q => absurd q (sgn_m1 h1), fun _ => b_z (fun q => absurd q (by decide)) (fun _ => x_isStarred (by omega) (fun _ => f0 (x_ch h (by omega) (ch_eq h (by decide) (fun q => absurd q (by omega)) (fun _ => T)))) (fun _ => f1 T))⟩
  · obtain ⟨p1, p2, p3⟩ := h2 e
    obtain ⟨q1, q2, q3, q4⟩ := k3 e
    have hf := q4.first hz1 hz2
    have q3' := q3.1
    have eL : i + enL f1' f2' z = i + tmS f1' + 1 + tmS f2' + nmL z := by unfold enL; rw [if_neg e]; omega
    rw [eL] at hn P
    have hc45 : chN n tx (i + tmS f1') = 45 := by
      unfold chN
      rw [if_pos q1]
      exact q2
    have T : wj_X6_readEntry_69 rt u1 u2 u3 (nI (i + tmS f1' + 1 + tmS f2')) (nI a) (nI f1') (nI f2') Post := tail_at h hz1 hz2 q4 hn hc g1 g2 g3 P
    refine readSign_at h ha h1 hb k1 (by omega) (by omega) ⟨fun q => absurd q (sgn_m1 h1), fun _ => b_z (fun q => absurd q (by decide)) (fun _ => x_isStarred (by omega) (fun _ => f0 (x_ch h (by omega) (ch_eq h (by decide) (fun _ => ?_) (fun q => absurd hc45 q)))) (fun q => absurd q (by omega)))⟩
    rw [nI_add (i + tmS f1') 1]
    unfold wp_X6_readLastSign
    exact letters_at h ha p1 p3 q3 (by omega) ⟨fun q => absurd q (sgn_m1 (by omega)), fun _ => x_times (by omega) (x_times (by omega) (pk_eq (tmS f2') (tmS f1') (fun _ => pk_le f1' f2' (fun _ => ⟨fun q => absurd q (sgn_m1 (by omega)), fun _ => T⟩) (fun q => absurd q (by omega))) (fun q => absurd p2.symm q) rfl rfl (by have := tmS_lt (show f2' < 83 by omega); omega) (by have := tmS_lt h1; omega)))⟩
theorem entry_no (h : TXT n tx rt) (ha : a < 2 ^ 26) {i l : Nat} {u1 u2 u3 : RowT} {Post : Int32 → RowT → RowT → RowT → Int32 → Prop} {md : Int32} (hl : l < 26) (hc : chN n tx i = 65 + l) (hb : bitn a l ≠ 0) (P : Post (nI 0) u1 u2 u3 (nI i)) : wp_X6_readEntry rt u1 u2 u3 (nI i) (nI a) md Post := by
  have hi := (ch_lt (n := n) (tx := tx) (i := i) (by omega)).1
  have hn60 := h.n60
  unfold wp_X6_readEntry wp_X6_readSign
  exact x_ch h (by omega) (ch_eq h (by decide) (fun z => absurd z (by omega)) (fun _ => letters_no h ha hl hc hb ⟨fun _ => P, fun z => absurd rfl z⟩))
/-- the empty text is refused at its start -/
theorem entries_none (h : TXT 0 tx rt) {u1 u2 u3 : RowT} {p : Int32} {al md : Nat} {Post : Int32 → RowT → RowT → RowT → Int32 → Prop} (g1 : AnyR 20 u1) (g2 : AnyR 20 u2) (g3 : AnyR 20 u3) (P : ∀ v1 v2 v3, AnyR 20 v1 → AnyR 20 v2 → AnyR 20 v3 → Post (nI 0) v1 v2 v3 (nI 0)) : wp_X6_readEntries rt u1 u2 u3 p (nI al) (nI md) Post := by
  obtain ⟨_, _, g1⟩ := g1
  obtain ⟨_, _, g2⟩ := g2
  obtain ⟨_, _, g3⟩ := g3
  have hV : chV 0 tx 0 = -1 := rfl
  refine s_empty g1 (fun w1 k1 => s_empty g2 (fun w2 k2 => s_empty g3 (fun w3 k3 => ⟨1, s_length h.1 (pk_lt 0 0 (fun z => absurd z (by omega)) (fun _ => ?_))⟩)))
  unfold wp_X6_readEntry wp_X6_readSign
  refine x_ch (i := 0) h (by omega) ?_
  rw [hV]
  refine ⟨fun z => absurd z (by decide), fun _ => x_ch (i := 0) h (by omega) ?_⟩
  rw [hV]
  rintro _ rfl
  refine x_has_out (Or.inl (by decide)) (f0 ⟨fun _ => f0 (P _ _ _ ⟨0, fun _ => 0, k1 _⟩ ⟨0, fun _ => 0, k2 _⟩ ⟨0, fun _ => 0, k3 _⟩), fun z => absurd rfl z⟩)
end parse
