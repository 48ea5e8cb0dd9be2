set_option maxHeartbeats 400000
/-! what is read of the text: signs -/
section parse
variable {n a md : Nat} {tx : Nat → Nat} {rt : RowT} {g s : Nat → Int32} {B : BkA}
/-- the character at a place; behind the end none -/
def chN (n : Nat) (tx : Nat → Nat) (i : Nat) : Nat := if i < n then tx i else 70000
def chV (n : Nat) (tx : Nat → Nat) (i : Nat) : Int32 := if i < n then nI (tx i) else -1
/-- the text on both sides -/
def TXT (n : Nat) (tx : Nat → Nat) (rt : RowT) (g : Nat → Int32) : Prop := RowN 60 n tx rt ∧ ∀ j, j < n → g j = nI (tx j) ∧ tx j < 65536
/-- the alphabet on both sides: of a formula the book's, of a pile all letters -/
def ALF (a md : Nat) (s : Nat → Int32) (B : BkA) : Prop := MB s B ∧ WB B ∧ ((md = 0 ∧ a = 0) ∨ (md = 1 ∧ a = bal B))
theorem TXT.n60 (h : TXT n tx rt g) : n ≤ 60 := h.1.2.2.1
theorem ALF.lt (h : ALF a md s B) : a < 2 ^ 26 ∧ md ≤ 1 := by
  obtain ⟨_, w, h⟩ := h
  have := w.1
  rcases h with ⟨h1, h2⟩ | ⟨h1, h2⟩
  · rw [h2]; exact ⟨by decide, by omega⟩
  · rw [h2]; exact ⟨this, by omega⟩
theorem x_ch {Post : Int32 → Prop} (h : TXT n tx rt g) {i : Nat} (hi : i < 1000) (P : Post (chV n tx i)) : wp_X4_at rt (nI i) Post := by
  unfold chV at P
  by_cases c : i < n
  · rw [if_pos c] at P; exact s_at h.1 i c P
  · rw [if_neg c] at P; exact s_at_out h.1 i (by omega) (by omega) P
theorem ch_eq {A C : Prop} (h : TXT n tx rt g) {i k : Nat} (hk : k < 65536) (f : chN n tx i = k → A) (f2 : chN n tx i ≠ k → C) : (chV n tx i = nI k → A) ∧ (¬ chV n tx i = nI k → C) := by
  unfold chV
  unfold chN at f f2
  by_cases c : i < n
  · have hb := (h.2 i c).2
    rw [if_pos c]
    rw [if_pos c] at f f2
    exact pk_eq (tx i) k f f2
  · rw [if_neg c]
    rw [if_neg c] at f2
    exact ⟨fun z => absurd z.symm (nI_m1 (by omega)), fun _ => f2 (by omega)⟩
theorem r_nx {Post : Int32 → Prop} (h : TXT n tx rt g) {i lo hi : Nat} (hi2 : i < 1000) (hlo : lo < 65536) (hhi : hi < 65536) (P1 : lo ≤ chN n tx i → chN n tx i ≤ hi → Post (nI 1)) (P0 : ¬ (lo ≤ chN n tx i ∧ chN n tx i ≤ hi) → Post (nI 0)) : wp_X9_isNext g (nI n) (nI i) (nI 1) (nI lo) (nI hi) Post := by
  have hn := h.n60
  unfold chN at P1 P0
  refine f1 (pk_le n i (fun c => ?_) (fun c => ⟨vp_in_nI (by omega) (by decide), ?_⟩))
  · rw [if_neg (by omega)] at P0
    exact P0 (fun z => by omega)
  · rw [if_pos c] at P1 P0
    have hb := (h.2 i c).2
    rw [nI_clamp (by omega), (h.2 i c).1]
    exact pk_lt (tx i) lo (fun q => f0 (P0 (fun z => by omega))) (fun q => pk_lt hi (tx i) (fun q2 => f0 (P0 (fun z => by omega))) (fun q2 => f1 (P1 q q2)))
theorem ch_lt {i : Nat} (h : chN n tx i < 65536) : i < n ∧ chN n tx i = tx i := by
  unfold chN at h ⊢
  by_cases c : i < n
  · rw [if_pos c]; exact ⟨c, rfl⟩
  · rw [if_neg c] at h; omega
/-- stars from i on -/
theorem stars_loop (h : TXT n tx rt g) {i : Nat} (hi : i ≤ n) : ∀ (d k : Nat), k + d = 5 → i + k ≤ n → ∃ k2, k ≤ k2 ∧ k2 ≤ 5 ∧ i + k2 ≤ n ∧ (chN n tx (i + k) = 42 → d ≠ 0 → k < k2)
    ∧ (∀ Post, Post (nI (77 + k2)) (nI (i + k2)) → 1 ≤ k2 → wl_X6_readStars_2 rt Post (d + 1) (nI (i + k)) (nI k))
    ∧ (∀ Post, Post (nI (i + k2)) (nI 1) (nI k2) (-1) → wl_X9_reads_21 s g (nI n) (nI 1) (-1) Post (d + 1) (nI (i + k)) (nI k)) := by
  have hn := h.n60
  intro d
  induction d with
  | zero =>
    intro k hk hik
    have e : k = 5 := by omega
    subst e
    refine ⟨5, Nat.le_refl _, Nat.le_refl _, hik, fun _ z => absurd rfl z, fun Post P _ => ⟨fun _ => ?_, fun z => absurd (by decide) z⟩, fun Post P => ⟨fun _ => P, fun z => absurd (by decide) z⟩⟩
    exact P
  | succ d ih =>
    intro k hk hik
    by_cases c : chN n tx (i + k) = 42
    · have hc := ch_lt (n := n) (tx := tx) (i := i + k) (by omega)
      obtain ⟨k2, h1, h2, h3, _, hX, hM⟩ := ih (k + 1) (by omega) (by omega)
      refine ⟨k2, by omega, h2, h3, fun _ _ => by omega, fun Post P hk2 => pk_le 5 k (fun z => absurd z (by omega)) (fun _ => x_ch h (by omega) (ch_eq h (by decide) (fun _ => ?_) (fun z => absurd c z))), fun Post P => pk_le 5 k (fun z => absurd z (by omega)) (fun _ => r_nx h (by omega) (by decide) (by decide) (fun _ _ => f1 ?_) (fun z => absurd (by omega) z))⟩
      · rw [nI_add (i + k) 1, nI_add k 1]
        exact hX Post P hk2
      · rw [nI_add (i + k) 1, nI_add k 1]
        exact hM Post P
    · refine ⟨k, Nat.le_refl _, by omega, hik, fun z => absurd z c, fun Post P hk2 => pk_le 5 k (fun z => absurd z (by omega)) (fun _ => x_ch h (by omega) (ch_eq h (by decide) (fun z => absurd z c) (fun _ => ?_))), fun Post P => pk_le 5 k (fun z => absurd z (by omega)) (fun _ => r_nx h (by omega) (by decide) (by decide) (fun z1 z2 => absurd (show chN n tx (i + k) = 42 by omega) c) (fun _ => f0 P))⟩
      show Post (nI 78 + nI k - nI 1) (nI (i + k))
      rw [nI_add, pk_sub (by omega), show 78 + k - 1 = 77 + k by omega]
      exact P
/-- small letters behind a capital -/
theorem lets_loop (h : TXT n tx rt g) {i l : Nat} (hl : l < 26) : ∀ (d k : Nat), k + d = 3 → 1 ≤ k → i + k ≤ n → ∃ k2, k ≤ k2 ∧ k2 ≤ 3 ∧ i + k2 ≤ n
    ∧ (∀ Post, Post (nI ((k2 - 1) * 26 + l)) (nI (i + k2)) → wl_X6_readLetters_37 rt (nI a) (nI l) Post (d + 1) (nI (i + k)) (nI k))
    ∧ (∀ Post, Post (nI (i + k2)) (nI 1) (nI k2) (nI l) → wl_X9_reads_145 s g (nI n) (nI 1) (nI l) Post (d + 1) (nI (i + k)) (nI k)) := by
  have hn := h.n60
  intro d
  induction d with
  | zero =>
    intro k hk hk1 hik
    have e : k = 3 := by omega
    subst e
    refine ⟨3, Nat.le_refl _, Nat.le_refl _, hik, fun Post P => ⟨fun _ => ?_, fun z => absurd (by decide) z⟩, fun Post P => ⟨fun _ => P, fun z => absurd (by decide) z⟩⟩
    show Post ((nI 3 - nI 1) * nI 26 + nI l) (nI (i + 3))
    rw [pk_sub (by omega), pk_mul, nI_add]
    exact P
  | succ d ih =>
    intro k hk hk1 hik
    by_cases c : chN n tx (i + k) = 97 + l
    · have hc := ch_lt (n := n) (tx := tx) (i := i + k) (by omega)
      obtain ⟨k2, h1, h2, h3, hX, hM⟩ := ih (k + 1) (by omega) (by omega) (by omega)
      refine ⟨k2, by omega, h2, h3, fun Post P => pk_le 3 k (fun z => absurd z (by omega)) (fun _ => x_ch h (by omega) ?_), fun Post P => pk_le 3 k (fun z => absurd z (by omega)) (fun _ => ?_)⟩
      · rw [nI_add 97 l, nI_add (i + k) 1, nI_add k 1]
        exact ch_eq h (by omega) (fun _ => hX Post P) (fun z => absurd c z)
      · rw [nI_add 97 l, nI_add (i + k) 1, nI_add k 1]
        exact r_nx h (by omega) (by omega) (by omega) (fun _ _ => f1 (hM Post P)) (fun z => absurd (by omega) z)
    · refine ⟨k, Nat.le_refl _, by omega, hik, fun Post P => pk_le 3 k (fun z => absurd z (by omega)) (fun _ => x_ch h (by omega) ?_), fun Post P => pk_le 3 k (fun z => absurd z (by omega)) (fun _ => ?_)⟩
      · rw [nI_add 97 l]
        refine ch_eq h (by omega) (fun z => absurd z c) (fun _ => ?_)
        show Post ((nI k - nI 1) * nI 26 + nI l) (nI (i + k))
        rw [pk_sub (by omega), pk_mul, nI_add]
        exact P
      · rw [nI_add 97 l]
        exact r_nx h (by omega) (by omega) (by omega) (fun z1 z2 => absurd (show chN n tx (i + k) = 97 + l by omega) c) (fun _ => f0 P)
theorem let_sign {k l : Nat} (hk1 : 1 ≤ k) (hk : k ≤ 3) (hl : l < 26) : (k - 1) * 26 + l < 78 ∧ tmS ((k - 1) * 26 + l) = k ∧ ltS ((k - 1) * 26 + l) = nI l ∧ ((k - 1) * 26 + l) % 26 = l := by
  have h1 : (k - 1) * 26 + l < 78 := by omega
  have h4 : ((k - 1) * 26 + l) % 26 = l := by omega
  refine ⟨h1, ?_, ?_, h4⟩
  · unfold tmS; rw [if_pos h1]; omega
  · unfold ltS; rw [if_pos h1, h4]
theorem star_sign {k : Nat} (hk1 : 1 ≤ k) (hk : k ≤ 5) : tmS (77 + k) = k ∧ ltS (77 + k) = -1 := by
  refine ⟨?_, ?_⟩
  · unfold tmS; rw [if_neg (by omega)]; omega
  · unfold ltS; rw [if_neg (by omega)]
/-- a sign of letters, or none, on both sides -/
theorem letters_ex (h : TXT n tx rt g) (al : ALF a md s B) {i : Nat} (hi : i ≤ n) (hc : chN n tx i ≠ 42) :
    (∃ sn k, 1 ≤ k ∧ i + k ≤ n ∧ sn < 78 ∧ bitn a (sn % 26) = 0 ∧ (∀ Post, Post (nI sn) (nI (i + k)) → wp_X6_readLetters rt (nI i) (nI a) Post) ∧ (∀ tm lt Post, Post (nI (i + k)) (nI 1) (nI (tmS sn)) (ltS sn) → wp_X9_reads s g (nI n) (nI i) (nI 1) tm lt (nI md) Post))
    ∨ ((∀ Post, Post (-1) (nI i) → wp_X6_readLetters rt (nI i) (nI a) Post) ∧ (∀ tm lt Post, Post (nI i) (nI 0) (nI 0) (-1) → wp_X9_reads s g (nI n) (nI i) (nI 1) tm lt (nI md) Post)) := by
  have hn := h.n60
  have ha := al.lt
  obtain ⟨mb, w, hal⟩ := al
  by_cases c : 65 ≤ chN n tx i ∧ chN n tx i ≤ 90
  · have hlt := ch_lt (n := n) (tx := tx) (i := i) (by omega)
    obtain ⟨l, hl⟩ : ∃ l, chN n tx i = 65 + l := ⟨chN n tx i - 65, by omega⟩
    have hl26 : l < 26 := by omega
    have hV : chV n tx i = nI (65 + l) := by unfold chV; rw [if_pos hlt.1, ← hlt.2, hl]
    have hg : g (nI i).toNatClampNeg = nI (65 + l) := by rw [nI_clamp (by omega), (h.2 i hlt.1).1, ← hlt.2, hl]
    have hsub : nI (65 + l) - nI 65 = nI l := by rw [pk_sub (by omega), Nat.add_sub_cancel_left]
    have hb := bitn_le a l
    have M0 : ∀ tm lt Post, (∀ t1 : Nat, t1 = 1 - bitn a l → wj_X9_reads_104 s g (nI n) (nI i) (nI 1) (nI 0) (-1) (nI t1) Post) → wp_X9_reads s g (nI n) (nI i) (nI 1) tm lt (nI md) Post := by
      intro tm lt Post P
      refine r_nx h (by omega) (by decide) (by decide) (fun z1 z2 => absurd (show chN n tx i = 42 by omega) hc) (fun _ => f0 (r_nx h (by omega) (by decide) (by decide) (fun _ _ => f1 (b_z (fun e => ?_) (fun e => ⟨vp_in_nI (by omega) (by decide), ?_⟩))) (fun z => absurd c z)))
      · have e2 : a = 0 := by omega
        subst e2
        have e3 : bitn 0 l = 0 := by unfold bitn; rw [Nat.zero_div]
        exact P 1 (by omega)
      · have e2 : a = bal B := by omega
        subst e2
        rw [hg, hsub]
        exact r_isOut mb w (by omega) (b_z (fun z => P 1 (by omega)) (fun z => P 0 (by omega)))
    by_cases cb : bitn a l = 0
    · obtain ⟨k2, h1, h2, h3, hX, hM⟩ := lets_loop (a := a) (s := s) h hl26 2 1 rfl (Nat.le_refl 1) (show i + 1 ≤ n by omega)
      obtain ⟨s1, s2, s3, s4⟩ := let_sign h1 h2 hl26
      refine Or.inl ⟨(k2 - 1) * 26 + l, k2, h1, h3, s1, by rw [s4]; exact cb, fun Post P => x_ch h (by omega) ?_, fun tm lt Post P => M0 tm lt Post (fun t1 ht => ?_)⟩
      · rintro _ rfl
        rw [hV, hsub]
        refine x_has (by omega) hl26 (fun _ => f1 ?_) (fun z => absurd z (by omega))
        rw [nI_add i 1]
        exact ⟨3, hX Post P⟩
      · have e : t1 = 1 := by omega
        subst e
        refine ⟨Or.inr rfl, f1 ⟨vp_in_nI (by omega) (by decide), ?_⟩⟩
        rw [hg, hsub, nI_add i 1]
        rw [s2, s3] at P
        exact ⟨3, hM Post P⟩
    · refine Or.inr ⟨fun Post P => x_ch h (by omega) ?_, fun tm lt Post P => M0 tm lt Post (fun t1 ht => ?_)⟩
      · rintro _ rfl
        rw [hV, hsub]
        exact x_has (by omega) hl26 (fun z => absurd z cb) (fun _ => f0 P)
      · have e : t1 = 0 := by omega
        subst e
        exact ⟨Or.inl rfl, f0 P⟩
  · refine Or.inr ⟨fun Post P => x_ch h (by omega) ?_, fun tm lt Post P => ?_⟩
    · rintro _ rfl
      refine x_has_out ?_ (f0 P)
      unfold chV
      unfold chN at c
      by_cases q : i < n
      · rw [if_pos q] at c
        rw [if_pos q]
        have hb := (h.2 i q).2
        by_cases q2 : tx i < 65
        · exact Or.inl (pk_sneg (by decide) q2)
        · rw [pk_sub (by omega)]
          exact Or.inr ((nI_leI (by omega) (by omega)).mpr (by omega))
      · rw [if_neg q]
        exact Or.inl (by decide)
    · exact r_nx h (by omega) (by decide) (by decide) (fun z1 z2 => absurd (show chN n tx i = 42 by omega) hc) (fun _ => f0 (r_nx h (by omega) (by decide) (by decide) (fun z1 z2 => absurd ⟨z1, z2⟩ c) (fun _ => f0 ⟨Or.inl rfl, f0 P⟩)))
/-- stars, on both sides; letters are none there -/
theorem stars_ex (h : TXT n tx rt g) {i : Nat} (hc : chN n tx i = 42) : ∃ k, 1 ≤ k ∧ k ≤ 5 ∧ i + k ≤ n ∧ (∀ Post, Post (nI (77 + k)) (nI (i + k)) → wp_X6_readStars rt (nI i) Post) ∧ (∀ tm lt Post, Post (nI (i + k)) (nI 1) (nI k) (-1) → wp_X9_reads s g (nI n) (nI i) (nI 1) tm lt (nI md) Post)
    ∧ (∀ (a : Nat) Post, Post (-1) (nI i) → wp_X6_readLetters rt (nI i) (nI a) Post) := by
  have hn := h.n60
  have hlt := ch_lt (n := n) (tx := tx) (i := i) (by omega)
  obtain ⟨k, h1, h2, h3, h4, hX, hM⟩ := stars_loop (s := s) h (show i ≤ n by omega) 5 0 rfl (by omega)
  have hk := h4 hc (by decide)
  refine ⟨k, by omega, h2, h3, fun Post P => ⟨6, hX Post P (by omega)⟩, fun tm lt Post P => r_nx h (by omega) (by decide) (by decide) (fun _ _ => f1 ⟨6, hM Post P⟩) (fun z => absurd (by omega) z), fun a Post P => x_ch h (by omega) ?_⟩
  rintro _ rfl
  refine x_has_out ?_ (f0 P)
  unfold chV
  rw [if_pos hlt.1, ← hlt.2, hc]
  exact Or.inl (by decide)
end parse
