set_option maxHeartbeats 400000
/-! what is read of the text: numbers, entries -/
section parse
variable {n a md : Nat} {tx : Nat → Nat} {rt : RowT} {g s : Nat → Int32} {B : BkA}
theorem x_dig {Post : Int32 → Prop} (h : TXT n tx rt g) {i : Nat} (hi : i < 1000) (P1 : ∀ d, d ≤ 9 → chN n tx i = 48 + d → Post (nI d)) (P0 : ¬ (48 ≤ chN n tx i ∧ chN n tx i ≤ 57) → Post (-1)) : wp_X6_digitAt rt (nI i) Post := by
  refine x_ch h hi ?_
  rintro _ rfl
  unfold chV
  unfold chN at P1 P0
  by_cases c : i < n
  · rw [if_pos c] at P1 P0
    rw [if_pos c]
    have hb := (h.2 i c).2
    by_cases q : tx i < 48
    · exact ⟨fun _ => P0 (fun z => by omega), fun z => absurd (pk_sneg (by decide) q) z⟩
    · rw [pk_sub (by omega)]
      exact b_neg (pk_lt 9 (tx i - 48) (fun z => P0 (fun z2 => by omega)) (fun z => P1 (tx i - 48) (by omega) (by omega)))
  · rw [if_neg c] at P0
    rw [if_neg c]
    exact ⟨fun _ => P0 (fun z => by omega), fun z => absurd (by decide) z⟩
theorem number_ex (h : TXT n tx rt g) {i : Nat} (hi : i ≤ n) :
    (∃ z k, 1 ≤ z ∧ z ≤ 24 ∧ 1 ≤ k ∧ i + k ≤ n ∧ (∀ Post, Post (nI z) (nI (i + k)) → wp_X6_readNumber rt (nI i) Post) ∧ (∀ Post, Post (nI z) (nI (i + k)) (nI 1) → wp_X9_number g (nI n) (nI i) (nI 1) Post))
    ∨ ((∀ Post, Post (nI 0) (nI i) → wp_X6_readNumber rt (nI i) Post) ∧ (∀ Post, Post (nI 0) (nI i) (nI 0) → wp_X9_number g (nI n) (nI i) (nI 1) Post)) := by
  have hn := h.n60
  by_cases c : 49 ≤ chN n tx i ∧ chN n tx i ≤ 57
  · have hlt := ch_lt (n := n) (tx := tx) (i := i) (by omega)
    obtain ⟨d, hd⟩ : ∃ d, chN n tx i = 48 + d := ⟨chN n tx i - 48, by omega⟩
    have hg : g (nI i).toNatClampNeg = nI (48 + d) := by rw [nI_clamp (by omega), (h.2 i hlt.1).1, ← hlt.2, hd]
    have hsub : ∀ e, nI (48 + e) - nI 48 = nI e := fun e => by rw [pk_sub (by omega), Nat.add_sub_cancel_left]
    by_cases c2 : 48 ≤ chN n tx (i + 1) ∧ chN n tx (i + 1) ≤ 57 ∧ d * 10 + (chN n tx (i + 1) - 48) ≤ 24
    · have hlt2 := ch_lt (n := n) (tx := tx) (i := i + 1) (by omega)
      obtain ⟨e, he⟩ : ∃ e, chN n tx (i + 1) = 48 + e := ⟨chN n tx (i + 1) - 48, by omega⟩
      have hg2 : g (nI (i + 1)).toNatClampNeg = nI (48 + e) := by rw [nI_clamp (by omega), (h.2 (i + 1) hlt2.1).1, ← hlt2.2, he]
      refine Or.inl ⟨d * 10 + e, 2, by omega, by omega, by omega, by omega, fun Post P => x_dig h (by omega) (fun d2 h1 h2 => ?_) (fun z => absurd (by omega) z), fun Post P => r_nx h (by omega) (by decide) (by decide) (fun _ _ => f1 ⟨vp_in_nI (by omega) (by decide), ?_⟩) (fun z => absurd c z)⟩
      · have e1 : d2 = d := by omega
        subst e1
        refine pk_le 1 d2 (fun _ => ?_) (fun z => absurd z (by omega))
        rw [nI_add i 1]
        refine x_dig h (by omega) (fun d3 h3 h4 => ?_) (fun z => absurd (by omega) z)
        have e2 : d3 = e := by omega
        subst e2
        rw [pk_mul, nI_add (d2 * 10) d3, nI_add (i + 1) 1]
        exact b_neg (pk_le (d2 * 10 + d3) 24 (fun _ => P) (fun z => absurd z (by omega)))
      · rintro _ rfl
        rw [hg, hsub]
        have K : ∀ hi, 57 ≤ hi ∨ (52 ≤ hi ∧ d = 2) → hi < 65536 → wj_X9_number_61 g (nI n) (nI (i + 1)) (nI 1) (nI d) (nI 48) (nI hi) Post := by
          intro hi hh hh2
          refine r_nx h (by omega) (by decide) hh2 (fun _ _ => f1 ⟨vp_in_nI (by omega) (by decide), ?_⟩) (fun z => absurd (by omega) z)
          rintro _ rfl
          rw [hg2, pk_mul, nI_add (10 * d), pk_sub (by omega), nI_add (i + 1) 1, show 10 * d + (48 + e) - 48 = d * 10 + e by omega]
          exact P
        refine pk_le 3 d (fun z => absurd z (by omega)) (fun _ => ?_)
        rw [nI_add i 1]
        exact pk_eq d 1 (fun _ => K 57 (Or.inl (by omega)) (by decide)) (fun z => K 52 (Or.inr (by omega)) (by decide))
    · refine Or.inl ⟨d, 1, by omega, by omega, by omega, by omega, fun Post P => x_dig h (by omega) (fun d2 h1 h2 => ?_) (fun z => absurd (by omega) z), fun Post P => r_nx h (by omega) (by decide) (by decide) (fun _ _ => f1 ⟨vp_in_nI (by omega) (by decide), ?_⟩) (fun z => absurd c z)⟩
      · have e1 : d2 = d := by omega
        subst e1
        refine pk_le 1 d2 (fun _ => ?_) (fun z => absurd z (by omega))
        rw [nI_add i 1]
        refine x_dig h (by omega) (fun d3 h3 h4 => ?_) (fun z => ⟨fun _ => P, fun z2 => absurd (by decide) z2⟩)
        rw [pk_mul, nI_add (d2 * 10) d3]
        exact b_neg (pk_le (d2 * 10 + d3) 24 (fun z => absurd z (by omega)) (fun _ => P))
      · rintro _ rfl
        rw [hg, hsub]
        have K : ∀ hi, (hi = 57 ∧ d = 1) ∨ (hi = 52 ∧ d = 2) → hi < 65536 → wj_X9_number_61 g (nI n) (nI (i + 1)) (nI 1) (nI d) (nI 48) (nI hi) Post := by
          intro hi hh hh2
          exact r_nx h (by omega) (by decide) hh2 (fun z1 z2 => absurd (show 48 ≤ chN n tx (i + 1) ∧ chN n tx (i + 1) ≤ 57 ∧ d * 10 + (chN n tx (i + 1) - 48) ≤ 24 by omega) c2) (fun _ => f0 P)
        rw [nI_add i 1]
        exact pk_le 3 d (fun _ => P) (fun _ => pk_eq d 1 (fun _ => K 57 (Or.inl (by omega)) (by decide)) (fun z => K 52 (Or.inr (by omega)) (by decide)))
  · refine Or.inr ⟨fun Post P => x_dig h (by omega) (fun d h1 h2 => ?_) (fun _ => ⟨fun z => absurd z (by decide), fun _ => P⟩), fun Post P => r_nx h (by omega) (by decide) (by decide) (fun z1 z2 => absurd ⟨z1, z2⟩ c) (fun _ => f0 P)⟩
    exact pk_le 1 d (fun z => absurd (by omega) c) (fun _ => P)
/-- the number behind the signs of an entry, on both sides -/
theorem tail_ex (h : TXT n tx rt g) {i c : Nat} (hi : i ≤ n) (hc : c < 30) :
    (∃ z k, 1 ≤ z ∧ z ≤ 24 ∧ 1 ≤ k ∧ i + k ≤ n ∧ (∀ al f1' f2' f3' u1 u2 u3 s1 s2 Post, c < 20 → RowN 20 c f1' u1 → RowN 20 c f2' u2 → RowN 20 c f3' u3 → (∀ v1 v2 v3, RowN 20 (c + 1) (insF f1' c s1) v1 → RowN 20 (c + 1) (insF f2' c s2) v2 → RowN 20 (c + 1) (insF f3' c z) v3 → Post (nI 1) v1 v2 v3 (nI (i + k))) → wj_X6_readEntry_69 rt u1 u2 u3 (nI i) al (nI s1) (nI s2) Post)
      ∧ (∀ told tm lt Post, Post (upd told (4 * c + 3) (nI z)) (nI (i + k)) (nI 1) tm lt (nI (c + 1)) → wj_X9_item_177 s g told (nI n) (nI i) (nI 1) tm lt (nI c) (nI (4 * c)) Post))
    ∨ ((∀ al v3 v4 u1 u2 u3 Post, Post (nI 0) u1 u2 u3 (nI i) → wj_X6_readEntry_69 rt u1 u2 u3 (nI i) al v3 v4 Post) ∧ (∀ told tm lt Post, (∀ t2, Post t2 (nI i) (nI 0) tm lt (nI (c + 1))) → wj_X9_item_177 s g told (nI n) (nI i) (nI 1) tm lt (nI c) (nI (4 * c)) Post)) := by
  rcases number_ex h hi with ⟨z, k, h1, h2, h3, h4, hX, hM⟩ | ⟨hX, hM⟩
  · refine Or.inl ⟨z, k, h1, h2, h3, h4, fun al f1' f2' f3' u1 u2 u3 s1 s2 Post hc2 g1 g2 g3 P => hX _ (b_z (fun e => absurd e (by omega)) (fun _ => s_add g1 hc2 (fun v1 k1 => s_add g2 hc2 (fun v2 k2 => s_add g3 hc2 (fun v3 k3 => P v1 v2 v3 k1 k2 k3))))), fun told tm lt Post P => f1 (hM _ ?_)⟩
    rw [nI_add (4 * c) 3]
    refine ⟨vp_in_nI (by omega) (by decide), ?_⟩
    rw [nI_clamp (by omega), nI_add c 1]
    exact P
  · refine Or.inr ⟨fun al v3 v4 u1 u2 u3 Post P => hX _ (f0 P), fun told tm lt Post P => f1 (hM _ ?_)⟩
    rw [nI_add (4 * c) 3]
    refine ⟨vp_in_nI (by omega) (by decide), ?_⟩
    rw [nI_add c 1]
    exact P _
/-- where an item's reading failed -/
theorem item_0 {told : Nat → Int32} {i c : Nat} {tm lt : Int32} {Post : (Nat → Int32) → Int32 → Int32 → Int32 → Int32 → Int32 → Prop} (hc : c < 30) (P : ∀ t2, Post t2 (nI i) (nI 0) tm lt (nI (c + 1))) : wj_X9_item_177 s g told (nI n) (nI i) (nI 0) tm lt (nI c) (nI (4 * c)) Post := by
  refine f0 ?_
  rw [nI_add (4 * c) 3]
  refine ⟨vp_in_nI (by omega) (by decide), ?_⟩
  rw [nI_add c 1]
  exact P _
theorem item_165 {told : Nat → Int32} {i c : Nat} {tm lt : Int32} {Post : (Nat → Int32) → Int32 → Int32 → Int32 → Int32 → Int32 → Prop} (hc : c < 30) (P : ∀ t2, Post t2 (nI i) (nI 0) tm lt (nI (c + 1))) : wj_X9_item_165 s g told (nI n) (nI i) (nI 0) tm lt (nI c) (nI (4 * c)) Post := by
  unfold wj_X9_item_165
  rw [nI_add (4 * c) 2]
  exact ⟨vp_in_nI (by omega) (by decide), item_0 hc P⟩
theorem tld {told : Nat → Int32} {c : Nat} {A L1 L2 Z : Int32} : (∀ j, j < 4 * c → upd (upd (upd (upd told (4 * c) A) (4 * c + 1) L1) (4 * c + 2) L2) (4 * c + 3) Z j = told j) ∧ upd (upd (upd (upd told (4 * c) A) (4 * c + 1) L1) (4 * c + 2) L2) (4 * c + 3) Z (4 * c) = A ∧ upd (upd (upd (upd told (4 * c) A) (4 * c + 1) L1) (4 * c + 2) L2) (4 * c + 3) Z (4 * c + 1) = L1 ∧ upd (upd (upd (upd told (4 * c) A) (4 * c + 1) L1) (4 * c + 2) L2) (4 * c + 3) Z (4 * c + 2) = L2 ∧ upd (upd (upd (upd told (4 * c) A) (4 * c + 1) L1) (4 * c + 2) L2) (4 * c + 3) Z (4 * c + 3) = Z := by
  refine ⟨fun j hj => ?_, ?_, ?_, ?_, ?_⟩
  · rw [pk_un (by omega), pk_un (by omega), pk_un (by omega), pk_un (by omega)]
  · rw [pk_un (by omega), pk_un (by omega), pk_un (by omega), pk_us]
  · rw [pk_un (by omega), pk_un (by omega), pk_us]
  · rw [pk_un (by omega), pk_us]
  · rw [pk_us]
theorem tld2 {told : Nat → Int32} {c : Nat} {A L1 L2 L3 Z : Int32} : upd (upd (upd (upd (upd told (4 * c) A) (4 * c + 1) L1) (4 * c + 2) L3) (4 * c + 2) L2) (4 * c + 3) Z = upd (upd (upd (upd told (4 * c) A) (4 * c + 1) L1) (4 * c + 2) L2) (4 * c + 3) Z := by
  funext j
  simp only [upd]
  by_cases e : j = 4 * c + 3
  · rw [if_pos e, if_pos e]
  · rw [if_neg e, if_neg e]
    by_cases e2 : j = 4 * c + 2
    · rw [if_pos e2, if_pos e2]
    · rw [if_neg e2, if_neg e2, if_neg e2]
theorem sgn_m1 {sn : Nat} (h : sn < 83) : ¬ nI sn = -1 := nI_m1 (by omega)
/-- an entry, on both sides -/
def EntEx (n a md : Nat) (rt : RowT) (g s : Nat → Int32) (i c : Nat) : Prop :=
    (∃ s1 s2 z k, 2 ≤ k ∧ i + k ≤ n ∧ 1 ≤ z ∧ z ≤ 24 ∧ s1 < 83 ∧ s2 < 83 ∧ s1 ≤ s2 ∧ (s1 ≠ s2 → s2 < 78) ∧ (md = 0 → s1 = s2) ∧ tmS s1 = tmS s2 ∧ (s1 < 78 → bitn a (s1 % 26) = 0) ∧ (s2 < 78 → bitn a (s2 % 26) = 0)
      ∧ (∀ f1' f2' f3' u1 u2 u3 Post, c < 20 → RowN 20 c f1' u1 → RowN 20 c f2' u2 → RowN 20 c f3' u3 → (∀ v1 v2 v3, RowN 20 (c + 1) (insF f1' c s1) v1 → RowN 20 (c + 1) (insF f2' c s2) v2 → RowN 20 (c + 1) (insF f3' c z) v3 → Post (nI 1) v1 v2 v3 (nI (i + k))) → wp_X6_readEntry rt u1 u2 u3 (nI i) (nI a) (nI md) Post)
      ∧ (∀ told tm lt Post, (∀ t2 tm2 lt2, (∀ j, j < 4 * c → t2 j = told j) → t2 (4 * c) = nI (tmS s1) → t2 (4 * c + 1) = ltS s1 → t2 (4 * c + 2) = ltS s2 → t2 (4 * c + 3) = nI z → Post t2 (nI (i + k)) (nI 1) tm2 lt2 (nI (c + 1))) → wp_X9_item s g told (nI n) (nI i) (nI 1) tm lt (nI c) (nI md) Post))
    ∨ (∃ e, e ≤ n ∧ (∀ u1 u2 u3 Post, Post (nI 0) u1 u2 u3 (nI e) → wp_X6_readEntry rt u1 u2 u3 (nI i) (nI a) (nI md) Post) ∧ (∀ told tm lt Post, (∀ t2 tm2 lt2, Post t2 (nI e) (nI 0) tm2 lt2 (nI (c + 1))) → wp_X9_item s g told (nI n) (nI i) (nI 1) tm lt (nI c) (nI md) Post))
theorem entry_ex (h : TXT n tx rt g) (al : ALF a md s B) {i c : Nat} (hi : i ≤ n) (hc : c < 30) : EntEx n a md rt g s i c := by
  unfold EntEx
  have hn := h.n60
  have ha := al.lt
  -- the head of an item
  have IT : ∀ (told : Nat → Int32) (tm lt : Int32) (Post : (Nat → Int32) → Int32 → Int32 → Int32 → Int32 → Int32 → Prop) (u4 u5 u6 u7 : Int32), (∀ Q : Int32 → Int32 → Int32 → Int32 → Prop, Q u4 u5 u6 u7 → wp_X9_reads s g (nI n) (nI i) (nI 1) tm lt (nI md) Q) →
      (∀ T, T = upd (upd (upd told (4 * c) u6) (4 * c + 1) u7) (4 * c + 2) u7 → ((nI md = 0 → wj_X9_item_177 s g T (nI n) u4 u5 u6 u7 (nI c) (nI (4 * c)) Post) ∧ (¬ nI md = 0 → ((u7 < 0 → wj_X9_item_177 s g T (nI n) u4 u5 u6 u7 (nI c) (nI (4 * c)) Post) ∧ (¬ u7 < 0 → wp_X9_isNext g (nI n) u4 u5 (nI 45) (nI 45) (fun r9 => ((r9 = 0 → wj_X9_item_177 s g T (nI n) u4 u5 u6 u7 (nI c) (nI (4 * c)) Post) ∧ (¬ r9 = 0 → wp_X9_reads s g (nI n) (u4 + (nI 1)) u5 u6 u7 (nI 1) (fun u10 u11 u12 u13 => ((u11 = 0 → wj_X9_item_115 s g T (nI n) u10 u11 u12 u13 (nI c) (nI (4 * c)) Post) ∧ (¬ u11 = 0 → ((0 ≤ u13 → wj_X9_item_115 s g T (nI n) u10 u11 u12 u13 (nI c) (nI (4 * c)) Post) ∧ (¬ 0 ≤ u13 → wj_X9_item_115 s g T (nI n) (u10 - u12) (nI 0) u12 u13 (nI c) (nI (4 * c)) Post))))))))))))) →
      wp_X9_item s g told (nI n) (nI i) (nI 1) tm lt (nI c) (nI md) Post := by
    intro told tm lt Post u4 u5 u6 u7 hR P
    refine hR _ ?_
    rintro _ rfl
    rw [pk_mul, nI_add (4 * c) 1, nI_add (4 * c) 2]
    refine ⟨vp_in_nI (by omega) (by decide), vp_in_nI (by omega) (by decide), vp_in_nI (by omega) (by decide), ?_⟩
    rw [nI_clamp (n := 4 * c) (by omega), nI_clamp (n := 4 * c + 1) (by omega), nI_clamp (n := 4 * c + 2) (by omega)]
    exact P _ rfl
  by_cases cs : chN n tx i = 42
  · obtain ⟨k, k1, k2, k3, hX, hM, _⟩ := stars_ex (md := md) (s := s) h cs
    obtain ⟨t1, t2⟩ := star_sign k1 k2
    have XS : ∀ u1 u2 u3 Post, wj_X6_readEntry_69 rt u1 u2 u3 (nI (i + k)) (nI a) (nI (77 + k)) (nI (77 + k)) Post → wp_X6_readEntry rt u1 u2 u3 (nI i) (nI a) (nI md) Post := by
      intro u1 u2 u3 Post P
      unfold wp_X6_readEntry wp_X6_readSign
      refine x_ch h (by omega) (ch_eq h (by decide) (fun _ => hX _ ⟨fun z => absurd z (nI_m1 (by omega)), fun _ => b_z (fun _ => P) (fun _ => x_isStarred (by omega) (fun z => absurd z (by omega)) (fun _ => f1 P))⟩) (fun z => absurd cs z))
    have MS2 : ∀ told tm lt Post, wj_X9_item_177 s g (upd (upd (upd told (4 * c) (nI k)) (4 * c + 1) (-1)) (4 * c + 2) (-1)) (nI n) (nI (i + k)) (nI 1) (nI k) (-1) (nI c) (nI (4 * c)) Post → wp_X9_item s g told (nI n) (nI i) (nI 1) tm lt (nI c) (nI md) Post := by
      intro told tm lt Post P
      refine IT told tm lt Post _ _ _ _ (fun Q q => hM tm lt Q q) (fun T hT => ?_)
      subst hT
      exact b_z (fun _ => P) (fun _ => ⟨fun _ => P, fun z => absurd (show (-1 : Int32) < 0 by decide) z⟩)
    rcases tail_ex (s := s) h (i := i + k) (c := c) k3 hc with ⟨z, kz, z1, z2, z3, z4, tX, tM⟩ | ⟨tX, tM⟩
    · refine Or.inl ⟨77 + k, 77 + k, z, k + kz, by omega, by omega, z1, z2, by omega, by omega, Nat.le_refl _, fun e => absurd rfl e, fun _ => rfl, rfl, fun q => by omega, fun q => by omega, fun f1' f2' f3' u1 u2 u3 Post hc2 g1 g2 g3 P => XS _ _ _ _ (tX _ f1' f2' f3' u1 u2 u3 _ _ _ hc2 g1 g2 g3 (fun v1 v2 v3 w1 w2 w3 => ?_)), fun told tm lt Post P => MS2 _ _ _ _ (tM _ _ _ _ ?_)⟩
      · rw [Nat.add_assoc]; exact P v1 v2 v3 w1 w2 w3
      · rw [Nat.add_assoc]
        obtain ⟨a1, a2, a3, a4, a5⟩ := tld (told := told) (c := c) (A := nI k) (L1 := -1) (L2 := -1) (Z := nI z)
        exact P _ _ _ a1 (by rw [t1]; exact a2) (by rw [t2]; exact a3) (by rw [t2]; exact a4) a5
    · exact Or.inr ⟨i + k, k3, fun u1 u2 u3 Post P => XS _ _ _ _ (tX _ _ _ _ _ _ _ P), fun told tm lt Post P => MS2 _ _ _ _ (tM _ _ _ _ (fun t2 => P t2 _ _))⟩
  · rcases letters_ex h al hi cs with ⟨sn, k, k1, k3, hsn, hbit, hX, hM⟩ | ⟨hX, hM⟩
    · have XR : ∀ (Q : Int32 → Int32 → Prop), Q (nI sn) (nI (i + k)) → wp_X6_readSign rt (nI i) (nI a) Q := fun Q q => by
        unfold wp_X6_readSign
        exact x_ch h (by omega) (ch_eq h (by decide) (fun z => absurd z cs) (fun _ => hX _ q))
      have hlt0 : ∃ l, l < 26 ∧ ltS sn = nI l := ⟨sn % 26, by omega, by unfold ltS; rw [if_pos hsn]⟩
      obtain ⟨l, hl, hlt⟩ := hlt0
      have hl2 : ¬ ltS sn < 0 := by rw [hlt]; exact nI_pos (by omega)
      -- an entry of one sign
      have ONE : (∀ u1 u2 u3 Post, wj_X6_readEntry_69 rt u1 u2 u3 (nI (i + k)) (nI a) (nI sn) (nI sn) Post → wp_X6_readEntry rt u1 u2 u3 (nI i) (nI a) (nI md) Post) → (∀ told tm lt Post, wj_X9_item_177 s g (upd (upd (upd told (4 * c) (nI (tmS sn))) (4 * c + 1) (ltS sn)) (4 * c + 2) (ltS sn)) (nI n) (nI (i + k)) (nI 1) (nI (tmS sn)) (ltS sn) (nI c) (nI (4 * c)) Post → wp_X9_item s g told (nI n) (nI i) (nI 1) tm lt (nI c) (nI md) Post) → EntEx n a md rt g s i c := by
        intro XS MS2
        unfold EntEx
        rcases tail_ex (s := s) h (i := i + k) (c := c) k3 hc with ⟨z, kz, z1, z2, z3, z4, tX, tM⟩ | ⟨tX, tM⟩
        · refine Or.inl ⟨sn, sn, z, k + kz, by omega, by omega, z1, z2, by omega, by omega, Nat.le_refl _, fun e => absurd rfl e, fun _ => rfl, rfl, fun _ => hbit, fun _ => hbit, fun f1' f2' f3' u1 u2 u3 Post hc2 g1 g2 g3 P => XS _ _ _ _ (tX _ f1' f2' f3' u1 u2 u3 _ _ _ hc2 g1 g2 g3 (fun v1 v2 v3 w1 w2 w3 => ?_)), fun told tm lt Post P => MS2 _ _ _ _ (tM _ _ _ _ ?_)⟩
          · rw [Nat.add_assoc]; exact P v1 v2 v3 w1 w2 w3
          · rw [Nat.add_assoc]
            obtain ⟨a1, a2, a3, a4, a5⟩ := tld (told := told) (c := c) (A := nI (tmS sn)) (L1 := ltS sn) (L2 := ltS sn) (Z := nI z)
            exact P _ _ _ a1 a2 a3 a4 a5
        · exact Or.inr ⟨i + k, k3, fun u1 u2 u3 Post P => XS _ _ _ _ (tX _ _ _ _ _ _ _ P), fun told tm lt Post P => MS2 _ _ _ _ (tM _ _ _ _ (fun t2 => P t2 _ _))⟩
      by_cases cd : md = 1 ∧ chN n tx (i + k) = 45
      · obtain ⟨cm, cd⟩ := cd
        have hlt2 := ch_lt (n := n) (tx := tx) (i := i + k) (by omega)
        have hmd : ¬ nI md = 0 := by rw [cm]; decide
        -- the second sign fails at e, or not
        have X2 : ∀ u1 u2 u3 Post, wp_X6_readLastSign rt (nI (i + k + 1)) (nI a) (nI sn) (fun r10 u11 => ((r10 = (-1) → Post (nI 0) u1 u2 u3 u11) ∧ (¬ r10 = (-1) → wj_X6_readEntry_69 rt u1 u2 u3 u11 (nI a) (nI sn) r10 Post))) → wp_X6_readEntry rt u1 u2 u3 (nI i) (nI a) (nI md) Post := by
          intro u1 u2 u3 Post P
          unfold wp_X6_readEntry
          refine XR _ ⟨fun z => absurd z (sgn_m1 (by omega)), fun _ => ⟨fun z => absurd z hmd, fun _ => x_isStarred (by omega) (fun _ => f0 (x_ch h (by omega) (ch_eq h (by decide) (fun _ => ?_) (fun z => absurd cd z)))) (fun z => absurd z (by omega))⟩⟩
          rw [nI_add (i + k) 1]
          exact P
        have M2 : ∀ told tm lt Post, (∀ T, T = upd (upd (upd told (4 * c) (nI (tmS sn))) (4 * c + 1) (ltS sn)) (4 * c + 2) (ltS sn) → wp_X9_reads s g (nI n) (nI (i + k + 1)) (nI 1) (nI (tmS sn)) (ltS sn) (nI 1) (fun u10 u11 u12 u13 => ((u11 = 0 → wj_X9_item_115 s g T (nI n) u10 u11 u12 u13 (nI c) (nI (4 * c)) Post) ∧ (¬ u11 = 0 → ((0 ≤ u13 → wj_X9_item_115 s g T (nI n) u10 u11 u12 u13 (nI c) (nI (4 * c)) Post) ∧ (¬ 0 ≤ u13 → wj_X9_item_115 s g T (nI n) (u10 - u12) (nI 0) u12 u13 (nI c) (nI (4 * c)) Post)))))) → wp_X9_item s g told (nI n) (nI i) (nI 1) tm lt (nI c) (nI md) Post := by
          intro told tm lt Post P
          refine IT told tm lt Post _ _ _ _ (fun Q q => hM tm lt Q q) (fun T hT => ⟨fun z => absurd z hmd, fun _ => ⟨fun z => absurd z hl2, fun _ => r_nx h (by omega) (by decide) (by decide) (fun _ _ => f1 ?_) (fun z => absurd (by omega) z)⟩⟩)
          rw [nI_add (i + k) 1]
          exact P T hT
        have FAIL : (∀ Post, Post (-1) (nI (i + k + 1)) → wp_X6_readLetters rt (nI (i + k + 1)) (nI a) Post) → (∀ told tm lt Post, (∀ T tm2 lt2, wj_X9_item_115 s g T (nI n) (nI (i + k + 1)) (nI 0) tm2 lt2 (nI c) (nI (4 * c)) Post) → wp_X9_item s g told (nI n) (nI i) (nI 1) tm lt (nI c) (nI md) Post) → EntEx n a md rt g s i c := by
          intro hX2 hM2
          unfold EntEx
          refine Or.inr ⟨i + k + 1, by omega, fun u1 u2 u3 Post P => X2 u1 u2 u3 Post (by
            unfold wp_X6_readLastSign
            exact hX2 _ ⟨fun _ => ⟨fun _ => P, fun z => absurd rfl z⟩, fun z => absurd rfl z⟩), fun told tm lt Post P => hM2 told tm lt Post (fun T tm2 lt2 => f0 (item_165 hc (fun t2 => P t2 _ _)))⟩
        by_cases cs2 : chN n tx (i + k + 1) = 42
        · obtain ⟨ks, q1, q2, q3, _, hM3, hX3⟩ := stars_ex (md := 1) (s := s) h cs2
          refine FAIL (fun Post P => hX3 a Post P) (fun told tm lt Post P => M2 told tm lt Post (fun T hT => hM3 _ _ _ (f1 ⟨fun z => absurd z (by decide), fun _ => ?_⟩)))
          rw [pk_sub (by omega), show i + k + 1 + ks - ks = i + k + 1 by omega]
          exact P T _ _
        · have al1 : ALF a 1 s B := by rw [← cm]; exact al
          rcases letters_ex h al1 (show i + k + 1 ≤ n by omega) cs2 with ⟨sn2, kk, q1, q3, hsn2, hbit2, hX3, hM3⟩ | ⟨hX3, hM3⟩
          · have hlt3 : ∃ l2, l2 < 26 ∧ ltS sn2 = nI l2 ∧ sn2 % 26 = l2 := ⟨sn2 % 26, by omega, by unfold ltS; rw [if_pos hsn2], rfl⟩
            obtain ⟨l2, hl2', hlt3, hmod2⟩ := hlt3
            have hmod : sn % 26 = l := by
              unfold ltS at hlt
              rw [if_pos hsn] at hlt
              exact (nI_eq (by omega) (by omega)).mp hlt
            have ht1 : tmS sn = sn / 26 + 1 := by unfold tmS; rw [if_pos hsn]
            have ht2 : tmS sn2 = sn2 / 26 + 1 := by unfold tmS; rw [if_pos hsn2]
            have hg0 : 0 ≤ ltS sn2 := by rw [hlt3]; exact nI_pos' (by omega)
            have M3 : ∀ told tm lt Post, (∀ T, T = upd (upd (upd told (4 * c) (nI (tmS sn))) (4 * c + 1) (ltS sn)) (4 * c + 2) (ltS sn) → ((nI (tmS sn2) = nI (tmS sn) → ((ltS sn ≤ ltS sn2 → wj_X9_item_165 s g T (nI n) (nI (i + k + 1 + kk)) (nI 1) (nI (tmS sn2)) (ltS sn2) (nI c) (nI (4 * c)) Post) ∧ (¬ ltS sn ≤ ltS sn2 → wj_X9_item_150 s g T (nI n) (nI (i + k + 1 + kk)) (nI 1) (nI (tmS sn2)) (ltS sn2) (nI c) (nI (4 * c)) Post))) ∧ (¬ nI (tmS sn2) = nI (tmS sn) → wj_X9_item_150 s g T (nI n) (nI (i + k + 1 + kk)) (nI 1) (nI (tmS sn2)) (ltS sn2) (nI c) (nI (4 * c)) Post))) → wp_X9_item s g told (nI n) (nI i) (nI 1) tm lt (nI c) (nI md) Post := by
              intro told tm lt Post P
              refine M2 told tm lt Post (fun T hT => hM3 _ _ _ (f1 ⟨fun _ => f1 ⟨vp_in_nI (by omega) (by decide), ?_⟩, fun z => absurd hg0 z⟩))
              have e1 : T (nI (4 * c)).toNatClampNeg = nI (tmS sn) := by rw [nI_clamp (by omega), hT, pk_un (by omega), pk_un (by omega), pk_us]
              have e2 : T (nI (4 * c) + nI 1).toNatClampNeg = ltS sn := by rw [nI_add, nI_clamp (by omega), hT, pk_un (by omega), pk_us]
              have e3 : vp_in (nI (4 * c) + nI 1) 160 := by rw [nI_add]; exact vp_in_nI (by omega) (by decide)
              rw [e1, e2]
              have := P T hT
              exact ⟨fun z => ⟨e3, this.1 z⟩, this.2⟩
            by_cases ck : tmS sn2 = tmS sn ∧ sn ≤ sn2
            · have hle : l ≤ l2 := by omega
              have XS : ∀ u1 u2 u3 Post, wj_X6_readEntry_69 rt u1 u2 u3 (nI (i + k + 1 + kk)) (nI a) (nI sn) (nI sn2) Post → wp_X6_readEntry rt u1 u2 u3 (nI i) (nI a) (nI md) Post := fun u1 u2 u3 Post P => X2 u1 u2 u3 Post (by
                unfold wp_X6_readLastSign
                exact hX3 _ ⟨fun z => absurd z (sgn_m1 (by omega)), fun _ => x_times (by omega) (x_times (by omega) (pk_eq (tmS sn2) (tmS sn) (fun _ => pk_le sn sn2 (fun _ => ⟨fun z => absurd z (sgn_m1 (by omega)), fun _ => P⟩) (fun z => absurd z (by omega))) (fun z => absurd ck.1 z)))⟩)
              have MS2 : ∀ told tm lt Post, wj_X9_item_177 s g (upd (upd (upd (upd told (4 * c) (nI (tmS sn))) (4 * c + 1) (ltS sn)) (4 * c + 2) (ltS sn)) (4 * c + 2) (ltS sn2)) (nI n) (nI (i + k + 1 + kk)) (nI 1) (nI (tmS sn2)) (ltS sn2) (nI c) (nI (4 * c)) Post → wp_X9_item s g told (nI n) (nI i) (nI 1) tm lt (nI c) (nI md) Post := by
                intro told tm lt Post P
                refine M3 told tm lt Post (fun T hT => ⟨fun _ => ⟨fun _ => ?_, fun z => absurd ?_ z⟩, fun z => absurd (by rw [ck.1]) z⟩)
                · unfold wj_X9_item_165
                  rw [nI_add (4 * c) 2]
                  refine ⟨vp_in_nI (by omega) (by decide), ?_⟩
                  rw [nI_clamp (by omega), hT]
                  exact P
                · rw [hlt, hlt3]
                  exact (nI_leI (by omega) (by omega)).mpr hle
              rcases tail_ex (s := s) h (i := i + k + 1 + kk) (c := c) q3 hc with ⟨z, kz, z1, z2, z3, z4, tX, tM⟩ | ⟨tX, tM⟩
              · refine Or.inl ⟨sn, sn2, z, k + 1 + kk + kz, by omega, by omega, z1, z2, by omega, by omega, ck.2, fun _ => hsn2, fun e => absurd e (by omega), ck.1.symm, fun _ => hbit, fun _ => hbit2, fun f1' f2' f3' u1 u2 u3 Post hc2 g1 g2 g3 P => XS _ _ _ _ (tX _ f1' f2' f3' u1 u2 u3 _ _ _ hc2 g1 g2 g3 (fun v1 v2 v3 w1 w2 w3 => ?_)), fun told tm lt Post P => MS2 _ _ _ _ (tM _ _ _ _ ?_)⟩
                · rw [show i + k + 1 + kk + kz = i + (k + 1 + kk + kz) by omega]; exact P v1 v2 v3 w1 w2 w3
                · rw [show i + k + 1 + kk + kz = i + (k + 1 + kk + kz) by omega, tld2]
                  obtain ⟨a1, a2, a3, a4, a5⟩ := tld (told := told) (c := c) (A := nI (tmS sn)) (L1 := ltS sn) (L2 := ltS sn2) (Z := nI z)
                  exact P _ _ _ a1 a2 a3 a4 a5
              · exact Or.inr ⟨i + k + 1 + kk, q3, fun u1 u2 u3 Post P => XS _ _ _ _ (tX _ _ _ _ _ _ _ P), fun told tm lt Post P => MS2 _ _ _ _ (tM _ _ _ _ (fun t2 => P t2 _ _))⟩
            · have F29 : ∀ u1 u2 u3 (Post : Int32 → RowT → RowT → RowT → Int32 → Prop), Post (nI 0) u1 u2 u3 (nI (i + k + kk)) → wj_X6_readLastSign_29 rt (nI (i + k + 1 + kk)) (nI a) (fun r10 u11 => ((r10 = (-1) → Post (nI 0) u1 u2 u3 u11) ∧ (¬ r10 = (-1) → wj_X6_readEntry_69 rt u1 u2 u3 u11 (nI a) (nI sn) r10 Post))) := by
                intro u1 u2 u3 Post P
                refine ⟨fun _ => ?_, fun z => absurd rfl z⟩
                rw [pk_sub (by omega), show i + k + 1 + kk - 1 = i + k + kk by omega]
                exact P
              have F150 : ∀ T (Post : (Nat → Int32) → Int32 → Int32 → Int32 → Int32 → Int32 → Prop), (∀ t2 tm2 lt2, Post t2 (nI (i + k + kk)) (nI 0) tm2 lt2 (nI (c + 1))) → wj_X9_item_150 s g T (nI n) (nI (i + k + 1 + kk)) (nI 1) (nI (tmS sn2)) (ltS sn2) (nI c) (nI (4 * c)) Post := by
                intro T Post P
                unfold wj_X9_item_150
                rw [pk_sub (by omega), show i + k + 1 + kk - 1 = i + k + kk by omega]
                exact item_165 hc (fun t2 => P t2 _ _)
              have t1 := tmS_lt (show sn < 83 by omega)
              have t2 := tmS_lt (show sn2 < 83 by omega)
              refine Or.inr ⟨i + k + kk, by omega, fun u1 u2 u3 Post P => X2 u1 u2 u3 Post (by
                unfold wp_X6_readLastSign
                exact hX3 _ ⟨fun z => absurd z (sgn_m1 (by omega)), fun _ => x_times (by omega) (x_times (by omega) (pk_eq (tmS sn2) (tmS sn) (fun e1 => pk_le sn sn2 (fun e2 => absurd ⟨e1, e2⟩ ck) (fun _ => F29 u1 u2 u3 Post P)) (fun _ => F29 u1 u2 u3 Post P)))⟩), fun told tm lt Post P => M3 told tm lt Post (fun T hT => pk_eq (tmS sn2) (tmS sn) (fun e1 => ⟨fun e2 => absurd ⟨e1, ?_⟩ ck, fun _ => F150 T Post P⟩) (fun _ => F150 T Post P))⟩
              rw [hlt, hlt3] at e2
              have := (nI_leI (by omega) (by omega)).mp e2
              omega
          · exact FAIL hX3 (fun told tm lt Post P => M2 told tm lt Post (fun T hT => hM3 _ _ _ (f0 (P T _ _))))
      · refine ONE (fun u1 u2 u3 Post P => by
          unfold wp_X6_readEntry
          exact XR _ ⟨fun z => absurd z (sgn_m1 (by omega)), fun _ => b_z (fun _ => P) (fun e => x_isStarred (by omega) (fun _ => f0 (x_ch h (by omega) (ch_eq h (by decide) (fun z => absurd ⟨by omega, z⟩ cd) (fun _ => P)))) (fun z => absurd z (by omega)))⟩) (fun told tm lt Post P => IT told tm lt Post _ _ _ _ (fun Q q => hM tm lt Q q) (fun T hT => ?_))
        subst hT
        exact b_z (fun _ => P) (fun e => ⟨fun z => absurd z hl2, fun _ => r_nx h (by omega) (by decide) (by decide) (fun z1 z2 => absurd ⟨by omega, by omega⟩ cd) (fun _ => f0 P)⟩)
    · refine Or.inr ⟨i, hi, fun u1 u2 u3 Post P => by
        unfold wp_X6_readEntry wp_X6_readSign
        exact x_ch h (by omega) (ch_eq h (by decide) (fun z => absurd z cs) (fun _ => hX _ ⟨fun _ => P, fun z => absurd rfl z⟩)), fun told tm lt Post P => IT told tm lt Post _ _ _ _ (fun Q q => hM tm lt Q q) (fun T hT => ?_)⟩
      have P' := item_0 (n := n) (g := g) (s := s) (told := T) (i := i) (tm := nI 0) (lt := -1) hc (fun t2 => P t2 (nI 0) (-1))
      exact b_z (fun _ => P') (fun _ => ⟨fun _ => P', fun z => absurd (show (-1 : Int32) < 0 by decide) z⟩)
end parse
