set_option maxHeartbeats 400000
/-! the pile -/
theorem wpile {B : BkA} (w : WB B) {i : Nat} (hi : i < bpn B) : bP B i < lvs B ∧ bP B i < 960 := by
  have h1 := w.2.2.2.2.2.2.2.2 i hi
  have h2 := w.lvs
  have h3 := w.sum (Nat.le_refl _)
  exact ⟨h1, by omega⟩
theorem pile_mono {B : BkA} (w : WB B) {i j : Nat} (h : i ≤ j) (hj : j < bpn B) : bP B i ≤ bP B j := by
  by_cases e : i = j
  · rw [e]; exact Nat.le_refl _
  · exact Nat.le_of_lt (w.2.2.2.2.2.2.2.1 i j (by omega) hj)
theorem rl_isPiled {s : Nat → Int32} {B : BkA} {l : Nat} {Post : Int32 → Prop} (h : MB s B) (w : WB B) (P0 : (∀ i, i < bpn B → bP B i ≠ l) → Post (nI 0)) (P1 : ∀ i, i < bpn B → bP B i = l → Post (nI 1)) (hl : l < 2 ^ 31) :
    ∀ (d i z : Nat), i + d = bpn B → z ≤ 1 → (z = 1 → ∃ j, j < i ∧ s (164 + j) = nI l) → (z = 0 → ∀ j, j < i → s (164 + j) ≠ nI l) → wl_X9_isPiled_4 s (nI l) Post (d + 1) (nI z) (nI i) := by
  have hp := w.2.2.2.2.2.2.1
  obtain ⟨_, _, _, _, h5, h6, h7⟩ := id h
  intro d
  induction d with
  | zero =>
    intro i z hi hz z1 z0
    refine rd (k := 163) (Q := fun v => (v ≤ nI i → _) ∧ (¬ v ≤ nI i → _)) h5 (by decide) (pk_le (bpn B) i (fun _ => ?_) (fun c => absurd c (by omega)))
    rcases Nat.eq_zero_or_pos z with e | e
    · subst e
      refine ⟨Or.inl rfl, P0 (fun k hk e => ?_)⟩
      obtain ⟨j, hj, hv⟩ := h7 k hk
      exact z0 rfl j (by omega) (by rw [hv, e])
    · have e : z = 1 := by omega
      subst e
      obtain ⟨j, hj, hv⟩ := z1 rfl
      obtain ⟨k, hk, hv2⟩ := h6 j (by omega)
      have hb := (wpile w hk).2
      exact ⟨Or.inr rfl, P1 k hk ((nI_eq (by omega) hl).mp (hv2.symm.trans hv))⟩
  | succ d ih =>
    intro i z hi hz z1 z0
    refine rd (k := 163) (Q := fun v => (v ≤ nI i → _) ∧ (¬ v ≤ nI i → _)) h5 (by decide) (pk_le (bpn B) i (fun c => absurd c (by omega)) (fun _ => b_z (fun e => ?_) (fun e => ?_)))
    · rw [nI_add 164 i, nI_add i 1]
      refine ⟨vp_in_nI (by omega) (by decide), ?_⟩
      rw [nI_clamp (by omega)]
      refine ⟨fun e2 => ih (i + 1) 1 (by omega) (by decide) (fun _ => ⟨i, by omega, e2⟩) (fun z => absurd z (by decide)), fun e2 => ih (i + 1) 0 (by omega) (by decide) (fun z => absurd z (by decide)) (fun _ j hj => ?_)⟩
      by_cases e3 : j = i
      · rw [e3]; exact e2
      · exact z0 e j (by omega)
    · rw [nI_add i 1]
      refine ih (i + 1) 1 (by omega) (by decide) (fun _ => ?_) (fun z => absurd z (by decide))
      obtain ⟨j, hj, hv⟩ := z1 (by omega)
      exact ⟨j, by omega, hv⟩
theorem r_isPiled {s : Nat → Int32} {B : BkA} {l : Nat} {Post : Int32 → Prop} (h : MB s B) (w : WB B) (hl : l < 2 ^ 31) (P0 : (∀ i, i < bpn B → bP B i ≠ l) → Post (nI 0)) (P1 : ∀ i, i < bpn B → bP B i = l → Post (nI 1)) : wp_X9_isPiled s (nI l) Post :=
  ⟨bpn B + 1, rl_isPiled h w P0 P1 hl (bpn B) 0 0 (by omega) (by decide) (fun z => absurd z (by decide)) (fun _ j hj => absurd hj (Nat.not_lt_zero _))⟩
theorem rl_piled105 {s : Nat → Int32} {B : BkA} {p b : Nat} {Post : Int32 → Prop} (h : MB s B) (w : WB B) (hp : p + 1 < bpn B) (P : Post (nI (tA B (bP B (p + 1)) - tA B b))) (hb : bP B p < b) :
    ∀ (d l : Nat), l + d = bP B (p + 1) → b ≤ l → tA B b ≤ tA B l → wl_X9_piled_105 s Post (d + 1) (nI (tA B l - tA B b)) (nI l) := by
  have hlv := wpile w hp
  have hlv2 := w.lvs
  intro d
  induction d with
  | zero =>
    intro l hl hbl ht
    refine r_isPiled h w (by omega) (fun z => absurd (by omega) (z (p + 1) hp)) (fun _ _ _ => f1 ?_)
    rw [show l = bP B (p + 1) by omega]
    exact P
  | succ d ih =>
    intro l hl hbl ht
    have hno : ∀ i, i < bpn B → bP B i ≠ l := by
      intro i hi e
      by_cases c : i ≤ p
      · have := pile_mono w c (by omega)
        omega
      · have := pile_mono w (show p + 1 ≤ i by omega) hi
        omega
    obtain ⟨q, hq⟩ := inQ_ex (bn B) (Nat.le_refl _) l (show l < lvs B by have := hlv.1; omega)
    have hs := tA_step w hq
    have hbn := bitn_le (bL B q) (l - sumF (bZ B) q)
    have := ih (l + 1) (by omega) (by omega) (by omega)
    refine r_isPiled h w (by omega) (fun _ => f0 (r_isLost h w hq (b_z (fun e => ?_) (fun e => ?_)))) (fun i hi e => absurd e (hno i hi))
    · rintro _ rfl
      rw [nI_add _ 1, nI_add l 1, show tA B l - tA B b + 1 = tA B (l + 1) - tA B b by omega]
      exact this
    · rintro _ rfl
      rw [nI_add _ 0, nI_add l 1, show tA B l - tA B b + 0 = tA B (l + 1) - tA B b by omega]
      exact this
theorem rl_piled36 {s : Nat → Int32} {B : BkA} {p : Nat} {p2 : Int32} {Post : Int32 → Prop} (h : MB s B) (w : WB B) (hp : p < bpn B)
    (F : (p2 = 0 → Post (nI (bP B p))) ∧ (¬ p2 = 0 → (vp_in (nI 163) 1056 ∧ ((nI p = ((s (nI 163).toNatClampNeg) - (nI 1)) → Post (-5)) ∧ (¬ nI p = ((s (nI 163).toNatClampNeg) - (nI 1)) → (∀ y9 : Int32, y9 = nI (bP B p) + (nI 1) → (∃ k, wl_X9_piled_105 s Post k (nI 0) y9))))))) :
    ∀ (d l c : Nat), l + d = bP B p → c ≤ p → (∀ i, i < c → bP B i < l) → (∀ i, c ≤ i → i < bpn B → l ≤ bP B i) → wl_X9_piled_36 s (nI p) p2 Post (d + 1) (nI (p - c)) (nI l) := by
  have hlv := wpile w hp
  have hlv2 := w.lvs
  have hpn := w.2.2.2.2.2.2.1
  intro d
  induction d with
  | zero =>
    intro l c hl hc h1 h2
    have e : c = p := by
      by_cases q : c < p
      · have a := h2 c (Nat.le_refl _) (by omega)
        have b := w.2.2.2.2.2.2.2.1 c p q hp
        omega
      · omega
    subst e
    have e2 : l = bP B c := by omega
    subst e2
    rw [Nat.sub_self]
    exact ⟨fun z => absurd z (by decide), fun _ => r_isPiled h w (by omega) (fun z => absurd rfl (z c hp)) (fun _ _ _ => f1 F)⟩
  | succ d ih =>
    intro l c hl hc h1 h2
    by_cases e : l = bP B c
    · have hcp : c < p := by
        by_cases q : c = p
        · rw [q] at e; omega
        · omega
      refine ⟨fun _ => r_isPiled h w (by omega) (fun z => absurd e.symm (z c (by omega))) (fun _ _ _ => f1 ?_), fun z => absurd ?_ z⟩
      · rintro _ rfl
        rw [pk_sub (by omega), nI_add, show p - c - 1 = p - (c + 1) by omega]
        refine ih (l + 1) (c + 1) (by omega) (by omega) (fun i hi => ?_) (fun i hi hi2 => ?_)
        · have := pile_mono w (show i ≤ c by omega) (by omega)
          omega
        · have := w.2.2.2.2.2.2.2.1 c i (by omega) hi2
          omega
      · rw [← nI_0]
        exact (nI_ltI (by omega) (by omega)).mpr (by omega)
    · have hno : ∀ i, i < bpn B → bP B i ≠ l := by
        intro i hi e2
        by_cases q : i < c
        · have := h1 i q; omega
        · have a := h2 c (Nat.le_refl _) (by omega)
          have b := pile_mono w (show c ≤ i by omega) hi
          omega
      have J : wj_X9_piled_49 s (nI p) p2 (nI (p - c)) (nI l) (fun x0 x1 => wl_X9_piled_36 s (nI p) p2 Post (d + 1) x0 x1) Post := by
        refine r_isPiled h w (by omega) (fun _ => f0 ?_) (fun i hi e2 => absurd e2 (hno i hi))
        rintro _ rfl
        rw [pk_sub (Nat.zero_le _), Nat.sub_zero, nI_add]
        refine ih (l + 1) c (by omega) hc (fun i hi => ?_) (fun i hi hi2 => ?_)
        · have := h1 i hi; omega
        · have := h2 i hi hi2
          have := hno i hi2
          omega
      exact ⟨fun _ => J, fun _ => r_isPiled h w (by omega) (fun _ => f0 J) (fun i hi e2 => absurd e2 (hno i hi))⟩
theorem tA_mono {B : BkA} (w : WB B) {a : Nat} : ∀ d, a + d ≤ lvs B → tA B a ≤ tA B (a + d)
  | 0, _ => Nat.le_refl _
  | d + 1, h => by
    have h1 := tA_mono w (a := a) d (by omega)
    obtain ⟨q, hq⟩ := inQ_ex (bn B) (Nat.le_refl _) (a + d) (show a + d < lvs B by omega)
    have h2 := tA_step w hq
    rw [← Nat.add_assoc]
    omega
theorem op_piled (σ : St) (x : XS) (y : MS) (hx : XOK σ x) (hm : MOK σ y) (p1 : Int32) (p2 : Int32) : ∃ (r : Int32) (σ2 : St), wx_piled x p1 p2 (fun r2 x2 => r2 = r ∧ XOK σ2 x2) ∧ wm_piled y p1 p2 (fun r2 y2 => r2 = r ∧ MOK σ2 y2) := by
  unfold wx_piled wm_piled wp_X8_piled wp_X9_piled
  dsimp only
  obtain ⟨⟨b1, b2, b3, b4, b5, b6⟩, w, hv, _⟩ := id hx
  obtain ⟨mb, _, hh, hst, hk, _⟩ := id hm
  have hpn := w.2.2.2.2.2.2.1
  have m5 := mb.2.2.2.2.1
  by_cases c1 : p1 < 0
  · exact ⟨-2, σ, ⟨fun _ => ⟨rfl, hx⟩, fun z => absurd c1 z⟩, ⟨fun _ => ⟨rfl, hm⟩, fun z => absurd c1 z⟩⟩
  · rcases rng p2 0 1 (by decide) (by decide) with c | ⟨n, _, hn2, rfl⟩
    · exact ⟨-2, σ, ⟨fun z => absurd z c1, fun _ => out2 c ⟨rfl, hx⟩⟩, ⟨fun z => absurd z c1, fun _ => r_inO c (f0 ⟨rfl, hm⟩)⟩⟩
    · rcases pk_ix p1 (n := bpn σ.1) (by omega) with c | c | ⟨p, hp, rfl⟩
      · exact absurd c c1
      · have c' : ¬ p1 < nI (bpn σ.1) := Int32.not_lt.mpr c
        exact ⟨-5, σ, ⟨fun z => absurd z c1, fun _ => b_neg (pk_le n 1 (fun _ => s_length b6 ⟨fun z => absurd z c', fun _ => ⟨rfl, hx⟩⟩) (fun z => absurd z (by omega)))⟩, ⟨fun z => absurd z c1, fun _ => r_inI (Nat.zero_le n) hn2 (by decide) (f1 (rd (k := 163) (Q := fun v => (p1 < v → _) ∧ (¬ p1 < v → _)) m5 (by decide) ⟨fun z => absurd z c', fun _ => ⟨rfl, hm⟩⟩))⟩⟩
      · have hb := wpile w hp
        have hlv := w.lvs
        have X0 : ∀ {A C : Prop} {Q : Int32 → Prop}, Q (nI (bP σ.1 p)) → (nI p < 0 → A) ∧ (¬ nI p < 0 → ((nI n < 0 → A) ∧ (¬ nI n < 0 → ((nI n ≤ nI 1 → wp_X4_length x.2.2.2.2.2.2.1 (fun r1 => ((nI p < r1 → wp_X4_at x.2.2.2.2.2.2.1 (nI p) Q) ∧ (¬ nI p < r1 → C)))) ∧ (¬ nI n ≤ nI 1 → A))))) :=
          fun P => b_neg (b_neg (pk_le n 1 (fun _ => s_length b6 (pk_lt p (bpn σ.1) (fun _ => s_at b6 p hp P) (fun z => absurd z (by omega)))) (fun z => absurd z (by omega))))
        have M0 : ∀ {Q : Int32 → Prop}, ((nI n = 0 → Q (nI (bP σ.1 p))) ∧ (¬ nI n = 0 → (vp_in (nI 163) 1056 ∧ ((nI p = ((y.1 (nI 163).toNatClampNeg) - (nI 1)) → Q (-5)) ∧ (¬ nI p = ((y.1 (nI 163).toNatClampNeg) - (nI 1)) → (∀ y9 : Int32, y9 = nI (bP σ.1 p) + (nI 1) → (∃ k, wl_X9_piled_105 y.1 Q k (nI 0) y9))))))) → (nI p < 0 → Q (-2)) ∧ (¬ nI p < 0 → wp_X9_in (nI n) (nI 0) (nI 1) (fun r10 => ((r10 = 0 → Q (-2)) ∧ (¬ r10 = 0 → (vp_in (nI 163) 1056 ∧ ((nI p < (y.1 (nI 163).toNatClampNeg) → (∃ k, wl_X9_piled_36 y.1 (nI p) (nI n) Q k (nI p) (nI 0))) ∧ (¬ nI p < (y.1 (nI 163).toNatClampNeg) → Q (-5)))))))) := by
          intro Q P
          refine ⟨fun z => absurd z c1, fun _ => r_inI (Nat.zero_le n) hn2 (by decide) (f1 (rd (k := 163) (Q := fun v => (nI p < v → _) ∧ (¬ nI p < v → _)) m5 (by decide) (pk_lt p (bpn σ.1) (fun _ => ⟨bP σ.1 p + 1, ?_⟩) (fun z => absurd z (by omega)))))⟩
          exact rl_piled36 mb w hp P (bP σ.1 p) 0 0 (by omega) (Nat.zero_le _) (fun i hi => absurd hi (Nat.not_lt_zero _)) (fun i _ _ => Nat.zero_le _)
        rcases (show n = 0 ∨ n = 1 by omega) with rfl | rfl
        · exact ⟨nI (bP σ.1 p), σ, X0 (f0 ⟨rfl, hx⟩), M0 (Q := fun r => r = nI (bP σ.1 p) ∧ MOK σ y) (f0 ⟨rfl, hm⟩)⟩
        · by_cases cl : p + 1 = bpn σ.1
          · have e : nI (bpn σ.1) - nI 1 = nI p := by rw [← cl, pk_sub (by omega), Nat.add_sub_cancel]
            exact ⟨-5, σ, X0 (f1 (s_length b6 ⟨fun _ => ⟨rfl, hx⟩, fun z => absurd e.symm z⟩)), M0 (Q := fun r => r = -5 ∧ MOK σ y) (f1 (rd (k := 163) (Q := fun v => (nI p = v - nI 1 → _) ∧ (¬ nI p = v - nI 1 → _)) m5 (by decide) ⟨fun _ => ⟨rfl, hm⟩, fun z => absurd e.symm z⟩))⟩
          · have hp1 : p + 1 < bpn σ.1 := by omega
            have e : ¬ nI p = nI (bpn σ.1) - nI 1 := by
              rw [pk_sub (by omega)]
              exact fun z => absurd ((nI_eq (by omega) (by omega)).mp z) (by omega)
            have hb1 := wpile w hp1
            have hlt := w.2.2.2.2.2.2.2.1 p (p + 1) (by omega) hp1
            have ht := tA_mono w (a := bP σ.1 p + 1) (bP σ.1 (p + 1) - (bP σ.1 p + 1)) (by omega)
            rw [show bP σ.1 p + 1 + (bP σ.1 (p + 1) - (bP σ.1 p + 1)) = bP σ.1 (p + 1) by omega] at ht
            refine ⟨nI (tA σ.1 (bP σ.1 (p + 1)) - tA σ.1 (bP σ.1 p + 1)), σ, X0 (f1 (s_length b6 ⟨fun z => absurd z e, fun _ => ?_⟩)), M0 (Q := fun r => r = nI (tA σ.1 (bP σ.1 (p + 1)) - tA σ.1 (bP σ.1 p + 1)) ∧ MOK σ y) (f1 (rd (k := 163) (Q := fun v => (nI p = v - nI 1 → _) ∧ (¬ nI p = v - nI 1 → _)) m5 (by decide) ⟨fun z => absurd z e, fun _ => ?_⟩))⟩
            · rw [nI_add p 1, nI_add (bP σ.1 p) 1]
              refine s_at b6 (p + 1) hp1 (x_thereAhead w b3 b4 b5 (by omega) (x_thereAhead w b3 b4 b5 (by omega) ⟨?_, hx⟩))
              rw [pk_sub ht]
            · rintro _ rfl
              rw [nI_add (bP σ.1 p) 1]
              have := rl_piled105 (p := p) (b := bP σ.1 p + 1) (Post := fun r => r = nI (tA σ.1 (bP σ.1 (p + 1)) - tA σ.1 (bP σ.1 p + 1)) ∧ MOK σ y) mb w hp1 ⟨rfl, hm⟩ (by omega) (bP σ.1 (p + 1) - (bP σ.1 p + 1)) (bP σ.1 p + 1) (by omega) (Nat.le_refl _) (Nat.le_refl _)
              rw [Nat.sub_self] at this
              exact ⟨_, this⟩
