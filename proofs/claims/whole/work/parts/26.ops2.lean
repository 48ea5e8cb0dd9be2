set_option maxHeartbeats 400000
/-! what asks and what changes the quires -/
def shN (p z : Nat) : Nat := (z + p - 1) / p
theorem xl_sheets {B : BkA} {r r2 : RowT} {p : Nat} {Post : Int32 → Prop} (w : WB B) (h : RowN 40 (bn B) (bS B) r) (h2 : RowN 40 (bn B) (bZ B) r2) (hp : 1 ≤ p) (hp2 : p ≤ 12) (P : Post (nI (sumF (fun j => shN p (bZ B j)) (bn B)))) : ∀ (d i : Nat), i + d = bn B → wl_X8_sheets_29 r r2 (nI p) Post (d + 1) (nI (sumF (fun j => shN p (bZ B j)) i)) (nI i) := by
  have hn := w.2.2.1
  intro d
  induction d with
  | zero =>
    intro i hi
    refine x_quires h (pk_le (bn B) i (fun _ => ?_) (fun c => absurd c (by omega)))
    rw [show i = bn B by omega]; exact P
  | succ d ih =>
    intro i hi
    have hz := w.2.2.2.2.1 i (by omega)
    refine x_quires h (pk_le (bn B) i (fun c => absurd c (by omega)) (fun _ => s_at h2 i (by omega) ⟨fun z => absurd ((nI_z (by omega)).mp z) (by omega), ?_⟩))
    rintro _ rfl
    rw [nI_add, nI_add, pk_sub (by omega), pk_div (by omega) (by omega) (by omega), nI_add]
    exact ih (i + 1) (by omega)
theorem rl_sheets {s : Nat → Int32} {B : BkA} {p : Nat} {Post : Int32 → Prop} (h : MB s B) (w : WB B) (hp : 1 ≤ p) (hp2 : p ≤ 12) (P : Post (nI (sumF (fun j => shN p (bZ B j)) (bn B)))) : ∀ (d i : Nat), i + d = bn B → wl_X9_sheets_29 s (nI p) Post (d + 1) (nI (sumF (fun j => shN p (bZ B j)) i)) (nI i) := by
  have hn := w.2.2.1
  intro d
  induction d with
  | zero =>
    intro i hi
    refine rd (k := 2) (Q := fun v => (v ≤ nI i → _) ∧ (¬ v ≤ nI i → _)) h.2.2.1 (by decide) (pk_le (bn B) i (fun _ => ?_) (fun c => absurd c (by omega)))
    rw [show i = bn B by omega]; exact P
  | succ d ih =>
    intro i hi
    have hz := w.2.2.2.2.1 i (by omega)
    refine rd (k := 2) (Q := fun v => (v ≤ nI i → _) ∧ (¬ v ≤ nI i → _)) h.2.2.1 (by decide) (pk_le (bn B) i (fun c => absurd c (by omega)) (fun _ => r_of ⟨vp_in_nI (by omega) (by decide), ⟨fun z => absurd ((nI_z (by omega)).mp z) (by omega), ?_⟩⟩))
    rintro _ rfl
    rw [nI_clamp (by omega), (h.q (q := i) (by omega)).2.2.1, nI_add, nI_add, pk_sub (by omega), pk_div (by omega) (by omega) (by omega), nI_add]
    exact ih (i + 1) (by omega)
theorem op_sheets (σ : St) (x : XS) (y : MS) (hx : XOK σ x) (hm : MOK σ y) (p1 : Int32) : ∃ (r : Int32) (σ2 : St), wx_sheets x p1 (fun r2 x2 => r2 = r ∧ XOK σ2 x2) ∧ wm_sheets y p1 (fun r2 y2 => r2 = r ∧ MOK σ2 y2) := by
  unfold wx_sheets wm_sheets wp_X8_sheets wp_X9_sheets
  obtain ⟨⟨b1, b2, b3, b4, b5, b6⟩, w, hv, _⟩ := id hx
  obtain ⟨mb, _, hh, hst, hk, _⟩ := id hm
  have X : ∀ p, 1 ≤ p → p ≤ 12 → ∃ k, wl_X8_sheets_29 x.2.2.2.1 x.2.2.2.2.1 (nI p) (fun r2 => r2 = nI (sumF (fun j => shN p (bZ σ.1 j)) (bn σ.1)) ∧ XOK σ x) k (nI 0) (nI 0) := fun p h1 h2 => ⟨bn σ.1 + 1, xl_sheets w b3 b4 h1 h2 ⟨rfl, hx⟩ (bn σ.1) 0 (by omega)⟩
  have M : ∀ p, 1 ≤ p → p ≤ 12 → ∃ k, wl_X9_sheets_29 y.1 (nI p) (fun r2 => r2 = nI (sumF (fun j => shN p (bZ σ.1 j)) (bn σ.1)) ∧ MOK σ y) k (nI 0) (nI 0) := fun p h1 h2 => ⟨bn σ.1 + 1, rl_sheets mb w h1 h2 ⟨rfl, hm⟩ (bn σ.1) 0 (by omega)⟩
  by_cases c2 : p1 = nI 2
  · subst c2
    exact ⟨_, σ, ⟨fun _ => X 2 (by decide) (by decide), fun z => absurd rfl z⟩, ⟨fun _ => M 2 (by decide) (by decide), fun z => absurd rfl z⟩⟩
  · by_cases c4 : p1 = nI 4
    · subst c4
      exact ⟨_, σ, ⟨fun z => absurd z c2, fun _ => ⟨fun _ => X 4 (by decide) (by decide), fun z => absurd rfl z⟩⟩, ⟨fun z => absurd z c2, fun _ => ⟨fun _ => M 4 (by decide) (by decide), fun z => absurd rfl z⟩⟩⟩
    · by_cases c8 : p1 = nI 8
      · subst c8
        exact ⟨_, σ, ⟨fun z => absurd z c2, fun _ => ⟨fun z => absurd z c4, fun _ => ⟨fun _ => X 8 (by decide) (by decide), fun z => absurd rfl z⟩⟩⟩, ⟨fun z => absurd z c2, fun _ => ⟨fun z => absurd z c4, fun _ => ⟨fun _ => M 8 (by decide) (by decide), fun z => absurd rfl z⟩⟩⟩⟩
      · by_cases c12 : p1 = nI 12
        · subst c12
          exact ⟨_, σ, ⟨fun z => absurd z c2, fun _ => ⟨fun z => absurd z c4, fun _ => ⟨fun z => absurd z c8, fun _ => ⟨fun _ => X 12 (by decide) (by decide), fun z => absurd rfl z⟩⟩⟩⟩, ⟨fun z => absurd z c2, fun _ => ⟨fun z => absurd z c4, fun _ => ⟨fun z => absurd z c8, fun _ => ⟨fun _ => M 12 (by decide) (by decide), fun z => absurd rfl z⟩⟩⟩⟩⟩
        · exact ⟨-2, σ, ⟨fun z => absurd z c2, fun _ => ⟨fun z => absurd z c4, fun _ => ⟨fun z => absurd z c8, fun _ => ⟨fun z => absurd z c12, fun _ => ⟨rfl, hx⟩⟩⟩⟩⟩, ⟨fun z => absurd z c2, fun _ => ⟨fun z => absurd z c4, fun _ => ⟨fun z => absurd z c8, fun _ => ⟨fun z => absurd z c12, fun _ => ⟨rfl, hm⟩⟩⟩⟩⟩⟩
theorem op_quire (σ : St) (x : XS) (y : MS) (hx : XOK σ x) (hm : MOK σ y) (p1 : Int32) (p2 : Int32) : ∃ (r : Int32) (σ2 : St), wx_quire x p1 p2 (fun r2 x2 => r2 = r ∧ XOK σ2 x2) ∧ wm_quire y p1 p2 (fun r2 y2 => r2 = r ∧ MOK σ2 y2) := by
  unfold wx_quire wm_quire wp_X8_quire wp_X9_quire
  obtain ⟨⟨b1, b2, b3, b4, b5, b6⟩, w, hv, _⟩ := id hx
  obtain ⟨mb, _, hh, hst, hk, _⟩ := id hm
  have b2 : x.2.2.1 = nI (bsg σ.1) := b2
  have hn := w.2.2.1
  by_cases c : ∃ j, j < bn σ.1 ∧ p1 = nI j
  · obtain ⟨q, hq, rfl⟩ := c
    have hS := w.2.2.2.1 q hq
    have hz := w.2.2.2.2.1 q hq
    have mq := mb.q hq
    suffices H : ∃ r : Int32, wx_quire x (nI q) p2 (fun r2 x2 => r2 = r ∧ XOK σ x2) ∧ wm_quire y (nI q) p2 (fun r2 y2 => r2 = r ∧ MOK σ y2) from H.elim (fun r h => ⟨r, σ, h⟩)
    unfold wx_quire wm_quire wp_X8_quire wp_X9_quire
    have X0 : ∀ (Q : Int32 → Prop), Q (nI 1) → wp_X1_hasQuire x.2.2.2.1 (nI q) Q := fun Q P => x_hasQuire w b3 (fun z => absurd rfl (z q hq)) (fun _ _ _ => P)
    have M0 : ∀ (Q : Int32 → Prop), Q (nI 1) → wp_X9_isQuire y.1 (nI q) Q := fun Q P => r_isQuire mb w (fun z => absurd rfl (z q hq)) (fun _ _ _ => P)
    by_cases e0 : p2 = 0
    · exact ⟨nI (tmS (bS σ.1 q)), X0 _ (f1 (s_at b3 q hq ⟨fun _ => x_times (by omega) ⟨rfl, hx⟩, fun z => absurd e0 z⟩)), M0 _ (f1 ⟨fun _ => r_of (rd (Q := fun v => v = _ ∧ _) mq.1 (by omega) ⟨rfl, hm⟩), fun z => absurd e0 z⟩)⟩
    · by_cases e1 : p2 = 1
      · by_cases cs : bS σ.1 q < 78
        · refine ⟨nI (65 + bS σ.1 q % 26), X0 _ (f1 (s_at b3 q hq ⟨fun z => absurd z e0, fun _ => ⟨fun _ => x_isStarred (by omega) (fun _ => f0 (x_letter (by omega) ⟨nI_add _ _, hx⟩)) (fun z => absurd z (by omega)), fun z => absurd e1 z⟩⟩)), M0 _ (f1 ⟨fun z => absurd z e0, fun _ => ⟨fun _ => r_isStarred mb w hq (fun _ => f0 (r_of (rd (Q := fun v => nI 65 + v = _ ∧ _) mq.2.1 (by omega) ⟨?_, hm⟩))) (fun z => absurd z (by omega)), fun z => absurd e1 z⟩⟩)⟩
          rw [ltS, if_pos cs, nI_add]
        · exact ⟨-5, X0 _ (f1 (s_at b3 q hq ⟨fun z => absurd z e0, fun _ => ⟨fun _ => x_isStarred (by omega) (fun z => absurd z cs) (fun _ => f1 ⟨rfl, hx⟩), fun z => absurd e1 z⟩⟩)), M0 _ (f1 ⟨fun z => absurd z e0, fun _ => ⟨fun _ => r_isStarred mb w hq (fun z => absurd z cs) (fun _ => f1 ⟨rfl, hm⟩), fun z => absurd e1 z⟩⟩)⟩
      · by_cases e2 : p2 = 2
        · exact ⟨nI (bZ σ.1 q), X0 _ (f1 (s_at b3 q hq ⟨fun z => absurd z e0, fun _ => ⟨fun z => absurd z e1, fun _ => ⟨fun _ => s_at b4 q hq ⟨rfl, hx⟩, fun z => absurd e2 z⟩⟩⟩)), M0 _ (f1 ⟨fun z => absurd z e0, fun _ => ⟨fun z => absurd z e1, fun _ => ⟨fun _ => r_of (rd (Q := fun v => v = _ ∧ _) mq.2.2.1 (by omega) ⟨rfl, hm⟩), fun z => absurd e2 z⟩⟩⟩)⟩
        · by_cases e3 : p2 = 3
          · exact ⟨nI (sumF (bZ σ.1) q), X0 _ (f1 (s_at b3 q hq ⟨fun z => absurd z e0, fun _ => ⟨fun z => absurd z e1, fun _ => ⟨fun z => absurd z e2, fun _ => ⟨fun _ => x_firstLeaf w b4 (Nat.le_of_lt hq) ⟨rfl, hx⟩, fun z => absurd e3 z⟩⟩⟩⟩)), M0 _ (f1 ⟨fun z => absurd z e0, fun _ => ⟨fun z => absurd z e1, fun _ => ⟨fun z => absurd z e2, fun _ => ⟨fun _ => r_first mb w (Nat.le_of_lt hq) ⟨rfl, hm⟩, fun z => absurd e3 z⟩⟩⟩⟩)⟩
          · by_cases e4 : p2 = 4
            · refine ⟨nI (sgN (bsg σ.1) (bZ σ.1 q)), X0 _ (f1 (s_at b3 q hq ⟨fun z => absurd z e0, fun _ => ⟨fun z => absurd z e1, fun _ => ⟨fun z => absurd z e2, fun _ => ⟨fun z => absurd z e3, fun _ => ⟨fun _ => ?_, fun z => absurd e4 z⟩⟩⟩⟩⟩)), M0 _ (f1 ⟨fun z => absurd z e0, fun _ => ⟨fun z => absurd z e1, fun _ => ⟨fun z => absurd z e2, fun _ => ⟨fun z => absurd z e3, fun _ => ⟨fun _ => r_signed mb w hq ⟨rfl, hm⟩, fun z => absurd e4 z⟩⟩⟩⟩⟩)⟩
              rw [b2]
              exact x_signedIn w b4 hq ⟨rfl, hx⟩
            · by_cases e5 : p2 = 5
              · exact ⟨nI (fr (bL σ.1 q) (bZ σ.1 q)), X0 _ (f1 (s_at b3 q hq ⟨fun z => absurd z e0, fun _ => ⟨fun z => absurd z e1, fun _ => ⟨fun z => absurd z e2, fun _ => ⟨fun z => absurd z e3, fun _ => ⟨fun z => absurd z e4, fun _ => ⟨fun _ => x_thereIn w b4 b5 hq ⟨rfl, hx⟩, fun z => absurd e5 z⟩⟩⟩⟩⟩⟩)), M0 _ (f1 ⟨fun z => absurd z e0, fun _ => ⟨fun z => absurd z e1, fun _ => ⟨fun z => absurd z e2, fun _ => ⟨fun z => absurd z e3, fun _ => ⟨fun z => absurd z e4, fun _ => ⟨fun _ => r_there mb w hq ⟨rfl, hm⟩, fun z => absurd e5 z⟩⟩⟩⟩⟩⟩)⟩
              · by_cases e6 : p2 = 6
                · exact ⟨nI (sumF (fun j => if bS σ.1 j = bS σ.1 q then 1 else 0) q), X0 _ (f1 (s_at b3 q hq ⟨fun z => absurd z e0, fun _ => ⟨fun z => absurd z e1, fun _ => ⟨fun z => absurd z e2, fun _ => ⟨fun z => absurd z e3, fun _ => ⟨fun z => absurd z e4, fun _ => ⟨fun z => absurd z e5, fun _ => ⟨fun _ => x_sameAhead w b3 hq ⟨rfl, hx⟩, fun z => absurd e6 z⟩⟩⟩⟩⟩⟩⟩)), M0 _ (f1 ⟨fun z => absurd z e0, fun _ => ⟨fun z => absurd z e1, fun _ => ⟨fun z => absurd z e2, fun _ => ⟨fun z => absurd z e3, fun _ => ⟨fun z => absurd z e4, fun _ => ⟨fun z => absurd z e5, fun _ => ⟨fun _ => r_sameAhead mb w hq ⟨rfl, hm⟩, fun z => absurd e6 z⟩⟩⟩⟩⟩⟩⟩)⟩
                · exact ⟨-2, X0 _ (f1 (s_at b3 q hq ⟨fun z => absurd z e0, fun _ => ⟨fun z => absurd z e1, fun _ => ⟨fun z => absurd z e2, fun _ => ⟨fun z => absurd z e3, fun _ => ⟨fun z => absurd z e4, fun _ => ⟨fun z => absurd z e5, fun _ => ⟨fun z => absurd z e6, fun _ => ⟨rfl, hx⟩⟩⟩⟩⟩⟩⟩⟩)), M0 _ (f1 ⟨fun z => absurd z e0, fun _ => ⟨fun z => absurd z e1, fun _ => ⟨fun z => absurd z e2, fun _ => ⟨fun z => absurd z e3, fun _ => ⟨fun z => absurd z e4, fun _ => ⟨fun z => absurd z e5, fun _ => ⟨fun z => absurd z e6, fun _ => ⟨rfl, hm⟩⟩⟩⟩⟩⟩⟩⟩)⟩
  · have c' : ∀ j, j < bn σ.1 → p1 ≠ nI j := fun j hj e => c ⟨j, hj, e⟩
    exact ⟨-1, σ, x_hasQuire w b3 (fun _ => f0 ⟨rfl, hx⟩) (fun j hj e => absurd e (c' j hj)), r_isQuire mb w (fun _ => f0 ⟨rfl, hm⟩) (fun j hj e => absurd e (c' j hj))⟩
theorem op_leaf (σ : St) (x : XS) (y : MS) (hx : XOK σ x) (hm : MOK σ y) (p1 : Int32) (p2 : Int32) : ∃ (r : Int32) (σ2 : St), wx_leaf x p1 p2 (fun r2 x2 => r2 = r ∧ XOK σ2 x2) ∧ wm_leaf y p1 p2 (fun r2 y2 => r2 = r ∧ MOK σ2 y2) := by
  unfold wx_leaf wm_leaf wp_X8_leaf wp_X9_leaf
  obtain ⟨⟨b1, b2, b3, b4, b5, b6⟩, w, hv, _⟩ := id hx
  obtain ⟨mb, _, hh, hst, hk, _⟩ := id hm
  have b2 : x.2.2.1 = nI (bsg σ.1) := b2
  have hn := w.2.2.1
  by_cases c : ∃ j, j < lvs σ.1 ∧ p1 = nI j
  · obtain ⟨j, hj, rfl⟩ := c
    obtain ⟨q, hq⟩ := inQ_ex (bn σ.1) (Nat.le_refl _) j hj
    obtain ⟨k1, k2, k3⟩ := inQ_lt w hq
    have hq1 := hq.1
    have hq2 := hq.2.1
    have hlv := w.lvs
    have hz := w.2.2.2.2.1 q hq1
    have mq := mb.q hq1
    have hsq := w.sum (Nat.le_of_lt hq1)
    obtain ⟨m, hm1⟩ : ∃ m, m = j - sumF (bZ σ.1) q + 1 := ⟨_, rfl⟩
    suffices H : ∃ r : Int32, wx_leaf x (nI j) p2 (fun r2 x2 => r2 = r ∧ XOK σ x2) ∧ wm_leaf y (nI j) p2 (fun r2 y2 => r2 = r ∧ MOK σ y2) from H.elim (fun r h => ⟨r, σ, h⟩)
    unfold wx_leaf wm_leaf wp_X8_leaf wp_X9_leaf
    have M0 : ∀ (R : Int32 → Int32 → Int32 → Prop) (F : Prop), R (nI q) (nI m) (nI (bZ σ.1 q + 1 - m)) → wp_X9_isLeaf y.1 (nI j) (fun r1 => ((r1 = 0 → F) ∧ (¬ r1 = 0 → wp_X9_quireOf y.1 (nI j) (fun r2 => wp_X9_first y.1 r2 (fun r3 => (∀ y4 : Int32, y4 = (nI j - r3) + (nI 1) → wp_X9_of r2 (nI 2) (fun r5 => (vp_in r5 1056 ∧ (∀ y6 : Int32, y6 = ((y.1 r5.toNatClampNeg) + (nI 1)) - y4 → R r2 y4 y6))))))))) := by
      intro R F P
      refine r_isLeaf mb w (fun z => absurd rfl (z j hj)) (fun _ _ _ => f1 (r_quireOf mb w hq (r_first mb w (Nat.le_of_lt hq1) ?_)))
      rintro _ rfl
      refine r_of ⟨vp_in_nI (by omega) (by decide), ?_⟩
      rintro _ rfl
      rw [nI_clamp (by omega), mq.2.2.1, pk_sub hq2, nI_add, nI_add, ← hm1, pk_sub (by omega)]
      exact P
    have X1 : ∀ (R : Int32 → Int32 → Prop) (F : Prop), R (nI q) (nI m) → wp_X1_hasLeaf x.2.2.2.1 x.2.2.2.2.1 (nI j) (fun r1 => ((r1 = 0 → F) ∧ (¬ r1 = 0 → wp_X1_quireOf x.2.2.2.1 x.2.2.2.2.1 (nI j) (fun r2 => wp_X1_numberOf x.2.2.2.1 x.2.2.2.2.1 (nI j) (fun r3 => R r2 r3))))) := by
      intro R F P
      refine x_hasLeaf w b3 b4 (fun z => absurd rfl (z j hj)) (fun _ _ _ => f1 (x_quireOf w b3 b4 hq (x_numberOf w b3 b4 hq ?_)))
      rw [← hm1]
      exact P
    have hm2 : 1 ≤ m ∧ m ≤ bZ σ.1 q := by omega
    by_cases e0 : p2 = 0
    · exact ⟨nI q, X1 _ _ ⟨fun _ => ⟨rfl, hx⟩, fun z => absurd e0 z⟩, M0 _ _ ⟨fun _ => ⟨rfl, hm⟩, fun z => absurd e0 z⟩⟩
    · by_cases e1 : p2 = 1
      · exact ⟨nI m, X1 _ _ ⟨fun z => absurd z e0, fun _ => ⟨fun _ => ⟨rfl, hx⟩, fun z => absurd e1 z⟩⟩, M0 _ _ ⟨fun z => absurd z e0, fun _ => ⟨fun _ => ⟨rfl, hm⟩, fun z => absurd e1 z⟩⟩⟩
      · by_cases e2 : p2 = 2
        · have hsg : sgN (bsg σ.1) (bZ σ.1 q) ≤ 24 := by
            unfold sgN
            split
            · omega
            · split
              · exact Nat.le_trans (Nat.min_le_right _ _) k2
              · exact k2
          have X2 : ∀ (Q : Int32 → Prop), Q (nI (sgN (bsg σ.1) (bZ σ.1 q))) → wp_X1_signedIn x.2.2.1 x.2.2.2.2.1 (nI q) Q := by
            intro Q P
            rw [b2]
            exact x_signedIn w b4 hq1 P
          by_cases cs : sgN (bsg σ.1) (bZ σ.1 q) < m
          · exact ⟨nI 0, X1 _ _ ⟨fun z => absurd z e0, fun _ => ⟨fun z => absurd z e1, fun _ => ⟨fun _ => X2 _ (pk_lt (sgN (bsg σ.1) (bZ σ.1 q)) m (fun _ => ⟨rfl, hx⟩) (fun z => absurd z (by omega))), fun z => absurd e2 z⟩⟩⟩, M0 _ _ ⟨fun z => absurd z e0, fun _ => ⟨fun z => absurd z e1, fun _ => ⟨fun _ => r_signed mb w hq1 (pk_lt (sgN (bsg σ.1) (bZ σ.1 q)) m (fun _ => ⟨rfl, hm⟩) (fun z => absurd z (by omega))), fun z => absurd e2 z⟩⟩⟩⟩
          · exact ⟨nI 1, X1 _ _ ⟨fun z => absurd z e0, fun _ => ⟨fun z => absurd z e1, fun _ => ⟨fun _ => X2 _ (pk_lt (sgN (bsg σ.1) (bZ σ.1 q)) m (fun z => absurd z cs) (fun _ => ⟨rfl, hx⟩)), fun z => absurd e2 z⟩⟩⟩, M0 _ _ ⟨fun z => absurd z e0, fun _ => ⟨fun z => absurd z e1, fun _ => ⟨fun _ => r_signed mb w hq1 (pk_lt (sgN (bsg σ.1) (bZ σ.1 q)) m (fun z => absurd z cs) (fun _ => ⟨rfl, hm⟩)), fun z => absurd e2 z⟩⟩⟩⟩
        · by_cases e3 : p2 = 3
          · have X3 : ∀ (Q : Int32 → Prop), (bZ σ.1 q + 1 - m = m → Q (-5)) → (bZ σ.1 q + 1 - m ≠ m → Q (nI (sumF (bZ σ.1) q + (bZ σ.1 q + 1 - m) - 1))) → wp_X8_leafHangingWith x.2.2.2.1 x.2.2.2.2.1 (nI j) Q := by
              intro Q P0 P1
              refine x_quireOf w b3 b4 hq (x_numberOf w b3 b4 hq (s_at b4 q hq1 ?_))
              rintro _ rfl
              rw [← hm1, nI_add, pk_sub (by omega)]
              refine pk_eq (bZ σ.1 q + 1 - m) m P0 (fun z => x_firstLeaf w b4 (Nat.le_of_lt hq1) ?_)
              rw [nI_add, pk_sub (by omega)]
              exact P1 z
            by_cases cs : bZ σ.1 q + 1 - m = m
            · exact ⟨-5, X1 _ _ ⟨fun z => absurd z e0, fun _ => ⟨fun z => absurd z e1, fun _ => ⟨fun z => absurd z e2, fun _ => ⟨fun _ => X3 _ (fun _ => ⟨rfl, hx⟩) (fun z => absurd cs z), fun z => absurd e3 z⟩⟩⟩⟩, M0 _ _ ⟨fun z => absurd z e0, fun _ => ⟨fun z => absurd z e1, fun _ => ⟨fun z => absurd z e2, fun _ => ⟨fun _ => pk_eq (bZ σ.1 q + 1 - m) m (fun _ => ⟨rfl, hm⟩) (fun z => absurd cs z), fun z => absurd e3 z⟩⟩⟩⟩⟩
            · refine ⟨nI (sumF (bZ σ.1) q + (bZ σ.1 q + 1 - m) - 1), X1 _ _ ⟨fun z => absurd z e0, fun _ => ⟨fun z => absurd z e1, fun _ => ⟨fun z => absurd z e2, fun _ => ⟨fun _ => X3 _ (fun z => absurd z cs) (fun _ => ⟨rfl, hx⟩), fun z => absurd e3 z⟩⟩⟩⟩, M0 _ _ ⟨fun z => absurd z e0, fun _ => ⟨fun z => absurd z e1, fun _ => ⟨fun z => absurd z e2, fun _ => ⟨fun _ => pk_eq (bZ σ.1 q + 1 - m) m (fun z => absurd z cs) (fun _ => r_first mb w (Nat.le_of_lt hq1) ⟨?_, hm⟩), fun z => absurd e3 z⟩⟩⟩⟩⟩
              rw [nI_add, pk_sub (by omega)]
          · by_cases e4 : p2 = 4
            · have hb := bitn_le (bL σ.1 q) (j - sumF (bZ σ.1) q)
              refine ⟨nI (bitn (bL σ.1 q) (j - sumF (bZ σ.1) q)), X1 _ _ ⟨fun z => absurd z e0, fun _ => ⟨fun z => absurd z e1, fun _ => ⟨fun z => absurd z e2, fun _ => ⟨fun z => absurd z e3, fun _ => ⟨fun _ => x_isLost w b3 b4 b5 hq (b_z (fun z => ⟨by rw [z], hx⟩) (fun z => ⟨by rw [show bitn (bL σ.1 q) (j - sumF (bZ σ.1) q) = 1 by omega], hx⟩)), fun z => absurd e4 z⟩⟩⟩⟩⟩, M0 _ _ ⟨fun z => absurd z e0, fun _ => ⟨fun z => absurd z e1, fun _ => ⟨fun z => absurd z e2, fun _ => ⟨fun z => absurd z e3, fun _ => ⟨fun _ => r_isLost mb w hq (b_z (fun z => ⟨by rw [z], hm⟩) (fun z => ⟨by rw [show bitn (bL σ.1 q) (j - sumF (bZ σ.1) q) = 1 by omega], hm⟩)), fun z => absurd e4 z⟩⟩⟩⟩⟩⟩
            · by_cases e5 : p2 = 5
              · exact ⟨nI (tA σ.1 j), X1 _ _ ⟨fun z => absurd z e0, fun _ => ⟨fun z => absurd z e1, fun _ => ⟨fun z => absurd z e2, fun _ => ⟨fun z => absurd z e3, fun _ => ⟨fun z => absurd z e4, fun _ => ⟨fun _ => x_thereAhead w b3 b4 b5 (by omega) ⟨rfl, hx⟩, fun z => absurd e5 z⟩⟩⟩⟩⟩⟩, M0 _ _ ⟨fun z => absurd z e0, fun _ => ⟨fun z => absurd z e1, fun _ => ⟨fun z => absurd z e2, fun _ => ⟨fun z => absurd z e3, fun _ => ⟨fun z => absurd z e4, fun _ => ⟨fun _ => r_thereAhead mb w (Nat.le_of_lt hj) ⟨rfl, hm⟩, fun z => absurd e5 z⟩⟩⟩⟩⟩⟩⟩
              · exact ⟨-2, X1 _ _ ⟨fun z => absurd z e0, fun _ => ⟨fun z => absurd z e1, fun _ => ⟨fun z => absurd z e2, fun _ => ⟨fun z => absurd z e3, fun _ => ⟨fun z => absurd z e4, fun _ => ⟨fun z => absurd z e5, fun _ => ⟨rfl, hx⟩⟩⟩⟩⟩⟩⟩, M0 _ _ ⟨fun z => absurd z e0, fun _ => ⟨fun z => absurd z e1, fun _ => ⟨fun z => absurd z e2, fun _ => ⟨fun z => absurd z e3, fun _ => ⟨fun z => absurd z e4, fun _ => ⟨fun z => absurd z e5, fun _ => ⟨rfl, hm⟩⟩⟩⟩⟩⟩⟩⟩
  · have c' : ∀ j, j < lvs σ.1 → p1 ≠ nI j := fun j hj e => c ⟨j, hj, e⟩
    exact ⟨-1, σ, x_hasLeaf w b3 b4 (fun _ => f0 ⟨rfl, hx⟩) (fun j hj e => absurd e (c' j hj)), r_isLeaf mb w (fun _ => f0 ⟨rfl, hm⟩) (fun j hj e => absurd e (c' j hj))⟩
