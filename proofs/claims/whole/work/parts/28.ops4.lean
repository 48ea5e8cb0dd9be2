set_option maxHeartbeats 400000
def lastA (S : Nat → Nat) (o : Option Nat) : Nat := match o with
  | some k => S k + 1
  | none => 0
theorem lastA_ok (S : Nat → Nat) : ∀ (o : Option Nat), lastV S o + nI 1 = nI (lastA S o)
  | some k => nI_add _ _
  | none => m1_add
theorem lastA_le {S : Nat → Nat} {q : Nat} : lastA S (lastL S q) ≤ 78 := by
  cases h : lastL S q with
  | none => exact Nat.zero_le _
  | some k => exact (lastL_some h).2
theorem rl_signNext {s : Nat → Int32} {B : BkA} {st p1 : Int32} {Post : Int32 → (Nat → Int32) → Int32 → Prop} (h : MB s B) (w : WB B) (E : wp_X9_next s (lastV (bS B) (lastL (bS B) (bn B))) (fun r1 => ((0 ≤ r1 → wp_X9_records s st (fun u2 u3 => (vp_in (nI 2) 1056 ∧ wp_X9_puts u2 (u2 (nI 2).toNatClampNeg) ((r1 / (nI 26)) + (nI 1)) (r1 - r1 / (nI 26) * (nI 26)) p1 (fun u4 => (vp_in (nI 2) 1056 ∧ Post ((u4 (nI 2).toNatClampNeg) - (nI 1)) u4 u3))))) ∧ (¬ 0 ≤ r1 → Post (-4) s st)))) :
    ∀ (d i : Nat), i + d = bn B → wl_X9_signNext_31 s st p1 Post (d + 1) (lastV (bS B) (lastL (bS B) i)) (nI i) := by
  have hn := w.2.2.1
  intro d
  induction d with
  | zero =>
    intro i hi
    refine rd (k := 2) (Q := fun v => (v ≤ nI i → _) ∧ (¬ v ≤ nI i → _)) h.2.2.1 (by decide) (pk_le (bn B) i (fun _ => ?_) (fun c => absurd c (by omega)))
    rw [show i = bn B by omega]
    exact E
  | succ d ih =>
    intro i hi
    have hl : lastL (bS B) (i + 1) = if bS B i < 78 then some i else lastL (bS B) i := rfl
    have := ih (i + 1) (by omega)
    rw [hl] at this
    refine rd (k := 2) (Q := fun v => (v ≤ nI i → _) ∧ (¬ v ≤ nI i → _)) h.2.2.1 (by decide) (pk_le (bn B) i (fun c => absurd c (by omega)) (fun _ => r_isStarred h w (by omega) (fun c => f0 (r_sign h w (by omega) c ?_)) (fun c => f1 ?_)))
    · rw [if_pos c] at this
      rw [nI_add]
      exact this
    · rw [if_neg (by omega)] at this
      rw [nI_add]
      exact this
theorem op_signNext (σ : St) (x : XS) (y : MS) (hx : XOK σ x) (hm : MOK σ y) (p1 : Int32) : ∃ (r : Int32) (σ2 : St), wx_signNext x p1 (fun r2 x2 => r2 = r ∧ XOK σ2 x2) ∧ wm_signNext y p1 (fun r2 y2 => r2 = r ∧ MOK σ2 y2) := by
  unfold wx_signNext wm_signNext wp_X8_signNext wp_X9_signNext
  obtain ⟨x0, al, sg, r1, r2, r3, r4, c1, c2, d1, d2, d3, d4, v, t1, t2, t3, t4, at1, ta, w1, wc, fo⟩ := x
  obtain ⟨s, tx, to, fm, st, ik, ty, a1, a2, a3, a4, a5, a6, a7⟩ := y
  dsimp only
  obtain ⟨⟨b1, b2, b3, b4, b5, b6⟩, w, hv, _⟩ := id hx
  obtain ⟨mb, _, hh, hst, hk, _⟩ := id hm
  have b1 : al = nI (bal σ.1) := b1
  have hst : st = nI σ.2.1 := hst
  subst b1 hst
  have hn := w.2.2.1
  have w1' := w.1
  have m2 : s (nI 2).toNatClampNeg = nI (bn σ.1) := by rw [nI_clamp (by decide)]; exact mb.2.2.1
  have v2in : vp_in (nI 2) 1056 := vp_in_nI (by decide) (by decide)
  rcases rng p1 1 24 (by decide) (by decide) with c | ⟨z, hz1, hz2, rfl⟩
  · exact ⟨-2, σ, x_sizeO c (f0 ⟨rfl, hx⟩), r_inO c (f0 ⟨rfl, hm⟩)⟩
  · by_cases cf : bn σ.1 = 40
    · refine ⟨-3, σ, x_size hz1 hz2 (f1 (x_quires b3 (pk_lt (bn σ.1) 40 (fun e => absurd e (by omega)) (fun _ => ⟨rfl, hx⟩)))), r_inI hz1 hz2 (by decide) (f1 ⟨v2in, ?_⟩)⟩
      rw [m2]
      exact pk_eq (bn σ.1) 40 (fun _ => ⟨rfl, hm⟩) (fun e => absurd cf e)
    · have hn4 : bn σ.1 < 40 := by omega
      obtain ⟨k, hk0⟩ : ∃ k, k = nextA (bal σ.1) (lastA (bS σ.1) (lastL (bS σ.1) (bn σ.1))) := ⟨_, rfl⟩
      have hla := lastA_le (S := bS σ.1) (q := bn σ.1)
      have M1 : ∀ {A : Prop} {Q : Int32 → (Nat → Int32) → Int32 → Prop}, ((0 ≤ nv k → wp_X9_records s (nI σ.2.1) (fun u2 u3 => (vp_in (nI 2) 1056 ∧ wp_X9_puts u2 (u2 (nI 2).toNatClampNeg) ((nv k / (nI 26)) + (nI 1)) (nv k - nv k / (nI 26) * (nI 26)) (nI z) (fun u4 => (vp_in (nI 2) 1056 ∧ Q ((u4 (nI 2).toNatClampNeg) - (nI 1)) u4 u3))))) ∧ (¬ 0 ≤ nv k → Q (-4) s (nI σ.2.1))) → (vp_in (nI 2) 1056 ∧ ((s (nI 2).toNatClampNeg = nI 40 → A) ∧ (¬ s (nI 2).toNatClampNeg = nI 40 → ∃ k, wl_X9_signNext_31 s (nI σ.2.1) (nI z) Q k (-1) (nI 0)))) := by
        intro A Q P
        refine ⟨v2in, ?_⟩
        rw [m2]
        refine pk_eq (bn σ.1) 40 (fun e => absurd e cf) (fun _ => ⟨bn σ.1 + 1, rl_signNext mb w (r_next mb w (by omega) (lastA_ok _ _) ?_) (bn σ.1) 0 (by omega)⟩)
        rw [← hk0]
        exact P
      by_cases ck : k < 78
      · have hnv : nv k = nI k := by unfold nv; rw [if_pos ck]
        have w' := wb_ins w (q := bn σ.1) (s := k) (z := z) (Nat.le_refl _) hn4 (by omega) hz1 hz2
        have ht : tmS k = k / 26 + 1 := by unfold tmS; rw [if_pos ck]
        have hl : ltS k = nI (k % 26) := by unfold ltS; rw [if_pos ck]
        refine ⟨nI (bn σ.1), actS σ (bal σ.1, bsg σ.1, bn σ.1 + 1, insF (bS σ.1) (bn σ.1) k, insF (bZ σ.1) (bn σ.1) z, insF (bL σ.1) (bn σ.1) 0, 0, bP σ.1), x_size hz1 hz2 (f1 (x_quires b3 (pk_lt (bn σ.1) 40 (fun _ => x_quires b3 (x_lastLettersAhead w b3 (Nat.le_refl _) (x_nextSign (by omega) (by omega) (lastA_ok _ _) ?_))) (fun e => absurd e (by omega))))), r_inI hz1 hz2 (by decide) (f1 (M1 ?_))⟩
        · rw [← hk0, hnv]
          refine ⟨fun e => absurd e (nI_m1 (by omega)), fun _ => x_record w hv ⟨rfl, b2, b3, b4, b5, b6⟩ (fun v2 hv2 => x_quires b3 (x_addQuire (B := σ.1) b3 b4 b5 b6 (Nat.le_refl _) hn4 (fun u1 u2 u3 u4 g1 g2 g3 g4 => x_quires (B := (bal σ.1, bsg σ.1, bn σ.1 + 1, insF (bS σ.1) (bn σ.1) k, insF (bZ σ.1) (bn σ.1) z, insF (bL σ.1) (bn σ.1) 0, 0, bP σ.1)) g1 ⟨?_, xAct hx w' ⟨rfl, b2, g1, g2, g3, g4⟩ hv2⟩)))⟩
          show nI (bn σ.1 + 1) - nI 1 = nI (bn σ.1)
          rw [pk_sub (by omega), Nat.add_sub_cancel]
        · rw [hnv]
          refine ⟨fun _ => r_records mb w hh hk (fun t g1 g2 g3 => ⟨v2in, ?_⟩), fun e => absurd (nI_pos' (by omega)) e⟩
          rw [nI_clamp (n := 2) (by decide), g1.2.2.1, pk_rem (by omega) (by decide) (by decide), pk_div (by omega) (by decide) (by decide), nI_add, ← ht, ← hl]
          refine r_puts g1 w (Nat.le_refl _) hn4 (fun u k1 k2 => ⟨v2in, ?_, mAct hm w' g2 g3 k2 k1⟩)
          rw [k1.2.2.1]
          show nI (bn σ.1 + 1) - nI 1 = nI (bn σ.1)
          rw [pk_sub (by omega), Nat.add_sub_cancel]
      · have hnv : nv k = -1 := by unfold nv; rw [if_neg ck]
        refine ⟨-4, σ, x_size hz1 hz2 (f1 (x_quires b3 (pk_lt (bn σ.1) 40 (fun _ => x_quires b3 (x_lastLettersAhead w b3 (Nat.le_refl _) (x_nextSign (by omega) (by omega) (lastA_ok _ _) ?_))) (fun e => absurd e (by omega))))), r_inI hz1 hz2 (by decide) (f1 (M1 ?_))⟩
        · rw [← hk0, hnv]
          exact ⟨fun _ => ⟨rfl, hx⟩, fun e => absurd rfl e⟩
        · rw [hnv]
          exact ⟨fun e => absurd e (by decide), fun _ => ⟨rfl, hm⟩⟩
theorem rl_remove_in {t : Nat → Int32} {st : Int32} {q m : Nat} {K : (Nat → Int32) → Int32 → Prop} {Post : Int32 → (Nat → Int32) → Int32 → Prop} (hq : q ≤ m) (hm : m < 40) (P : ∀ u, (∀ i, u i = if 3 + 4 * q ≤ i ∧ i < 3 + 4 * (m + 1) then t (i + 4) else t i) → K u (nI (m + 1))) :
    ∀ (d k : Nat) (u : Nat → Int32), k + d = 4 → (∀ i, u i = if 3 + 4 * q ≤ i ∧ i < 3 + 4 * m + k then t (i + 4) else t i) → wl_X9_remove_30 st (nI m) K Post (d + 1) u (nI k) := by
  intro d
  induction d with
  | zero =>
    intro k u hk hu
    refine pk_le 4 k (fun _ => ?_) (fun c => absurd c (by omega))
    rw [nI_add]
    exact P u (fun i => by rw [hu i, show 3 + 4 * m + k = 3 + 4 * (m + 1) by omega])
  | succ d ih =>
    intro k u hk hu
    refine pk_le 4 k (fun c => absurd c (by omega)) (fun _ => ?_)
    rw [nI_add m 1, nI_add k 1]
    refine r_of (r_of ⟨vp_in_nI (by omega) (by decide), vp_in_nI (by omega) (by decide), ?_⟩)
    rw [nI_clamp (n := 3 + 4 * m + k) (by omega), nI_clamp (n := 3 + 4 * (m + 1) + k) (by omega)]
    refine ih (k + 1) _ (by omega) (fun i => ?_)
    unfold upd
    by_cases e : i = 3 + 4 * m + k
    · rw [if_pos e, if_pos (by omega), hu, if_neg (by omega)]
      congr 1
      omega
    · rw [if_neg e, hu]
      by_cases c : 3 + 4 * q ≤ i ∧ i < 3 + 4 * m + k
      · rw [if_pos c, if_pos (by omega)]
      · rw [if_neg c, if_neg (by omega)]
theorem rl_remove {t : Nat → Int32} {B : BkA} {st : Int32} {q : Nat} {Post : Int32 → (Nat → Int32) → Int32 → Prop} (h : MB t B) (w : WB B) (hq : q < bn B)
    (P : ∀ u, MB u (bal B, bsg B, bn B - 1, dropF (bS B) q, dropF (bZ B) q, dropF (bL B) q, 0, bP B) → (∀ i, 176 ≤ i → u i = t i) → wp_X9_leaves u (fun r => Post r u st)) :
    ∀ (d m : Nat) (u : Nat → Int32), m + 1 + d = bn B → q ≤ m → (∀ i, u i = if 3 + 4 * q ≤ i ∧ i < 3 + 4 * m then t (i + 4) else t i) → wl_X9_remove_16 st Post (d + 1) u (nI m) := by
  have hn := w.2.2.1
  intro d
  induction d with
  | zero =>
    intro m u hm hqm hu
    have u2 : u 2 = nI (bn B) := by rw [hu, if_neg (by omega)]; exact h.2.2.1
    refine rd (k := 2) (Q := fun v => (v ≤ nI m + nI 1 → _) ∧ (¬ v ≤ nI m + nI 1 → _)) u2 (by decide) ?_
    rw [nI_add]
    refine pk_le (bn B) (m + 1) (fun _ => ⟨vp_in_nI (by decide) (by decide), vp_in_nI (by decide) (by decide), vp_in_nI (by decide) (by decide), ?_⟩) (fun c => absurd c (by omega))
    rw [nI_clamp (n := 163) (by decide), nI_clamp (n := 2) (by decide), u2, pk_sub (by omega)]
    have o : ∀ k (v1 v2 : Int32), k ≠ 163 → k ≠ 2 → upd (upd u 2 v1) 163 v2 k = u k := fun k v1 v2 h1 h2 => by rw [pk_un h1, pk_un h2]
    refine P _ ⟨?_, ?_, ?_, fun j hj => ?_, pk_us, fun i hi => absurd hi (Nat.not_lt_zero _), fun i hi => absurd hi (Nat.not_lt_zero _)⟩ (fun i hi => ?_)
    · rw [o _ _ _ (by decide) (by decide), hu, if_neg (by omega)]; exact h.1
    · rw [o _ _ _ (by decide) (by decide), hu, if_neg (by omega)]; exact h.2.1
    · rw [pk_un (by decide), pk_us]
    · have hj : j < bn B - 1 := hj
      rw [o _ _ _ (by omega) (by omega), o _ _ _ (by omega) (by omega), o _ _ _ (by omega) (by omega), o _ _ _ (by omega) (by omega)]
      show _ = nI (tmS (dropF (bS B) q j)) ∧ _ = ltS (dropF (bS B) q j) ∧ _ = nI (dropF (bZ B) q j) ∧ _ = nI (dropF (bL B) q j)
      have e4 : ∀ a, a < 4 → u (3 + 4 * j + a) = if j < q then t (3 + 4 * j + a) else t (3 + 4 * (j + 1) + a) := by
        intro a ha
        rw [hu]
        by_cases c : j < q
        · rw [if_neg (by omega), if_pos c]
        · rw [if_pos (by omega), if_neg c]
          congr 1
          omega
      rw [e4 0 (by decide), e4 1 (by decide), e4 2 (by decide), e4 3 (by decide)]
      unfold dropF
      by_cases c : j < q
      · simp only [if_pos c]
        exact h.q (by omega)
      · simp only [if_neg c]
        exact h.q (q := j + 1) (by omega)
    · rw [o _ _ _ (by omega) (by omega), hu, if_neg (by omega)]
  | succ d ih =>
    intro m u hm hqm hu
    have u2 : u 2 = nI (bn B) := by rw [hu, if_neg (by omega)]; exact h.2.2.1
    refine rd (k := 2) (Q := fun v => (v ≤ nI m + nI 1 → _) ∧ (¬ v ≤ nI m + nI 1 → _)) u2 (by decide) ?_
    rw [nI_add]
    exact pk_le (bn B) (m + 1) (fun c => absurd c (by omega)) (fun _ => ⟨5, rl_remove_in (t := t) hqm (by omega) (fun g hg => ih (m + 1) g (by omega) (by omega) hg) 4 0 u (by omega) (fun i => by rw [hu i]; rfl)⟩)
theorem op_remove (σ : St) (x : XS) (y : MS) (hx : XOK σ x) (hm : MOK σ y) (p1 : Int32) : ∃ (r : Int32) (σ2 : St), wx_remove x p1 (fun r2 x2 => r2 = r ∧ XOK σ2 x2) ∧ wm_remove y p1 (fun r2 y2 => r2 = r ∧ MOK σ2 y2) := by
  unfold wx_remove wm_remove wp_X8_remove wp_X9_remove
  obtain ⟨x0, al, sg, r1, r2, r3, r4, c1, c2, d1, d2, d3, d4, v, t1, t2, t3, t4, at1, ta, w1, wc, fo⟩ := x
  obtain ⟨s, tx, to, fm, st, ik, ty, a1, a2, a3, a4, a5, a6, a7⟩ := y
  dsimp only
  obtain ⟨⟨b1, b2, b3, b4, b5, b6⟩, w, hv, _⟩ := id hx
  obtain ⟨mb, _, hh, hst, hk, _⟩ := id hm
  have hst : st = nI σ.2.1 := hst
  subst hst
  have hn := w.2.2.1
  by_cases c : ∃ j, j < bn σ.1 ∧ p1 = nI j
  · obtain ⟨q, hq, rfl⟩ := c
    have w' := wb_drop w hq
    refine ⟨nI (lvs (bal σ.1, bsg σ.1, bn σ.1 - 1, dropF (bS σ.1) q, dropF (bZ σ.1) q, dropF (bL σ.1) q, 0, bP σ.1)), actS σ (bal σ.1, bsg σ.1, bn σ.1 - 1, dropF (bS σ.1) q, dropF (bZ σ.1) q, dropF (bL σ.1) q, 0, bP σ.1), x_hasQuire w b3 (fun z => absurd rfl (z q hq)) (fun _ _ _ => f1 (x_record w hv ⟨b1, b2, b3, b4, b5, b6⟩ (fun v2 hv2 => x_dropQuire (B := σ.1) b3 b4 b5 b6 hq (fun u1 u2 u3 u4 g1 g2 g3 g4 => x_leaves (B := (bal σ.1, bsg σ.1, bn σ.1 - 1, dropF (bS σ.1) q, dropF (bZ σ.1) q, dropF (bL σ.1) q, 0, bP σ.1)) w' g1 g2 ⟨rfl, xAct hx w' ⟨b1, b2, g1, g2, g3, g4⟩ hv2⟩)))), r_isQuire mb w (fun z => absurd rfl (z q hq)) (fun _ _ _ => f1 (r_records mb w hh hk (fun t g1 g2 g3 => ⟨bn σ.1 - (q + 1) + 1, rl_remove g1 w hq (fun u k1 k2 => r_leaves k1 w' ⟨rfl, mAct hm w' g2 g3 k2 k1⟩) (bn σ.1 - (q + 1)) q t (by omega) (Nat.le_refl _) (fun i => by rw [if_neg (by omega)])⟩)))⟩
  · have c' : ∀ j, j < bn σ.1 → p1 ≠ nI j := fun j hj e => c ⟨j, hj, e⟩
    exact ⟨-1, σ, x_hasQuire w b3 (fun _ => f0 ⟨rfl, hx⟩) (fun j hj e => absurd e (c' j hj)), r_isQuire mb w (fun _ => f0 ⟨rfl, hm⟩) (fun j hj e => absurd e (c' j hj))⟩
