set_option maxHeartbeats 400000
theorem op_leaveOut (σ : St) (x : XS) (y : MS) (hx : XOK σ x) (hm : MOK σ y) (p1 : Int32) (p2 : Int32) (hz2 : p2 = nI 0 ∨ p2 = nI 1) : ∃ (r : Int32) (σ2 : St), wx_leaveOut x (cI p1) p2 (fun r2 x2 => r2 = r ∧ XOK σ2 x2) ∧ wm_leaveOut y (cI p1) p2 (fun r2 y2 => r2 = r ∧ MOK σ2 y2) := by
  unfold wx_leaveOut wm_leaveOut
  obtain ⟨x0, al, sg, r1, r2, r3, r4, c1, c2, d1, d2, d3, d4, v, t1, t2, t3, t4, at1, ta, w1, wc, fo⟩ := x
  obtain ⟨s, tx, to, fm, st, ik, ty, a1, a2, a3, a4, a5, a6, a7⟩ := y
  dsimp only
  obtain ⟨⟨b1, b2, b3, b4, b5, b6⟩, w, hv, _⟩ := id hx
  obtain ⟨mb, _, hh, hst, hk, _⟩ := id hm
  have b1 : al = nI (bal σ.1) := b1
  have hst : st = nI σ.2.1 := hst
  subst b1 hst
  have w1' := w.1
  obtain ⟨ch, hc, e1⟩ := char_ex p1
  rw [e1]
  by_cases c : 65 ≤ ch ∧ ch ≤ 90
  · obtain ⟨l, rfl⟩ : ∃ l, ch = 65 + l := ⟨ch - 65, by omega⟩
    have hl : l < 26 := by omega
    have hsub : nI (65 + l) - nI 65 = nI l := by rw [pk_sub (by omega), Nat.add_sub_cancel_left]
    have hbn := bitn_le (bal σ.1) l
    have hx2 : bal σ.1 ^^^ 2 ^ l < 2 ^ 26 := Nat.xor_lt_two_pow w1' (Nat.pow_lt_pow_right (by decide) hl)
    have w' : WB (bal σ.1 ^^^ 2 ^ l, σ.1.2) := ⟨hx2, w.2⟩
    have XA : ∀ (f g : Int32), ¬ f = g → wj_X8_leaveOut_64 (nI (bal σ.1)) sg r1 r2 r3 r4 v f (nI l) g (fun rr u0 u1 => rr = nI (lettersN (bal σ.1 ^^^ 2 ^ l)) ∧ XOK (actS σ (bal σ.1 ^^^ 2 ^ l, σ.1.2)) (x0, u0, sg, r1, r2, r3, r4, c1, c2, d1, d2, d3, d4, u1, t1, t2, t3, t4, at1, ta, w1, wc, fo)) := by
      intro f g hfg
      refine ⟨fun z => absurd z hfg, fun _ => x_record w hv ⟨rfl, b2, b3, b4, b5, b6⟩ (fun v2 hv2 => ?_)⟩
      unfold wp_X0_turn
      rw [one_shl (by omega), nI_xor]
      exact x_letters hx2 ⟨rfl, xAct hx w' ⟨rfl, b2, b3, b4, b5, b6⟩ hv2⟩
    have MA : wj_X9_leaveOut_43 s (nI σ.2.1) (nI (65 + l)) (fun rr u0 u1 => rr = nI (lettersN (bal σ.1 ^^^ 2 ^ l)) ∧ MOK (actS σ (bal σ.1 ^^^ 2 ^ l, σ.1.2)) (u0, tx, to, fm, u1, ik, ty, a1, a2, a3, a4, a5, a6, a7)) := by
      refine r_records mb w hh hk (fun t g1 g2 g3 => ⟨vp_in_nI (by decide) (by decide), vp_in_nI (by decide) (by decide), ?_⟩)
      rw [nI_clamp (by decide), g1.1, hsub, one_shl (by omega), nI_xor]
      exact r_letters (mb_al g1) w' ⟨rfl, mAct hm w' g2 g3 (fun i hi => pk_un (by omega)) (mb_al g1)⟩
    have XI : ∀ (Q : Int32 → Int32 → HistT → Prop) (p2 : Int32), wj_X8_leaveOut_36 (nI (bal σ.1)) sg r1 r2 r3 r4 v p2 (nI l) (nI (bitn (bal σ.1) l)) Q → wp_X8_leaveOut (nI (bal σ.1)) sg r1 r2 r3 r4 v (nI (65 + l)) p2 Q := by
      intro Q p2 P
      unfold wp_X8_leaveOut
      rintro _ rfl
      rw [hsub]
      refine b_neg (pk_lt l 26 (fun _ => x_has (by omega) hl (fun z => f1 ?_) (fun z => f0 ?_)) (fun z => absurd z (by omega)))
      · rw [z] at P; exact P
      · rw [z] at P; exact P
    have MI : ∀ (Q : Int32 → (Nat → Int32) → Int32 → Prop) (p2 : Int32), ((nI (bitn (bal σ.1) l) = p2 → Q (-5) s (nI σ.2.1)) ∧ (¬ nI (bitn (bal σ.1) l) = p2 → ((p2 = 0 → wj_X9_leaveOut_43 s (nI σ.2.1) (nI (65 + l)) Q) ∧ (¬ p2 = 0 → wp_X9_letters s (fun r6 => ((r6 = (nI 1) → Q (-4) s (nI σ.2.1)) ∧ (¬ r6 = (nI 1) → wj_X9_leaveOut_43 s (nI σ.2.1) (nI (65 + l)) Q))))))) → wp_X9_leaveOut s (nI σ.2.1) (nI (65 + l)) p2 Q := by
      intro Q p2 P
      unfold wp_X9_leaveOut
      refine r_inI (by omega) (by omega) (by decide) (f1 ?_)
      rw [hsub]
      exact r_isOut mb w (by omega) P
    have hL : lettersN (bal σ.1) < 2 ^ 31 := by
      have := sumF_le (f := fun l => 1 - bitn (bal σ.1) l) (c := 1) 26 (fun j _ => Nat.sub_le _ _)
      unfold lettersN
      omega
    rcases hz2 with rfl | rfl
    · rcases Nat.eq_zero_or_pos (bitn (bal σ.1) l) with z | z
      · rw [z] at XI MI
        exact ⟨-5, σ, XI _ _ (f0 ⟨fun _ => ⟨rfl, hx⟩, fun q => absurd rfl q⟩), MI _ _ ⟨fun _ => ⟨rfl, hm⟩, fun q => absurd rfl q⟩⟩
      · have z : bitn (bal σ.1) l = 1 := by omega
        rw [z] at XI MI
        exact ⟨nI (lettersN (bal σ.1 ^^^ 2 ^ l)), actS σ (bal σ.1 ^^^ 2 ^ l, σ.1.2), XI _ _ (f0 (XA _ _ (by decide))), MI _ _ ⟨fun q => absurd q (by decide), fun _ => f0 MA⟩⟩
    · rcases Nat.eq_zero_or_pos (bitn (bal σ.1) l) with z | z
      · rw [z] at XI MI
        by_cases cl : lettersN (bal σ.1) = 1
        · exact ⟨-4, σ, XI _ _ (f1 (f0 (x_letters w1' (pk_eq (lettersN (bal σ.1)) 1 (fun _ => ⟨rfl, hx⟩) (fun q => absurd cl q))))), MI _ _ ⟨fun q => absurd q (by decide), fun _ => f1 (r_letters mb w (pk_eq (lettersN (bal σ.1)) 1 (fun _ => ⟨rfl, hm⟩) (fun q => absurd cl q)))⟩⟩
        · exact ⟨nI (lettersN (bal σ.1 ^^^ 2 ^ l)), actS σ (bal σ.1 ^^^ 2 ^ l, σ.1.2), XI _ _ (f1 (f0 (x_letters w1' (pk_eq (lettersN (bal σ.1)) 1 (fun q => absurd q cl) (fun _ => XA _ _ (by decide)))))), MI _ _ ⟨fun q => absurd q (by decide), fun _ => f1 (r_letters mb w (pk_eq (lettersN (bal σ.1)) 1 (fun q => absurd q cl) (fun _ => MA)))⟩⟩
      · have z : bitn (bal σ.1) l = 1 := by omega
        rw [z] at XI MI
        exact ⟨-5, σ, XI _ _ (f1 (f1 ⟨fun _ => ⟨rfl, hx⟩, fun q => absurd rfl q⟩)), MI _ _ ⟨fun _ => ⟨rfl, hm⟩, fun q => absurd rfl q⟩⟩
  · unfold wp_X9_leaveOut
    refine ⟨-1, σ, ?_, r_inO (?_ : nI ch < nI 65 ∨ nI 90 < nI ch) (f0 ⟨rfl, hm⟩)⟩
    · show wp_X8_leaveOut _ _ _ _ _ _ _ _ _ _
      unfold wp_X8_leaveOut
      rintro _ rfl
      refine ⟨fun _ => ⟨rfl, hx⟩, fun z => ?_⟩
      have h65 : 65 ≤ ch := Nat.le_of_not_lt (fun q => z (pk_sneg (by decide) q))
      rw [pk_sub h65]
      exact pk_lt (ch - 65) 26 (fun q => absurd q (by omega)) (fun _ => ⟨rfl, hx⟩)
    · rcases Nat.lt_or_ge ch 65 with q | q
      · exact Or.inl ((nI_ltI (by omega) (by omega)).mpr q)
      · exact Or.inr ((nI_ltI (by omega) (by omega)).mpr (by omega))
theorem x_size {n : Nat} {Post : Int32 → Prop} (h1 : 1 ≤ n) (h2 : n ≤ 24) (P : Post (nI 1)) : wp_X8_isQuireSize (nI n) Post := pk_lt n 1 (fun z => absurd z (by omega)) (fun _ => pk_lt 24 n (fun z => absurd z (by omega)) (fun _ => P))
theorem x_sizeO {p : Int32} {Post : Int32 → Prop} (c : p < nI 1 ∨ nI 24 < p) (P : Post (nI 0)) : wp_X8_isQuireSize p Post := ⟨fun _ => P, fun z => ⟨fun _ => P, fun z2 => absurd c (fun q => q.elim z z2)⟩⟩
theorem op_insert (σ : St) (x : XS) (y : MS) (hx : XOK σ x) (hm : MOK σ y) (p1 : Int32) (p2 : Int32) (p3 : Int32) : ∃ (r : Int32) (σ2 : St), wx_insert x p1 p2 p3 (fun r2 x2 => r2 = r ∧ XOK σ2 x2) ∧ wm_insert y p1 p2 p3 (fun r2 y2 => r2 = r ∧ MOK σ2 y2) := by
  unfold wx_insert wm_insert wp_X8_insert wp_X9_insert
  obtain ⟨x0, al, sg, r1, r2, r3, r4, c1, c2, d1, d2, d3, d4, v, t1, t2, t3, t4, at1, ta, w1, wc, fo⟩ := x
  obtain ⟨s, tx, to, fm, st, ik, ty, a1, a2, a3, a4, a5, a6, a7⟩ := y
  dsimp only
  obtain ⟨⟨b1, b2, b3, b4, b5, b6⟩, w, hv, _⟩ := id hx
  obtain ⟨mb, _, hh, hst, hk, _⟩ := id hm
  have hst : st = nI σ.2.1 := hst
  subst hst
  have hn := w.2.2.1
  have m2 : s (nI 2).toNatClampNeg = nI (bn σ.1) := by rw [nI_clamp (by decide)]; exact mb.2.2.1
  have v2in : vp_in (nI 2) 1056 := vp_in_nI (by decide) (by decide)
  rcases rng p1 0 (bn σ.1) (by decide) (by omega) with c | ⟨q, _, hq, rfl⟩
  · refine ⟨-1, σ, ⟨fun _ => ⟨rfl, hx⟩, fun z => x_quires b3 ⟨fun z2 => absurd c (fun e => e.elim (fun e => z (by rw [nI_0] at e; exact e)) (fun e => absurd z2 (Int32.not_le.mpr e))), fun _ => ⟨rfl, hx⟩⟩⟩, ⟨v2in, r_inO (?_ : p1 < nI 0 ∨ s (nI 2).toNatClampNeg < p1) (f0 ⟨rfl, hm⟩)⟩⟩
    rw [m2]; exact c
  · have XQ : ∀ {A B : Prop}, B → (nI q < 0 → A) ∧ (¬ nI q < 0 → wp_X1_quires r1 (fun r => (nI q ≤ r → B) ∧ (¬ nI q ≤ r → A))) := fun b => b_neg (x_quires b3 (pk_le q (bn σ.1) (fun _ => b) (fun z => absurd z (by omega))))
    have MQ : ∀ {Q : Int32 → Prop}, Q (nI 1) → vp_in (nI 2) 1056 ∧ wp_X9_in (nI q) (nI 0) (s (nI 2).toNatClampNeg) Q := fun P => ⟨v2in, by rw [m2]; exact r_inI (Nat.zero_le _) hq (by omega) P⟩
    rcases rng p2 1 5 (by decide) (by decide) with c | ⟨a, ha1, ha2, rfl⟩
    · exact ⟨-2, σ, XQ ⟨fun _ => ⟨rfl, hx⟩, fun z => ⟨fun _ => ⟨rfl, hx⟩, fun z2 => absurd c (fun e => e.elim z z2)⟩⟩, MQ (f1 (r_inO c (f0 ⟨rfl, hm⟩)))⟩
    · have XS2 : ∀ {A B : Prop}, B → (nI a < nI 1 → A) ∧ (¬ nI a < nI 1 → ((nI 5 < nI a → A) ∧ (¬ nI 5 < nI a → B))) := fun b => pk_lt a 1 (fun z => absurd z (by omega)) (fun _ => pk_lt 5 a (fun z => absurd z (by omega)) (fun _ => b))
      rcases rng p3 1 24 (by decide) (by decide) with c | ⟨z, hz1, hz2, rfl⟩
      · exact ⟨-2, σ, XQ (XS2 (x_sizeO c (f0 ⟨rfl, hx⟩))), MQ (f1 (r_inI ha1 ha2 (by decide) (f1 (r_inO c (f0 ⟨rfl, hm⟩)))))⟩
      · by_cases cf : bn σ.1 = 40
        · refine ⟨-3, σ, XQ (XS2 (x_size hz1 hz2 (f1 (x_quires b3 (pk_lt (bn σ.1) 40 (fun e => absurd e (by omega)) (fun _ => ⟨rfl, hx⟩)))))), MQ (f1 (r_inI ha1 ha2 (by decide) (f1 (r_inI hz1 hz2 (by decide) (f1 ⟨v2in, ?_⟩)))))⟩
          rw [m2]
          exact pk_eq (bn σ.1) 40 (fun _ => ⟨rfl, hm⟩) (fun e => absurd cf e)
        · have hn4 : bn σ.1 < 40 := by omega
          obtain ⟨sn, hsn⟩ : ∃ sn, sn = 77 + a := ⟨_, rfl⟩
          have ht : tmS sn = a := by unfold tmS; rw [if_neg (by omega)]; omega
          have hl : ltS sn = -1 := by unfold ltS; rw [if_neg (by omega)]
          have w' := wb_ins w (q := q) (s := sn) (z := z) hq hn4 (by omega) hz1 hz2
          refine ⟨nI (lvs (bal σ.1, bsg σ.1, bn σ.1 + 1, insF (bS σ.1) q sn, insF (bZ σ.1) q z, insF (bL σ.1) q 0, 0, bP σ.1)), actS σ (bal σ.1, bsg σ.1, bn σ.1 + 1, insF (bS σ.1) q sn, insF (bZ σ.1) q z, insF (bL σ.1) q 0, 0, bP σ.1), XQ (XS2 (x_size hz1 hz2 (f1 (x_quires b3 (pk_lt (bn σ.1) 40 (fun _ => ?_) (fun e => absurd e (by omega))))))), MQ (f1 (r_inI ha1 ha2 (by decide) (f1 (r_inI hz1 hz2 (by decide) (f1 ⟨v2in, ?_⟩)))))⟩
          · refine x_record w hv ⟨b1, b2, b3, b4, b5, b6⟩ (fun v2 hv2 => ?_)
            show wp_X1_addQuire r1 r2 r3 r4 (nI q) (nI 78 + nI a - nI 1) (nI z) _
            rw [nI_add, pk_sub (by omega), show 78 + a - 1 = sn by omega]
            exact x_addQuire (B := σ.1) b3 b4 b5 b6 hq hn4 (fun u1 u2 u3 u4 g1 g2 g3 g4 => x_leaves (B := (bal σ.1, bsg σ.1, bn σ.1 + 1, insF (bS σ.1) q sn, insF (bZ σ.1) q z, insF (bL σ.1) q 0, 0, bP σ.1)) w' g1 g2 ⟨rfl, xAct hx w' ⟨b1, b2, g1, g2, g3, g4⟩ hv2⟩)
          · rw [m2]
            refine pk_eq (bn σ.1) 40 (fun e => absurd e cf) (fun _ => r_records mb w hh hk (fun t g1 g2 g3 => ?_))
            rw [← ht, ← hl]
            exact r_puts g1 w hq hn4 (fun u k1 k2 => r_leaves k1 w' ⟨rfl, mAct hm w' g2 g3 k2 k1⟩)
theorem op_lose (σ : St) (x : XS) (y : MS) (hx : XOK σ x) (hm : MOK σ y) (p1 : Int32) (p2 : Int32) (hz2 : p2 = nI 0 ∨ p2 = nI 1) : ∃ (r : Int32) (σ2 : St), wx_lose x p1 p2 (fun r2 x2 => r2 = r ∧ XOK σ2 x2) ∧ wm_lose y p1 p2 (fun r2 y2 => r2 = r ∧ MOK σ2 y2) := by
  unfold wx_lose wm_lose wp_X8_lose wp_X9_lose
  obtain ⟨x0, al, sg, r1, r2, r3, r4, c1, c2, d1, d2, d3, d4, v, t1, t2, t3, t4, at1, ta, w1, wc, fo⟩ := x
  obtain ⟨s, tx, to, fm, st, ik, ty, a1, a2, a3, a4, a5, a6, a7⟩ := y
  dsimp only
  obtain ⟨⟨b1, b2, b3, b4, b5, b6⟩, w, hv, _⟩ := id hx
  obtain ⟨mb, _, hh, hst, hk, _⟩ := id hm
  have hst : st = nI σ.2.1 := hst
  subst hst
  have hn := w.2.2.1
  by_cases c : ∃ j, j < lvs σ.1 ∧ p1 = nI j
  · obtain ⟨j, hj, rfl⟩ := c
    obtain ⟨q, hq⟩ := inQ_ex (bn σ.1) (Nat.le_refl _) j hj
    obtain ⟨k1, k2, k3⟩ := inQ_lt w hq
    have hq1 := hq.1
    have hq2 := hq.2.1
    have hlv := w.lvs
    have hb := bitn_le (bL σ.1 q) (j - sumF (bZ σ.1) q)
    have hp2 : ∃ b, b ≤ 1 ∧ p2 = nI b := hz2.elim (fun e => ⟨0, by decide, e⟩) (fun e => ⟨1, by decide, e⟩)
    obtain ⟨b, hb2, rfl⟩ := hp2
    have X0 : ∀ {Q : Int32 → Prop}, Q (nI 1) → wp_X1_hasLeaf r1 r2 (nI j) Q := fun P => x_hasLeaf w b3 b4 (fun z => absurd rfl (z j hj)) (fun _ _ _ => P)
    have M0 : ∀ {Q : Int32 → Prop}, Q (nI 1) → wp_X9_isLeaf s (nI j) Q := fun P => r_isLeaf mb w (fun z => absurd rfl (z j hj)) (fun _ _ _ => P)
    by_cases cb : bitn (bL σ.1 q) (j - sumF (bZ σ.1) q) = b
    · exact ⟨-5, σ, X0 (f1 (x_isLost w b3 b4 b5 hq (pk_eq (bitn (bL σ.1 q) (j - sumF (bZ σ.1) q)) b (fun _ => ⟨rfl, hx⟩) (fun z => absurd cb z)))), M0 (f1 (r_isLost mb w hq (pk_eq (bitn (bL σ.1 q) (j - sumF (bZ σ.1) q)) b (fun _ => ⟨rfl, hm⟩) (fun z => absurd cb z))))⟩
    · have w' := wb_turn w (q := q) (k := j - sumF (bZ σ.1) q) hq1 k1
      refine ⟨nI (tA (bal σ.1, bsg σ.1, bn σ.1, bS σ.1, bZ σ.1, updN (bL σ.1) q (bL σ.1 q ^^^ 2 ^ (j - sumF (bZ σ.1) q)), 0, bP σ.1) (lvs σ.1)), actS σ (bal σ.1, bsg σ.1, bn σ.1, bS σ.1, bZ σ.1, updN (bL σ.1) q (bL σ.1 q ^^^ 2 ^ (j - sumF (bZ σ.1) q)), 0, bP σ.1), X0 (f1 (x_isLost w b3 b4 b5 hq (pk_eq (bitn (bL σ.1 q) (j - sumF (bZ σ.1) q)) b (fun z => absurd z cb) (fun _ => ?_)))), M0 (f1 (r_isLost mb w hq (pk_eq (bitn (bL σ.1 q) (j - sumF (bZ σ.1) q)) b (fun z => absurd z cb) (fun _ => ?_))))⟩
      · exact x_record w hv ⟨b1, b2, b3, b4, b5, b6⟩ (fun v2 hv2 => x_turnLost w b3 b4 b5 b6 hq (fun u3 u4 g3 g4 => x_leavesThere (B := (bal σ.1, bsg σ.1, bn σ.1, bS σ.1, bZ σ.1, updN (bL σ.1) q (bL σ.1 q ^^^ 2 ^ (j - sumF (bZ σ.1) q)), 0, bP σ.1)) w' b3 b4 g3 ⟨rfl, xAct hx w' ⟨b1, b2, b3, b4, g3, g4⟩ hv2⟩))
      · refine r_records mb w hh hk (fun t g1 g2 g3 => r_quireOf g1 w hq (r_of ⟨vp_in_nI (by omega) (by decide), r_first g1 w (Nat.le_of_lt hq1) ⟨vp_in_nI (by omega) (by decide), vp_in_nI (by decide) (by decide), ?_⟩⟩))
        rw [nI_clamp (n := 163) (by decide), nI_clamp (n := 3 + 4 * q + 3) (by omega), (g1.q hq1).2.2.2, pk_sub hq2, one_shl (by omega), nI_xor]
        have mb2 : MB (upd (upd t (3 + 4 * q + 3) (nI (bL σ.1 q ^^^ 2 ^ (j - sumF (bZ σ.1) q)))) 163 (nI 0)) (bal σ.1, bsg σ.1, bn σ.1, bS σ.1, bZ σ.1, updN (bL σ.1) q (bL σ.1 q ^^^ 2 ^ (j - sumF (bZ σ.1) q)), 0, bP σ.1) := by
          have o : ∀ k (v1 v2 : Int32), k ≠ 163 → k ≠ 3 + 4 * q + 3 → upd (upd t (3 + 4 * q + 3) v1) 163 v2 k = t k := fun k v1 v2 h1 h2 => by rw [pk_un h1, pk_un h2]
          refine ⟨(o 0 _ _ (by decide) (by omega)).trans g1.1, (o 1 _ _ (by decide) (by omega)).trans g1.2.1, (o 2 _ _ (by decide) (by omega)).trans g1.2.2.1, fun i hi => ?_, pk_us, fun i hi => absurd hi (Nat.not_lt_zero _), fun i hi => absurd hi (Nat.not_lt_zero _)⟩
          have hi : i < bn σ.1 := hi
          have gi := g1.q hi
          refine ⟨(o _ _ _ (by omega) (by omega)).trans gi.1, (o _ _ _ (by omega) (by omega)).trans gi.2.1, (o _ _ _ (by omega) (by omega)).trans gi.2.2.1, ?_⟩
          show upd (upd t (3 + 4 * q + 3) _) 163 _ (3 + 4 * i + 3) = nI (updN (bL σ.1) q _ i)
          unfold updN
          by_cases e : i = q
          · subst e
            rw [if_pos rfl, pk_un (by omega), pk_us]
          · rw [if_neg e, o _ _ _ (by omega) (by omega)]
            exact gi.2.2.2
        exact r_thereOfAll mb2 w' ⟨rfl, mAct hm w' g2 g3 (fun i hi => by rw [pk_un (by omega), pk_un (by omega)]) mb2⟩
  · have c' : ∀ j, j < lvs σ.1 → p1 ≠ nI j := fun j hj e => c ⟨j, hj, e⟩
    exact ⟨-1, σ, x_hasLeaf w b3 b4 (fun _ => f0 ⟨rfl, hx⟩) (fun j hj e => absurd e (c' j hj)), r_isLeaf mb w (fun _ => f0 ⟨rfl, hm⟩) (fun j hj e => absurd e (c' j hj))⟩
