set_option maxHeartbeats 400000
theorem rng (p : Int32) (lo hi : Nat) (h1 : lo < 2 ^ 30) (h2 : hi < 2 ^ 30) : (p < nI lo ∨ nI hi < p) ∨ ∃ n, lo ≤ n ∧ n ≤ hi ∧ p = nI n := by
  rcases pk_ix p (n := hi + 1) (by omega) with c | c | ⟨j, hj, rfl⟩
  · left; left
    rw [Int32.lt_iff_toInt_lt] at c ⊢
    rw [nI_toInt (by omega)]
    have : (0 : Int32).toInt = 0 := rfl
    omega
  · left; right
    rw [Int32.le_iff_toInt_le, nI_toInt (by omega)] at c
    rw [Int32.lt_iff_toInt_lt, nI_toInt (by omega)]
    omega
  · by_cases q : lo ≤ j
    · right; exact ⟨j, q, by omega, rfl⟩
    · left; left; exact (nI_ltI (by omega) (by omega)).mpr (by omega)
theorem out2 {p : Int32} {hi : Nat} {A B : Prop} (c : p < nI 0 ∨ nI hi < p) (a : A) : (p < 0 → A) ∧ (¬ p < 0 → ((p ≤ nI hi → B) ∧ (¬ p ≤ nI hi → A))) :=
  ⟨fun _ => a, fun z => ⟨fun z2 => absurd c (fun q => q.elim (fun q => z (by rw [nI_0] at q; exact q)) (fun q => absurd z2 (Int32.not_le.mpr q))), fun _ => a⟩⟩
theorem r_inO {p lo hi : Int32} {Post : Int32 → Prop} (c : p < lo ∨ hi < p) (P : Post (nI 0)) : wp_X9_in p lo hi Post := ⟨fun _ => P, fun z => ⟨fun _ => P, fun z2 => absurd c (fun q => q.elim z z2)⟩⟩
theorem r_inI {n lo hi : Nat} {Post : Int32 → Prop} (h1 : lo ≤ n) (h2 : n ≤ hi) (hb : hi < 2 ^ 30) (P : Post (nI 1)) : wp_X9_in (nI n) (nI lo) (nI hi) Post :=
  pk_lt n lo (fun c => absurd c (by omega)) (fun _ => pk_lt hi n (fun c => absurd c (by omega)) (fun _ => P) rfl rfl (by omega) (by omega)) rfl rfl (by omega) (by omega)
theorem f0 {A B : Prop} (a : A) : (nI 0 = 0 → A) ∧ (¬ nI 0 = 0 → B) := ⟨fun _ => a, fun z => absurd nI_0 z⟩
theorem f1 {A B : Prop} (b : B) : (nI 1 = 0 → A) ∧ (¬ nI 1 = 0 → B) := ⟨fun z => absurd z (by decide), fun _ => b⟩
theorem mb_sg {t : Nat → Int32} {B : BkA} {n : Nat} (h : MB t B) : MB (upd t 1 (nI n)) (bal B, n, B.2.2) := by
  obtain ⟨h1, h2, h3, h4, h5, h6, h7⟩ := h
  refine ⟨by rw [pk_un (by decide)]; exact h1, pk_us, by rw [pk_un (by decide)]; exact h3, fun j hj => ?_, by rw [pk_un (by decide)]; exact h5, fun j hj => ?_, fun i hi => ?_⟩
  · rw [pk_un (by omega), pk_un (by omega), pk_un (by omega), pk_un (by omega)]
    exact h4 j hj
  · rw [pk_un (by omega)]; exact h6 j hj
  · obtain ⟨j, hj, e⟩ := h7 i hi
    exact ⟨j, hj, by rw [pk_un (by omega)]; exact e⟩
theorem mb_al {t : Nat → Int32} {B : BkA} {n : Nat} (h : MB t B) : MB (upd t 0 (nI n)) (n, B.2) := by
  obtain ⟨h1, h2, h3, h4, h5, h6, h7⟩ := h
  refine ⟨pk_us, by rw [pk_un (by decide)]; exact h2, by rw [pk_un (by decide)]; exact h3, fun j hj => ?_, by rw [pk_un (by decide)]; exact h5, fun j hj => ?_, fun i hi => ?_⟩
  · rw [pk_un (by omega), pk_un (by omega), pk_un (by omega), pk_un (by omega)]
    exact h4 j hj
  · rw [pk_un (by omega)]; exact h6 j hj
  · obtain ⟨j, hj, e⟩ := h7 i hi
    exact ⟨j, hj, by rw [pk_un (by omega)]; exact e⟩
theorem op_setSigning (σ : St) (x : XS) (y : MS) (hx : XOK σ x) (hm : MOK σ y) (p1 : Int32) : ∃ (r : Int32) (σ2 : St), wx_setSigning x p1 (fun r2 x2 => r2 = r ∧ XOK σ2 x2) ∧ wm_setSigning y p1 (fun r2 y2 => r2 = r ∧ MOK σ2 y2) := by
  unfold wx_setSigning wm_setSigning wp_X8_setSigning wp_X9_setSigning
  obtain ⟨x0, al, sg, r1, r2, r3, r4, c1, c2, d1, d2, d3, d4, v, t1, t2, t3, t4, at1, ta, w1, wc, fo⟩ := x
  obtain ⟨s, tx, to, fm, st, ik, ty, a1, a2, a3, a4, a5, a6, a7⟩ := y
  obtain ⟨⟨b1, b2, b3, b4, b5, b6⟩, w, hv, _⟩ := id hx
  obtain ⟨mb, _, hh, hst, hk, _⟩ := id hm
  have b2 : sg = nI (bsg σ.1) := b2
  have hst : st = nI σ.2.1 := hst
  subst b2 hst
  have w2 := w.2.1
  rcases rng p1 0 2 (by decide) (by decide) with c | ⟨n, _, hn, rfl⟩
  · exact ⟨-2, σ, out2 c ⟨rfl, hx⟩, r_inO c (f0 ⟨rfl, hm⟩)⟩
  · by_cases e : n = bsg σ.1
    · refine ⟨-5, σ, b_neg (pk_le n 2 (fun _ => ⟨fun _ => ⟨rfl, hx⟩, fun z => absurd (by rw [e]) z⟩) (fun z => absurd z (by omega))), r_inI (Nat.zero_le n) hn (by decide) (f1 ?_)⟩
      exact rd (k := 1) (Q := fun v => (v = nI n → _) ∧ (¬ v = nI n → _)) mb.2.1 (by decide) ⟨fun _ => ⟨rfl, hm⟩, fun z => absurd (by rw [e]) z⟩
    · have w' : WB (bal σ.1, n, σ.1.2.2) := ⟨w.1, hn, w.2.2⟩
      refine ⟨nI (sgd (bal σ.1, n, σ.1.2.2)), actS σ (bal σ.1, n, σ.1.2.2), b_neg (pk_le n 2 (fun _ => ⟨fun z => absurd ((nI_eq (by omega) (by omega)).mp z) e, fun _ => ?_⟩) (fun z => absurd z (by omega))), r_inI (Nat.zero_le n) hn (by decide) (f1 ?_)⟩
      · exact x_record w hv ⟨b1, rfl, b3, b4, b5, b6⟩ (fun v2 hv2 => x_signedLeaves (B := (bal σ.1, n, σ.1.2.2)) w' b3 b4 ⟨rfl, xAct hx w' ⟨b1, rfl, b3, b4, b5, b6⟩ hv2⟩)
      · refine rd (k := 1) (Q := fun v => (v = nI n → _) ∧ (¬ v = nI n → _)) mb.2.1 (by decide) ⟨fun z => absurd ((nI_eq (by omega) (by omega)).mp z).symm e, fun _ => ?_⟩
        refine r_records mb w hh hk (fun t g1 g2 g3 => ⟨vp_in_nI (by decide) (by decide), ?_⟩)
        rw [nI_clamp (by decide)]
        exact r_signedOfAll (mb_sg g1) w' ⟨rfl, mAct hm w' g2 g3 (fun i hi => pk_un (by omega)) (mb_sg g1)⟩
theorem op_undo (σ : St) (x : XS) (y : MS) (hx : XOK σ x) (hm : MOK σ y) : ∃ (r : Int32) (σ2 : St), wx_undo x (fun r2 x2 => r2 = r ∧ XOK σ2 x2) ∧ wm_undo y (fun r2 y2 => r2 = r ∧ MOK σ2 y2) := by
  unfold wx_undo wm_undo wp_X8_undo wp_X9_undo
  obtain ⟨x0, al, sg, r1, r2, r3, r4, c1, c2, d1, d2, d3, d4, v, t1, t2, t3, t4, at1, ta, w1, wc, fo⟩ := x
  obtain ⟨s, tx, to, fm, st, ik, ty, a1, a2, a3, a4, a5, a6, a7⟩ := y
  obtain ⟨hb, w, hv, hxr⟩ := id hx
  obtain ⟨mb, _, hh, hst, hk, hr1, hr2, hr3, hr4⟩ := id hm
  have hst : st = nI σ.2.1 := hst
  subst hst
  have hv1 : v.2 = nI σ.2.1 := hv.1
  obtain ⟨k, hk0⟩ : ∃ k, k = σ.2.1 := ⟨_, rfl⟩
  have hk' : k ≤ 4 := hk0 ▸ hk
  rcases Nat.eq_zero_or_pos k with z | z
  · refine ⟨-5, σ, ⟨fun _ => ⟨rfl, hx⟩, fun q => absurd ?_ q⟩, ⟨fun _ => ⟨rfl, hm⟩, fun q => absurd ?_ q⟩⟩
    · show v.2 = 0
      rw [hv1, ← hk0, z, nI_0]
    · rw [← hk0, z, nI_0]
  · obtain ⟨k, rfl⟩ : ∃ k2, k = k2 + 1 := ⟨k - 1, by omega⟩
    have hne : ¬ nI σ.2.1 = 0 := by
      rw [← hk0]
      exact fun q => absurd ((nI_z (by omega)).mp q) (by omega)
    rw [← hk0] at hv hh
    refine ⟨nI k, (σ.2.2.1 k, k, σ.2.2.1, σ.2.2.2), ⟨fun q => absurd (hv1.symm.trans q) hne, fun _ => x_takeBack hv hb (fun v2 a b c d e f g1 g2 => ⟨g1.1, ⟨g2, (hv.2.2.1 k (by omega)).2, g1, hxr⟩⟩)⟩, ⟨fun q => absurd q hne, fun _ => ?_⟩⟩
    rw [← hk0]
    refine r_copies (by omega) (by decide) (by omega) (fun t ht => ?_)
    have e0 : ∀ i, 176 ≤ i → t i = s i := fun i hi => by rw [ht, cpS, if_neg (by omega)]
    rw [pk_sub (by omega), Nat.add_sub_cancel]
    refine ⟨rfl, ⟨(hh k (by omega)).1.congr (hh k (by omega)).2 (fun x hx2 => ?_), (hh k (by omega)).2, fun i hi => ?_, rfl, by show k ≤ 4; omega, hr1, hr2, fun z => ⟨(hr3 z).1.congr (hr3 z).2 (fun x _ => e0 _ (by omega)), (hr3 z).2⟩, hr4⟩⟩
    · have := cpS_in (s := s) (a := k + 1) (b := 0) (x := x) hx2
      show t x = s (176 * (k + 1) + x)
      rw [ht]
      rw [Nat.mul_zero, Nat.zero_add] at this
      exact this
    · exact HM.frame hh e0 i (by have hi : i < k := hi; omega)
theorem x_become {a1 a2 o1 o2 : Int32} {a3 a4 a5 a6 o3 o4 o5 o6 : RowT} {B0 B : BkA} {Post : Int32 → Int32 → RowT → RowT → RowT → RowT → Prop} (w : WB B) (hz : XB (a1, a2, a3, a4, a5, a6) B0) (ho : XB (o1, o2, o3, o4, o5, o6) B) (P : ∀ a b c d e f, XB (a, b, c, d, e, f) B → Post a b c d e f) : wp_X1_become a1 a2 a3 a4 a5 a6 o1 o2 o3 o4 o5 o6 Post :=
  x_bookBecome (z := (a1, a2, a3, a4, a5, a6)) (o := (o1, o2, o3, o4, o5, o6)) (Post := fun b => Post b.1 b.2.1 b.2.2.1 b.2.2.2.1 b.2.2.2.2.1 b.2.2.2.2.2) w hz ho (fun b hb => P _ _ _ _ _ _ hb)
theorem op_keep (σ : St) (x : XS) (y : MS) (hx : XOK σ x) (hm : MOK σ y) : ∃ (r : Int32) (σ2 : St), wx_keep x (fun r2 x2 => r2 = r ∧ XOK σ2 x2) ∧ wm_keep y (fun r2 y2 => r2 = r ∧ MOK σ2 y2) := by
  unfold wx_keep wm_keep wp_X8_keep wp_X9_keep
  obtain ⟨x0, al, sg, r1, r2, r3, r4, c1, c2, d1, d2, d3, d4, v, t1, t2, t3, t4, at1, ta, w1, wc, fo⟩ := x
  obtain ⟨s, tx, to, fm, st, ik, ty, a1, a2, a3, a4, a5, a6, a7⟩ := y
  obtain ⟨hb, w, hv, _, _, ⟨B0, hs0⟩, _, hxr⟩ := id hx
  obtain ⟨mb, _, hh, hst, hk, hr1, hr2, hr3, hr4⟩ := id hm
  have hk : σ.2.1 ≤ 4 := hk
  refine ⟨nI (bn σ.1), (σ.1, σ.2.1, σ.2.2.1, 1, σ.1, σ.2.2.2.2.2), x_become w hs0 hb (fun a b c d e f g => x_quires hb.2.2.1 ⟨rfl, ⟨hb, w, hv, rfl, Nat.le_refl 1, ⟨_, g⟩, fun _ => ⟨g, w⟩, hxr⟩⟩), ?_⟩
  refine r_copies (by decide) (by decide) (by decide) (fun t ht => ?_)
  have e0 : ∀ x, x < 176 → t x = s x := fun x hx2 => by rw [ht, cpS, if_neg (by omega)]
  refine rd (k := 2) (Q := fun v => v = nI (bn σ.1) ∧ _) (by rw [e0 2 (by decide)]; exact mb.2.2.1) (by decide) ⟨rfl, ⟨mb.congr w e0, w, fun i hi => ?_, hst, hk, rfl, Nat.le_refl 1, fun _ => ⟨mb.congr w (fun x hx2 => ?_), w⟩, hr4⟩⟩
  · have hi : i < σ.2.1 := hi
    have := hh i hi
    refine ⟨this.1.congr this.2 (fun x hx2 => ?_), this.2⟩
    show t (176 * (i + 1) + x) = s (176 * (i + 1) + x)
    rw [ht, cpS_out (by omega) hx2]
  · show t (176 * 5 + x) = s x
    rw [ht, cpS_in hx2, Nat.mul_zero, Nat.zero_add]
theorem op_restore (σ : St) (x : XS) (y : MS) (hx : XOK σ x) (hm : MOK σ y) : ∃ (r : Int32) (σ2 : St), wx_restore x (fun r2 x2 => r2 = r ∧ XOK σ2 x2) ∧ wm_restore y (fun r2 y2 => r2 = r ∧ MOK σ2 y2) := by
  unfold wx_restore wm_restore wp_X8_restore wp_X9_restore
  obtain ⟨x0, al, sg, r1, r2, r3, r4, c1, c2, d1, d2, d3, d4, v, t1, t2, t3, t4, at1, ta, w1, wc, fo⟩ := x
  obtain ⟨s, tx, to, fm, st, ik, ty, a1, a2, a3, a4, a5, a6, a7⟩ := y
  obtain ⟨hb, w, hv, hx0, hkp, _, hsn, hxr⟩ := id hx
  obtain ⟨mb, _, hh, hst, hk, hr1, hr2, hr3, hr4⟩ := id hm
  have hx0 : x0 = nI σ.2.2.2.1 := hx0
  have hr1 : ik = nI σ.2.2.2.1 := hr1
  have hst : st = nI σ.2.1 := hst
  subst hst
  by_cases c : σ.2.2.2.1 = 1
  · obtain ⟨gs, ws⟩ := hsn c
    obtain ⟨ms, _⟩ := hr3 c
    rw [c] at hx0 hr1
    refine ⟨nI (bn σ.2.2.2.2.1), actS σ σ.2.2.2.2.1, ⟨fun z => absurd (hx0.symm.trans z) (by decide), fun _ => x_record w hv hb (fun v2 hv2 => x_become ws hb gs (fun a b c d e f g => x_quires g.2.2.1 ⟨rfl, xAct hx ws g hv2⟩))⟩, ⟨fun z => absurd (hr1.symm.trans z) (by decide), fun _ => ?_⟩⟩
    refine r_records mb w hh hk (fun t g1 g2 g3 => r_copies (by decide) (by decide) (by decide) (fun u hu => ?_))
    have e0 : ∀ x, x < 176 → u x = s (880 + x) := fun x hx2 => by
      have := cpS_in (s := t) (a := 5) (b := 0) (x := x) hx2
      rw [Nat.mul_zero, Nat.zero_add] at this
      rw [hu, this]
      exact g3 x hx2
    have mu : MB u σ.2.2.2.2.1 := ms.congr ws e0
    exact rd (k := 2) (Q := fun v => v = nI (bn σ.2.2.2.2.1) ∧ _) mu.2.2.1 (by decide) ⟨rfl, mAct hm ws g2 g3 (fun i hi => by rw [hu, cpS, if_neg (by omega)]) mu⟩
  · have hkp : σ.2.2.2.1 ≤ 1 := hkp
    have c0 : σ.2.2.2.1 = 0 := by omega
    rw [c0, nI_0] at hx0 hr1
    exact ⟨-5, σ, ⟨fun _ => ⟨rfl, hx⟩, fun z => absurd hx0 z⟩, ⟨fun _ => ⟨rfl, hm⟩, fun z => absurd hr1 z⟩⟩
