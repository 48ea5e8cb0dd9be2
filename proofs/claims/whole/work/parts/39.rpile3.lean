set_option maxHeartbeats 400000
theorem op_readPile (σ : St) (x : XS) (y : MS) (hx : XOK σ x) (hm : MOK σ y) : ∃ (r : Int32) (σ2 : St), wx_readPile x (fun r2 x2 => r2 = r ∧ XOK σ2 x2) ∧ wm_readPile y (fun r2 y2 => r2 = r ∧ MOK σ2 y2) := by
  have T := hx.text hm
  unfold wx_readPile wm_readPile wp_X8_readPile wp_X9_readPile wp_X6_readAsPile
  obtain ⟨x0, al, sg, r1, r2, r3, r4, c1, c2, d1, d2, d3, d4, v, t1, t2, t3, t4, at1, ta, w1, wc, fo⟩ := x
  obtain ⟨s, tx, to, fm, st, ik, ty, a1, a2, a3, a4, a5, a6, a7⟩ := y
  dsimp only at T ⊢
  obtain ⟨⟨b1, b2, b3, b4, b5, b6⟩, w, hv, x4, x5, x6, x7, x8, x9, x10, x11, x12, x13, x14, ⟨nf, ff, x15⟩⟩ := id hx
  obtain ⟨mb, hmw, hh, hst, hk, hmi, hmi2, hms, hmt, hmr⟩ := id hm
  have x13 : ta = 0 := x13
  have x13 : ta = nI 0 := x13.trans nI_0.symm
  have hst : st = nI σ.2.1 := hst
  have hmt : ty = nI σ.2.2.2.2.2.1 := hmt
  subst x13 hst hmt
  have A : ALF 0 0 s σ.1 := ⟨mb, w, Or.inl ⟨rfl, rfl⟩⟩
  have R := text_ex T A
  have hn := w.2.2.1
  have hn60 := T.n60
  unfold TxtEx at R
  have XO : ∀ v1 v2 v3 p f, AnyR 20 v1 → AnyR 20 v2 → AnyR 20 v3 → AnyR 20 f → XOK σ (x0, al, sg, r1, r2, r3, r4, c1, c2, d1, d2, d3, d4, v, t1, v1, v2, v3, p, nI 0, w1, wc, f) := fun v1 v2 v3 p f k1 k2 k3 k4 => ⟨⟨b1, b2, b3, b4, b5, b6⟩, w, hv, x4, x5, x6, x7, x8, x9, k1, k2, k3, nI_0, x14, k4⟩
  have MO : ∀ q2 p ri tm lt it, MOK σ (s, tx, q2, fm, nI σ.2.1, ik, nI σ.2.2.2.2.2.1, p, ri, tm, lt, it, a6, a7) := fun q2 p ri tm lt it => hm
  rcases R with ⟨c, F1, F2, F3, k1, k2, hE, rX, rM⟩ | ⟨e, he, rX, rM⟩
  · obtain ⟨kf, hF⟩ := fits_ex σ.1 F1 F3 c
    obtain ⟨m, m1, m2, m3⟩ := firstN (fun j => ¬ kf j < bn σ.1) c
    have m2' : ∀ j, j < m → kf j < bn σ.1 := fun j hj => Classical.not_not.mp (m2 j hj)
    by_cases cm : m < c
    · exact ⟨-1, σ, rX _ _ _ _ _ x10 x11 x12 (fun v1 v2 v3 p g1 g2 g3 => ⟨fun _ => s_empty x15 (fun u0 hu0 => ⟨m + 1, xl_findAll w b3 b4 k2 hE hF g1 g3 m1 m2' m3 (fun z => absurd z (by omega)) (fun _ u hu => f0 ⟨rfl, XO _ _ _ _ _ ⟨_, _, g1⟩ ⟨_, _, g2⟩ ⟨_, _, g3⟩ hu⟩) m 0 u0 (by omega) (hu0 _)⟩), fun z => absurd rfl z⟩), rM _ _ _ _ _ _ _ (fun q2 p tm2 lt2 hT => ⟨fun _ => ⟨m + 1, rl_findAll mb w k2 hE hF hT m1 m2' m3 (fun z => absurd z (by omega)) (fun _ => ⟨rfl, MO _ _ _ _ _ _⟩) m 0 (by omega)⟩, fun z => absurd (show (-1 : Int32) < 0 by decide) z⟩)⟩
    · have em : m = c := by omega
      subst em
      obtain ⟨n, n1, n2, n3⟩ := firstN (fun j => BAD σ.1 F3 kf j) m
      -- both sides up to where the leaves are found
      have XA : ∀ (Post : Int32 → RowT → HistT → RowT → RowT → RowT → Int32 → RowT → Prop), (∀ v1 v2 v3 p f, RowN 20 m F1 v1 → RowN 20 m F2 v2 → RowN 20 m F3 v3 → RowN 20 m (lfV σ.1 F3 kf) f → wp_X8_allFoundThereOnce r1 r2 r3 f (fun r12 => ((r12 = 0 → Post (-4) r4 v v1 v2 v3 p f) ∧ (¬ r12 = 0 → wp_X4_length f (fun r13 => ((r13 ≤ (nI 12) → wp_X2_record v al sg r1 r2 r3 r4 (fun u14 => wp_X4_empty r4 (fun u16 => (∃ k, wl_X8_readPile_75 al sg r1 r2 r3 u14 t1 v1 v2 v3 p (nI 0) f Post k u16 (nI 0))))) ∧ (¬ r13 ≤ (nI 12) → Post (-3) r4 v v1 v2 v3 p f))))))) → wp_X6_readEntries t1 t2 t3 t4 at1 (nI 0) (nI 0) (fun r5 u6 u7 u8 u9 => ((r5 = (-1) → wp_X8_findLeavesOfText r1 r2 u6 u8 fo (fun r10 u11 => ((r10 = 0 → Post (-1) r4 v u6 u7 u8 u9 u11) ∧ (¬ r10 = 0 → wp_X8_allFoundThereOnce r1 r2 r3 u11 (fun r12 => ((r12 = 0 → Post (-4) r4 v u6 u7 u8 u9 u11) ∧ (¬ r12 = 0 → wp_X4_length u11 (fun r13 => ((r13 ≤ (nI 12) → wp_X2_record v al sg r1 r2 r3 r4 (fun u14 => wp_X4_empty r4 (fun u16 => (∃ k, wl_X8_readPile_75 al sg r1 r2 r3 u14 t1 u6 u7 u8 u9 (nI 0) u11 Post k u16 (nI 0))))) ∧ (¬ r13 ≤ (nI 12) → Post (-3) r4 v u6 u7 u8 u9 u11)))))))))) ∧ (¬ r5 = (-1) → Post ((-100) - r5) r4 v u6 u7 u8 u9 fo))) :=
        fun Post P => rX _ _ _ _ _ x10 x11 x12 (fun v1 v2 v3 p g1 g2 g3 => ⟨fun _ => s_empty x15 (fun u0 hu0 => ⟨m + 1, xl_findAll w b3 b4 k2 hE hF g1 g3 m1 m2' m3 (fun _ u hu => f1 (P v1 v2 v3 p u g1 g2 g3 hu)) (fun z => absurd z (by omega)) m 0 u0 (by omega) (hu0 _)⟩), fun z => absurd rfl z⟩)
      by_cases cn : n < m
      · exact ⟨-4, σ, XA (fun rr q4 qv q1 q2 q3 qp qf => rr = -4 ∧ XOK σ (x0, al, sg, r1, r2, r3, q4, c1, c2, d1, d2, d3, d4, qv, t1, q1, q2, q3, qp, nI 0, w1, wc, qf)) (fun v1 v2 v3 p f g1 g2 g3 hf => ⟨n + 1, xl_once w b3 b4 b5 hE hF m2' hf n1 n2 n3 (fun z => absurd z (by omega)) (fun _ => f0 ⟨rfl, XO _ _ _ _ _ ⟨_, _, g1⟩ ⟨_, _, g2⟩ ⟨_, _, g3⟩ ⟨_, _, hf⟩⟩) n 0 (by omega)⟩), rM _ _ _ _ _ _ _ (fun q2 p tm2 lt2 hT => ⟨fun _ => ⟨m + 1, rl_findAll mb w k2 hE hF hT m1 m2' m3 (fun _ => ⟨n + 1, rl_43 mb w k2 hE hF hT m2' n1 n2 n3 (fun z => absurd z (by omega)) (fun _ => ⟨rfl, MO _ _ _ _ _ _⟩) n 0 (by omega)⟩) (fun z => absurd z (by omega)) m 0 (by omega)⟩, fun z => absurd (show (-1 : Int32) < 0 by decide) z⟩)⟩
      · have en : n = m := by omega
        subst en
        have hd : ∀ i x, x < n → i < x → lfV σ.1 F3 kf i ≠ lfV σ.1 F3 kf x := fun i x hx hi q => n2 x hx (Or.inr ⟨i, hi, q⟩)
        have hlb : ∀ j, j < n → lfV σ.1 F3 kf j < sumF (bZ σ.1) (bn σ.1) ∧ lfV σ.1 F3 kf j < 1000 := fun j hj => by
          have := lf_in w hE hF hj (m2' j hj)
          exact ⟨this.2.1, by omega⟩
        by_cases c12 : n ≤ 12
        · have hp := pilP_ok (lf := lfV σ.1 F3 kf) n hd
          have w' : WB (bal σ.1, bsg σ.1, bn σ.1, bS σ.1, bZ σ.1, bL σ.1, n, pilP (lfV σ.1 F3 kf) n) := ⟨w.1, w.2.1, w.2.2.1, w.2.2.2.1, w.2.2.2.2.1, w.2.2.2.2.2.1, c12, fun i x hi hx => hp.1 i x hi hx, fun x hx => by
            obtain ⟨i, hi, e⟩ := hp.2.2 x hx
            show pilP (lfV σ.1 F3 kf) n x < _
            rw [e]
            exact (hlb i hi).1⟩
          refine ⟨nI n, actS σ (bal σ.1, bsg σ.1, bn σ.1, bS σ.1, bZ σ.1, bL σ.1, n, pilP (lfV σ.1 F3 kf) n), XA (fun rr q4 qv q1 q2 q3 qp qf => rr = nI n ∧ XOK (actS σ (bal σ.1, bsg σ.1, bn σ.1, bS σ.1, bZ σ.1, bL σ.1, n, pilP (lfV σ.1 F3 kf) n)) (x0, al, sg, r1, r2, r3, q4, c1, c2, d1, d2, d3, d4, qv, t1, q1, q2, q3, qp, nI 0, w1, wc, qf)) (fun v1 v2 v3 p f g1 g2 g3 hf => ⟨n + 1, xl_once w b3 b4 b5 hE hF m2' hf n1 n2 n3 (fun _ => f1 (s_length hf (pk_le n 12 (fun _ => x_record w hv ⟨b1, b2, b3, b4, b5, b6⟩ (fun v2' hv2 => s_empty b6 (fun u0 hu0 => ⟨n + 1, xl_75 c12 hf (fun j hj => (hlb j hj).2) hd (fun r hr => ⟨rfl, xAct (XO v1 v2 v3 p f ⟨_, _, g1⟩ ⟨_, _, g2⟩ ⟨_, _, g3⟩ ⟨_, _, hf⟩) w' ⟨b1, b2, b3, b4, b5, hr⟩ hv2⟩) n 0 u0 (by omega) (hu0 _)⟩))) (fun z => absurd z (by omega))))) (fun z => absurd z (by omega)) n 0 (by omega)⟩), rM _ _ _ _ _ _ _ (fun q2 p tm2 lt2 hT => ⟨fun _ => ⟨n + 1, rl_findAll mb w k2 hE hF hT m1 m2' m3 (fun _ => ⟨n + 1, rl_43 mb w k2 hE hF hT m2' n1 n2 n3 (fun _ => ⟨fun _ => r_records mb w hh hk (fun u g1 g2 g3 => ⟨n + 1, rl_135 g1 w c12 hE hF hT m2' hd (fun u2 q3 q4 => ⟨rfl, mAct hm w' g2 g3 q4 q3⟩) n 0 u (by omega) (fun i => by rw [if_neg (by omega)])⟩), fun z => absurd c12 z⟩) (fun z => absurd z (by omega)) n 0 (by omega)⟩) (fun z => absurd z (by omega)) n 0 (by omega)⟩, fun z => absurd (show (-1 : Int32) < 0 by decide) z⟩)⟩
        · exact ⟨-3, σ, XA (fun rr q4 qv q1 q2 q3 qp qf => rr = -3 ∧ XOK σ (x0, al, sg, r1, r2, r3, q4, c1, c2, d1, d2, d3, d4, qv, t1, q1, q2, q3, qp, nI 0, w1, wc, qf)) (fun v1 v2 v3 p f g1 g2 g3 hf => ⟨n + 1, xl_once w b3 b4 b5 hE hF m2' hf n1 n2 n3 (fun _ => f1 (s_length hf (pk_le n 12 (fun z => absurd z c12) (fun _ => ⟨rfl, XO _ _ _ _ _ ⟨_, _, g1⟩ ⟨_, _, g2⟩ ⟨_, _, g3⟩ ⟨_, _, hf⟩⟩)))) (fun z => absurd z (by omega)) n 0 (by omega)⟩), rM _ _ _ _ _ _ _ (fun q2 p tm2 lt2 hT => ⟨fun _ => ⟨n + 1, rl_findAll mb w k2 hE hF hT m1 m2' m3 (fun _ => ⟨n + 1, rl_43 mb w k2 hE hF hT m2' n1 n2 n3 (fun _ => ⟨fun z => absurd z c12, fun _ => ⟨rfl, MO _ _ _ _ _ _⟩⟩) (fun z => absurd z (by omega)) n 0 (by omega)⟩) (fun z => absurd z (by omega)) n 0 (by omega)⟩, fun z => absurd (show (-1 : Int32) < 0 by decide) z⟩)⟩
  · exact ⟨(-100) - nI e, σ, rX _ _ _ _ _ x10 x11 x12 (fun v1 v2 v3 p k1 k2 k3 => ⟨fun z => absurd z (nI_m1 (by omega)), fun _ => ⟨rfl, XO _ _ _ _ _ k1 k2 k3 ⟨_, _, x15⟩⟩⟩), rM _ _ _ _ _ _ _ (fun t2 p ri tm2 lt2 it => ⟨fun z => absurd z (nI_pos (by omega)), fun _ => ⟨rfl, MO _ _ _ _ _ _⟩⟩)⟩
