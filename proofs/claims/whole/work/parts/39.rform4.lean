set_option maxHeartbeats 400000
theorem op_readFormula (σ : St) (x : XS) (y : MS) (hx : XOK σ x) (hm : MOK σ y) : ∃ (r : Int32) (σ2 : St), wx_readFormula x (fun r2 x2 => r2 = r ∧ XOK σ2 x2) ∧ wm_readFormula y (fun r2 y2 => r2 = r ∧ MOK σ2 y2) := by
  have T := hx.text hm
  unfold wx_readFormula wm_readFormula wp_X8_readFormula wp_X9_readFormula wp_X6_readAsFormula
  obtain ⟨x0, al, sg, r1, r2, r3, r4, c1, c2, d1, d2, d3, d4, v, t1, t2, t3, t4, at1, ta, w1, wc, fo⟩ := x
  obtain ⟨s, tx, to, fm, st, ik, ty, a1, a2, a3, a4, a5, a6, a7⟩ := y
  dsimp only at T ⊢
  obtain ⟨⟨b1, b2, b3, b4, b5, b6⟩, w, hv, x4, x5, x6, x7, x8, x9, x10, x11, x12, x13, x14, x15⟩ := id hx
  obtain ⟨mb, hmw, hh, hst, hk, hmi, hmi2, hms, hmt, hmr⟩ := id hm
  have b1 : al = nI (bal σ.1) := b1
  have hst : st = nI σ.2.1 := hst
  have hmt : ty = nI σ.2.2.2.2.2.1 := hmt
  subst b1 hst hmt
  have A : ALF (bal σ.1) 1 s σ.1 := ⟨mb, w, Or.inr ⟨rfl, rfl⟩⟩
  have R := text_ex T A
  have hn := w.2.2.1
  have hn60 := T.n60
  unfold TxtEx at R
  have XO : ∀ v1 v2 v3 p, AnyR 20 v1 → AnyR 20 v2 → AnyR 20 v3 → XOK σ (x0, nI (bal σ.1), sg, r1, r2, r3, r4, c1, c2, d1, d2, d3, d4, v, t1, v1, v2, v3, p, ta, w1, wc, fo) := fun v1 v2 v3 p k1 k2 k3 => ⟨⟨rfl, b2, b3, b4, b5, b6⟩, w, hv, x4, x5, x6, x7, x8, x9, k1, k2, k3, x13, x14, x15⟩
  have MO : ∀ q2 p ri tm lt it, MOK σ (s, tx, q2, fm, nI σ.2.1, ik, nI σ.2.2.2.2.2.1, p, ri, tm, lt, it, a6, a7) := fun q2 p ri tm lt it => hm
  rcases R with ⟨c, F1, F2, F3, k1, k2, hE, rX, rM⟩ | ⟨e, he, rX, rM⟩
  · have hqb : qnB (bal σ.1) F1 F2 c ≤ 83 * c := sumF_le c (fun i hi => by
      have hEi := hE i (by omega)
      have := sumF_le (f := fun k => 1 - skp (bal σ.1) (F1 i + k)) (c := 1) (F2 i - F1 i + 1) (fun k _ => Nat.sub_le _ _)
      unfold qnE
      omega)
    by_cases cq : bn σ.1 + qnB (bal σ.1) F1 F2 c ≤ 40
    · have w' := wb_adB (a := bal σ.1) w c hE cq
      have hb := adB_bn (a := bal σ.1) (F1 := F1) (F2 := F2) (F3 := F3) (B := σ.1) c
      refine ⟨nI (bn (adB (bal σ.1) F1 F2 F3 c σ.1)), actS σ (adB (bal σ.1) F1 F2 F3 c σ.1), rX _ _ _ _ _ x10 x11 x12 (fun v1 v2 v3 p g1 g2 g3 => ⟨fun _ => x_quires b3 ⟨c + 1, xl_qtext w.1 k2 hE g1 g2 g3 ?_ c 0 (by omega)⟩, fun z => absurd rfl z⟩), rM _ _ _ _ _ _ _ (fun q2 p tm2 lt2 hT => ⟨fun _ => ⟨c + 1, rl_19 mb w k2 hE hT ⟨fun _ => r_records mb w hh hk (fun u g1 g2 g3 => ⟨c + 1, rl_110 (u0 := u) w k2 hE hT cq (fun u2 q3 q4 => ⟨rfl, mAct hm w' g2 g3 q4 q3⟩) c 0 u (by omega) g1 (fun _ _ => rfl)⟩), fun z => absurd cq z⟩ c 0 (by omega)⟩, fun z => absurd (show (-1 : Int32) < 0 by decide) z⟩)⟩
      rw [nI_add]
      refine pk_le (bn σ.1 + qnB (bal σ.1) F1 F2 c) 40 (fun _ => x_record w hv ⟨rfl, b2, b3, b4, b5, b6⟩ (fun v2' hv2 => ⟨c + 1, xl_rform (B := σ.1) w.1 k2 hE g1 g2 g3 cq (fun u1 u2 u3 u4 q => ⟨rfl, xAct (XO v1 v2 v3 p ⟨_, _, g1⟩ ⟨_, _, g2⟩ ⟨_, _, g3⟩) w' ⟨?_, ?_, q.1, q.2.1, q.2.2.1, q.2.2.2⟩ hv2⟩) c 0 r1 r2 r3 r4 (by omega) ⟨b3, b4, b5, b6⟩⟩)) (fun z => absurd cq (by omega))
      · show nI (bal σ.1) = nI (bal (adB (bal σ.1) F1 F2 F3 c σ.1))
        rw [hb.2.1]
      · show sg = nI (bsg (adB (bal σ.1) F1 F2 F3 c σ.1))
        rw [hb.2.2]
        exact b2
    · refine ⟨-3, σ, rX _ _ _ _ _ x10 x11 x12 (fun v1 v2 v3 p g1 g2 g3 => ⟨fun _ => x_quires b3 ⟨c + 1, xl_qtext w.1 k2 hE g1 g2 g3 ?_ c 0 (by omega)⟩, fun z => absurd rfl z⟩), rM _ _ _ _ _ _ _ (fun q2 p tm2 lt2 hT => ⟨fun _ => ⟨c + 1, rl_19 mb w k2 hE hT ⟨fun z => absurd z cq, fun _ => ⟨rfl, MO _ _ _ _ _ _⟩⟩ c 0 (by omega)⟩, fun z => absurd (show (-1 : Int32) < 0 by decide) z⟩)⟩
      rw [nI_add]
      exact pk_le (bn σ.1 + qnB (bal σ.1) F1 F2 c) 40 (fun z => absurd z cq) (fun _ => ⟨rfl, XO v1 v2 v3 p ⟨_, _, g1⟩ ⟨_, _, g2⟩ ⟨_, _, g3⟩⟩)
  · exact ⟨(-100) - nI e, σ, rX _ _ _ _ _ x10 x11 x12 (fun v1 v2 v3 p k1 k2 k3 => ⟨fun z => absurd z (nI_m1 (by omega)), fun _ => ⟨rfl, XO _ _ _ _ k1 k2 k3⟩⟩), rM _ _ _ _ _ _ _ (fun t2 p ri tm2 lt2 it => ⟨fun z => absurd z (nI_pos (by omega)), fun _ => ⟨rfl, MO _ _ _ _ _ _⟩⟩)⟩
