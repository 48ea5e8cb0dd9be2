set_option maxHeartbeats 400000
section rf
variable {s g t : Nat → Int32} {c : Nat} {F1 F2 F3 : Nat → Nat}
theorem rl_add {st ty at1 ri tm lt it : Int32} {j : Nat} {u0 : Nat → Int32} {B0 : BkA} {K : (Nat → Int32) → Int32 → Prop} {Post : Int32 → (Nat → Int32) → (Nat → Int32) → Int32 → Int32 → Int32 → Int32 → Int32 → Int32 → Prop} (w : WB B0) (hj : j < 30)
    (t0 : t (4 * j) = nI (tmS (F1 j))) (t2 : t (4 * j + 2) = ltS (F2 j)) (t3 : t (4 * j + 3) = nI (F3 j)) (hf : F1 j ≤ F2 j) (hl : F2 j < 83) (hl2 : F1 j ≠ F2 j → F2 j < 78) (ht : tmS (F1 j) = tmS (F2 j)) (hz1 : 1 ≤ F3 j) (hz2 : F3 j ≤ 24) (hn : bn B0 + qnE (bal B0) (F1 j) (F2 j - F1 j + 1) ≤ 40)
    (P : ∀ u, MB u (adE (bal B0) (F1 j) (F3 j) (F2 j - F1 j + 1) B0) → (∀ i, 176 ≤ i → u i = u0 i) → K u (nI (j + 1))) : ∀ (d k : Nat) (u : Nat → Int32), k + d = F2 j - F1 j + 1 → MB u (adE (bal B0) (F1 j) (F3 j) k B0) → (∀ i, 176 ≤ i → u i = u0 i) → wl_X9_readFormula_130 g t st ty at1 ri tm lt it (nI j) K Post (d + 1) u (lvV (F1 j) k) := by
  intro d
  induction d with
  | zero =>
    intro k u hk hu hu2
    have e : k = F2 j - F1 j + 1 := by omega
    subst e
    unfold wl_X9_readFormula_130
    rw [pk_mul, nI_add (4 * j) 2, nI_add j 1]
    refine rd2 (N := 160) (Q := fun v => (v < lvV (F1 j) (F2 j - F1 j + 1) → _) ∧ (¬ v < lvV (F1 j) (F2 j - F1 j + 1) → _)) t2 (by omega) (by decide) ⟨fun _ => P u hu hu2, fun z => absurd (ent_end hf hl hl2 ht) z⟩
  | succ d ih =>
    intro k u hk hu hu2
    have hm := qnE_mono (bal B0) (F1 j) (show k + 1 ≤ F2 j - F1 j + 1 by omega)
    have hm0 := qnE_mono (bal B0) (F1 j) (show k ≤ k + 1 by omega)
    have e : qnE (bal B0) (F1 j) (k + 1) = qnE (bal B0) (F1 j) k + (1 - skp (bal B0) (F1 j + k)) := rfl
    have hb := adE_bn (a := bal B0) (f := F1 j) (z := F3 j) (B := B0) k
    have wk := wb_adE (a := bal B0) (f := F1 j) w hz1 hz2 k (by omega) (by omega)
    obtain ⟨s1, s2⟩ := ent_step (a := bal B0) (k := k) hf hl hl2 ht (by omega)
    -- one more quire
    have AD : skp (bal B0) (F1 j + k) = 0 → tmS (F1 j + k) = tmS (F1 j) → ltS (F1 j + k) = lvV (F1 j) k → wj_X9_readFormula_159 u g t st ty at1 ri tm lt it (nI j) (lvV (F1 j) k) K (fun x0 x1 => wl_X9_readFormula_130 g t st ty at1 ri tm lt it (nI j) K Post (d + 1) x0 x1) Post := by
      intro h0 h1 h2
      unfold wj_X9_readFormula_159
      rw [pk_mul, nI_add (4 * j) 3]
      refine ⟨vp_in_nI (by decide) (by decide), vp_in_nI (by omega) (by decide), vp_in_nI (by omega) (by decide), ?_⟩
      rw [nI_clamp (n := 2) (by decide), nI_clamp (n := 4 * j) (by omega), nI_clamp (n := 4 * j + 3) (by omega), hu.2.2.1, t0, t3, lvV_s, ← h1, ← h2]
      refine r_puts hu wk (Nat.le_refl _) (by omega) (fun u5 k1 k2 => ih (k + 1) u5 (by omega) ?_ (fun i hi => (k2 i hi).trans (hu2 i hi)))
      rw [adE, if_pos h0]
      exact k1
    unfold wl_X9_readFormula_130
    rw [pk_mul, nI_add (4 * j) 2, nI_add j 1]
    refine rd2 (N := 160) (Q := fun v => (v < lvV (F1 j) k → _) ∧ (¬ v < lvV (F1 j) k → _)) t2 (by omega) (by decide) ⟨fun z => absurd z s1, fun _ => ?_⟩
    rcases s2 with ⟨a1, a2, a3, a4⟩ | ⟨a1, a2, a3, a4, a5⟩
    · subst a2
      have e0 : skp (bal B0) (F1 j + 0) = 0 := if_neg (by omega)
      exact ⟨fun _ => AD e0 rfl (lvV_0 _).symm, fun z => absurd (by rw [a4]; decide) z⟩
    · have hsk : skp (bal B0) (F1 j + k) = bitn (bal B0) ((F1 j + k) % 26) := if_pos (by omega)
      have hbt := bitn_le (bal B0) ((F1 j + k) % 26)
      refine ⟨fun z => absurd z (by rw [a2]; exact nI_pos (by omega)), fun _ => ?_⟩
      have hbal : bal (adE (bal B0) (F1 j) (F3 j) k B0) = bal B0 := hb.2.1
      have IO : ∀ Q : Int32 → Prop, Q (nI (bitn (bal B0) ((F1 j + k) % 26))) → wp_X9_isOut u (lvV (F1 j) k) Q := by
        intro Q q
        rw [a2]
        rw [← hbal] at q
        exact r_isOut hu wk (by omega) q
      refine IO _ (b_z (fun z => AD (by omega) a5 (by rw [a4, a2])) (fun z => ?_))
      rw [lvV_s]
      refine ih (k + 1) u (by omega) ?_ hu2
      rw [adE, if_neg (by omega)]
      exact hu
theorem rl_110 {st ty at1 ri tm lt : Int32} {u0 : Nat → Int32} {B0 : BkA} {Post : Int32 → (Nat → Int32) → (Nat → Int32) → Int32 → Int32 → Int32 → Int32 → Int32 → Int32 → Prop} (w : WB B0) (hc : c ≤ 20) (hE : EOK (bal B0) 1 F1 F2 F3 c) (hT : TLD t F1 F2 F3 c) (hn : bn B0 + qnB (bal B0) F1 F2 c ≤ 40)
    (P : ∀ u, MB u (adB (bal B0) F1 F2 F3 c B0) → (∀ i, 176 ≤ i → u i = u0 i) → Post (nI (bn (adB (bal B0) F1 F2 F3 c B0))) u t st at1 ri tm lt (nI c)) : ∀ (d j : Nat) (u : Nat → Int32), j + d = c → MB u (adB (bal B0) F1 F2 F3 j B0) → (∀ i, 176 ≤ i → u i = u0 i) → wl_X9_readFormula_110 g t st ty at1 ri tm lt (nI c) Post (d + 1) u (nI j) := by
  intro d
  induction d with
  | zero =>
    intro j u hj hu hu2
    have e : j = c := by omega
    subst e
    exact pk_le j j (fun _ => rd (k := 2) (Q := fun v => Post v _ _ _ _ _ _ _ _) hu.2.2.1 (by decide) (P u hu hu2)) (fun z => absurd z (by omega))
  | succ d ih =>
    intro j u hj hu hu2
    obtain ⟨q1, q2, q3, q4, q5, q6, q7, q8, q9, q10⟩ := hE j (by omega)
    obtain ⟨t0, t1, t2, t3⟩ := hT j (by omega)
    have hb := adB_bn (a := bal B0) (F1 := F1) (F2 := F2) (F3 := F3) (B := B0) j
    have hm : qnB (bal B0) F1 F2 (j + 1) ≤ qnB (bal B0) F1 F2 c := sumF_mono (by omega)
    have e : qnB (bal B0) F1 F2 (j + 1) = qnB (bal B0) F1 F2 j + qnE (bal B0) (F1 j) (F2 j - F1 j + 1) := rfl
    have wj := wb_adB (a := bal B0) (F1 := F1) (F2 := F2) (F3 := F3) w j (fun i hi => hE i (by omega)) (by omega)
    refine pk_le c j (fun z => absurd z (by omega)) (fun _ => ?_)
    rw [pk_mul, nI_add (4 * j) 1]
    refine ⟨vp_in_nI (by omega) (by decide), ?_⟩
    rintro _ rfl
    rw [nI_clamp (by omega), t1, ← lvV_0]
    have hbal := hb.2.1
    have A := rl_add (g := g) (t := t) (st := st) (ty := ty) (at1 := at1) (ri := ri) (tm := tm) (lt := lt) (it := nI c) (F1 := F1) (F2 := F2) (F3 := F3) (j := j) (u0 := u0) (B0 := adB (bal B0) F1 F2 F3 j B0) (K := fun x0 x1 => wl_X9_readFormula_110 g t st ty at1 ri tm lt (nI c) Post (d + 1) x0 x1) (Post := Post) wj (by omega) t0 t2 t3 q3 q2 q4 q6 q9 q10 (by rw [hbal]; omega) (fun u2 k1 k2 => ih (j + 1) u2 (by omega) (by rw [hbal] at k1; exact k1) k2) (F2 j - F1 j + 1) 0 u (by omega) hu hu2
    exact ⟨_, A⟩
theorem rl_19 {st ty at1 ri tm lt : Int32} {B : BkA} {Post : Int32 → (Nat → Int32) → (Nat → Int32) → Int32 → Int32 → Int32 → Int32 → Int32 → Int32 → Prop} (h : MB s B) (w : WB B) (hc : c ≤ 20) (hE : EOK (bal B) 1 F1 F2 F3 c) (hT : TLD t F1 F2 F3 c)
    (P : (bn B + qnB (bal B) F1 F2 c ≤ 40 → wp_X9_records s st (fun u8 u9 => (∃ k, wl_X9_readFormula_110 g t u9 ty at1 ri tm lt (nI c) Post k u8 (nI 0)))) ∧ (¬ bn B + qnB (bal B) F1 F2 c ≤ 40 → Post (-3) s t st at1 ri tm lt (nI c))) : ∀ (d j : Nat), j + d = c → wl_X9_readFormula_19 s g t st ty at1 ri tm lt (nI c) Post (d + 1) (nI (qnB (bal B) F1 F2 j)) (nI j) := by
  have hn := w.2.2.1
  have hq : ∀ j, j ≤ c → qnB (bal B) F1 F2 j ≤ 83 * j := fun j hj => sumF_le j (fun i hi => by
    have hEi := hE i (by omega)
    have := sumF_le (f := fun k => 1 - skp (bal B) (F1 i + k)) (c := 1) (F2 i - F1 i + 1) (fun k _ => Nat.sub_le _ _)
    unfold qnE
    omega)
  intro d
  induction d with
  | zero =>
    intro j hj
    have e : j = c := by omega
    subst e
    have hqj := hq j (Nat.le_refl _)
    refine pk_le j j (fun _ => rd (k := 2) (Q := fun v => (nI (qnB (bal B) F1 F2 j) ≤ nI 40 - v → _) ∧ (¬ nI (qnB (bal B) F1 F2 j) ≤ nI 40 - v → _)) h.2.2.1 (by decide) ?_) (fun z => absurd z (by omega))
    rw [pk_sub (by omega)]
    exact pk_le (qnB (bal B) F1 F2 j) (40 - bn B) (fun z => P.1 (by omega)) (fun z => P.2 (by omega))
  | succ d ih =>
    intro j hj
    obtain ⟨q1, q2, q3, q4, q5, q6, q7, q8, q9, q10⟩ := hE j (by omega)
    obtain ⟨t0, t1, t2, t3⟩ := hT j (by omega)
    refine pk_le c j (fun z => absurd z (by omega)) (fun _ => ?_)
    rw [pk_mul, nI_add (4 * j) 1]
    refine ⟨vp_in_nI (by omega) (by decide), ?_⟩
    rintro _ rfl
    rw [nI_clamp (by omega), t1, ← lvV_0]
    have A := rl_cnt (g := g) (t := t) (st := st) (ty := ty) (at1 := at1) (ri := ri) (tm := tm) (lt := lt) (it := nI c) (F1 := F1) (F2 := F2) (j := j) (q0 := qnB (bal B) F1 F2 j) (K := fun x0 x1 => wl_X9_readFormula_19 s g t st ty at1 ri tm lt (nI c) Post (d + 1) x0 x1) (Post := Post) h w (by omega) t2 q3 q2 q4 q6 (ih (j + 1) (by omega)) (F2 j - F1 j + 1) 0 (by omega)
    exact ⟨_, A⟩
end rf
