set_option maxHeartbeats 400000
/-- where the reference is inside an entry that began at q, its last quire so far v -/
def inE (B : BkA) (q v : Nat) : Prop := (v = q ∨ (q < v ∧ goN B v ≠ 0 ∧ fT B v = wSg (bS B q) (cmT q (fT B q)) ∧ eN B v = eN B q + 1)) ∧ bZ B v = bZ B q
theorem goN_some {B : BkA} {q : Nat} (h : goN B q ≠ 0) : 1 ≤ q ∧ q < bn B ∧ bZ B q = bZ B (q - 1) := by
  unfold goN at h
  by_cases c : 1 ≤ q ∧ q < bn B ∧ bS B q < 78 ∧ bS B q = nextA (bal B) (bS B (q - 1) + 1) ∧ tmS (bS B q) = tmS (bS B (q - 1)) ∧ bZ B q = bZ B (q - 1)
  · exact ⟨c.1, c.2.1, c.2.2.2.2.2⟩
  · rw [if_neg c] at h
    exact absurd rfl h
theorem inE_step {B : BkA} {q v : Nat} (hq : goN B q = 0) (h : inE B q v) (hg : goN B (v + 1) ≠ 0) : inE B q (v + 1) := by
  obtain ⟨h1, h2⟩ := h
  have hz := (goN_some hg).2.2
  rw [Nat.add_sub_cancel] at hz
  refine ⟨Or.inr ?_, hz.trans h2⟩
  rcases h1 with rfl | ⟨a, b, c, d⟩
  · refine ⟨by omega, hg, ?_, ?_⟩
    · rw [fT, if_neg hg, fH, if_pos hq]
    · rw [eN, if_pos hq]
  · refine ⟨by omega, hg, ?_, ?_⟩
    · rw [fT, if_neg hg, fH, if_neg b, if_neg hg]
      exact c
    · rw [eN, if_neg b]
      exact d
theorem r_lays111 {s : Nat → Int32} {B : BkA} {q v z e : Nat} {T : TxA} {g : Nat → Int32} {K : (Nat → Int32) → Int32 → Int32 → Int32 → Prop} {Post : (Nat → Int32) → Int32 → Int32 → Prop} (hg : RM T g) (hT : T.1 < 400) (hz : z < 100) (P : ∀ g2, RM (ap T (48 + z % 10)) g2 → K g2 (nI (ap T (48 + z % 10)).1) (nI (e + 1)) (nI (v + 1))) : wj_X9_lays_111 s g (nI T.1) (nI e) (nI v) (nI z) K Post := by
  unfold wj_X9_lays_111
  rw [pk_rem (by omega) (by decide) (by decide), nI_add 48]
  refine r_writes hg hT (by omega) (fun g2 h2 => ?_)
  rintro _ rfl
  rw [nI_add e 1, nI_add v 1]
  exact P g2 h2
theorem r_lays83 {s : Nat → Int32} {B : BkA} {q v e : Nat} {T : TxA} {g : Nat → Int32} {K : (Nat → Int32) → Int32 → Int32 → Int32 → Prop} {Post : (Nat → Int32) → Int32 → Int32 → Prop} (h : MB s B) (w : WB B) (hq : q < bn B) (hg : RM T g) (hT : T.1 + 2 ≤ 400) (P : ∀ g2, RM (wNum (bZ B q) T) g2 → K g2 (nI (wNum (bZ B q) T).1) (nI (e + 1)) (nI (v + 1))) : wj_X9_lays_83 s g (nI T.1) (nI e) (nI q) (nI v) K Post := by
  have hZ := w.2.2.2.2.1 q hq
  have hn := w.2.2.1
  unfold wj_X9_lays_83
  refine r_of ⟨vp_in_nI (by omega) (by decide), ?_⟩
  rintro _ rfl
  rw [nI_clamp (by omega), (h.q hq).2.2.1]
  refine pk_le (bZ B q) 9 (fun c => ?_) (fun c => ?_)
  · refine r_lays111 (B := B) (q := q) hg (by omega) (by omega) (fun g2 h2 => ?_)
    have := P g2
    unfold wNum at this
    rw [if_pos (by omega)] at this
    exact this h2
  · rw [pk_div (by omega) (by decide) (by decide), nI_add 48]
    refine r_writes hg (by omega) (by omega) (fun g2 h2 => ?_)
    refine r_lays111 (B := B) (q := q) (T := ap T (48 + bZ B q / 10)) h2 (show T.1 + 1 < 400 by omega) (by omega) (fun g3 h3 => ?_)
    have := P g3
    unfold wNum at this
    rw [if_neg (by omega)] at this
    exact this h3
theorem r_lays52 {s : Nat → Int32} {B : BkA} {q v : Nat} {g : Nat → Int32} {K : (Nat → Int32) → Int32 → Int32 → Int32 → Prop} {Post : (Nat → Int32) → Int32 → Int32 → Prop} (h : MB s B) (w : WB B) (hq : goN B q = 0) (hv : v < bn B) (hE : inE B q v) (hl : goN B (v + 1) = 0) (hg : RM (fT B q) g)
    (P : ∀ g2, RM (fT B (v + 1)) g2 → K g2 (nI (fT B (v + 1)).1) (nI (eN B (v + 1))) (nI (v + 1))) : wj_X9_lays_52 s g (nI (fT B q).1) (nI (eN B q)) (nI q) (nI v) K Post := by
  have hn := w.2.2.1
  have hqv : q ≤ v := hE.1.elim (fun e => by omega) (fun e => by omega)
  have hf := fT_len w q (by omega)
  have hc := cmT_len q (fT B q)
  have t1 := tmS_lt (w.2.2.2.1 q (by omega))
  have t2 := tmS_lt (w.2.2.2.1 v hv)
  have lw := wSg_len (bS B q) (cmT q (fT B q))
  have F : ∀ g1, RM (cmT q (fT B q)) g1 → wj_X9_lays_62 s g1 (nI (cmT q (fT B q)).1) (nI (eN B q)) (nI q) (nI v) K Post := by
    intro g1 h1
    refine r_wsign h w (by omega) (by omega) h1 (fun g2 h2 => pk_le v q (fun c => ?_) (fun c => ?_))
    · have e : v = q := by omega
      subst e
      refine r_lays83 h w hv h2 (by omega) (fun g3 h3 => ?_)
      have := P g3
      rw [fT, if_pos hl, fH, if_pos hq, eN, if_pos hq] at this
      exact this h3
    · obtain ⟨_, hgv, hT, he⟩ := hE.1.resolve_left (by omega)
      refine r_writes h2 (by omega) (by decide) (fun g3 h3 => ?_)
      refine r_wsign (T := ap (wSg (bS B q) (cmT q (fT B q))) 45) h w hv (show (wSg (bS B q) (cmT q (fT B q))).1 + 1 + 6 ≤ 400 by omega) h3 (fun g4 h4 => ?_)
      have l4 := wSg_len (bS B v) (ap (wSg (bS B q) (cmT q (fT B q))) 45)
      have l5 : (ap (wSg (bS B q) (cmT q (fT B q))) 45).1 = (wSg (bS B q) (cmT q (fT B q))).1 + 1 := rfl
      refine r_lays83 h w (by omega) h4 (by omega) (fun g5 h5 => ?_)
      have := P g5
      rw [fT, if_pos hl, fH, if_neg hgv, if_pos hl, eN, if_neg hgv, hT, he, hE.2] at this
      exact this h5
  unfold wj_X9_lays_52
  rcases Nat.eq_zero_or_pos q with z | z
  · subst z
    exact ⟨fun _ => F g hg, fun z => absurd (show nI 0 ≤ 0 by decide) z⟩
  · have hcm : cmT q (fT B q) = ap (fT B q) 44 := if_neg (by omega)
    rw [hcm] at F
    exact ⟨fun z2 => absurd z2 (nI_nle z (by omega)), fun _ => r_writes hg (by omega) (by decide) (fun g2 h2 => F g2 h2)⟩
theorem rl_lays24 {s : Nat → Int32} {B : BkA} {q : Nat} {g : Nat → Int32} {K : (Nat → Int32) → Int32 → Int32 → Int32 → Prop} {Post : (Nat → Int32) → Int32 → Int32 → Prop} (h : MB s B) (w : WB B) (hq : goN B q = 0) (hg : RM (fT B q) g)
    (P : ∀ v g2, q ≤ v → v < bn B → goN B (v + 1) = 0 → RM (fT B (v + 1)) g2 → K g2 (nI (fT B (v + 1)).1) (nI (eN B (v + 1))) (nI (v + 1))) : ∀ (d v : Nat), v + 1 + d = bn B → inE B q v → wl_X9_lays_24 s g (nI (fT B q).1) (nI (eN B q)) (nI q) K Post (d + 1) (nI v) := by
  have hn := w.2.2.1
  intro d
  induction d with
  | zero =>
    intro v hv hE
    have hqv : q ≤ v := hE.1.elim (fun e => by omega) (fun e => by omega)
    refine rd (k := 2) (Q := fun x => (x ≤ nI v + nI 1 → _) ∧ (¬ x ≤ nI v + nI 1 → _)) h.2.2.1 (by decide) ?_
    rw [nI_add v 1]
    exact pk_le (bn B) (v + 1) (fun _ => r_lays52 h w hq (by omega) hE (goN_n B (by omega)) hg (fun g2 h2 => P v g2 hqv (by omega) (goN_n B (by omega)) h2)) (fun c => absurd c (by omega))
  | succ d ih =>
    intro v hv hE
    have hqv : q ≤ v := hE.1.elim (fun e => by omega) (fun e => by omega)
    have hgl := goN_le B (v + 1)
    refine rd (k := 2) (Q := fun x => (x ≤ nI v + nI 1 → _) ∧ (¬ x ≤ nI v + nI 1 → _)) h.2.2.1 (by decide) ?_
    rw [nI_add v 1]
    exact pk_le (bn B) (v + 1) (fun c => absurd c (by omega)) (fun _ => r_goesOn h w (by omega) (by omega) (b_z (fun e => r_lays52 h w hq (by omega) hE e hg (fun g2 h2 => P v g2 hqv (by omega) e h2)) (fun e => ih (v + 1) (by omega) (inE_step hq hE e))))
theorem rl_lays12 {s : Nat → Int32} {B : BkA} {Post : (Nat → Int32) → Int32 → Int32 → Prop} (h : MB s B) (w : WB B) (P : ∀ g, RM (fT B (bn B)) g → Post g (nI (fT B (bn B)).1) (nI (eN B (bn B)))) : ∀ (d q : Nat) (g : Nat → Int32), bn B ≤ q + d → q ≤ bn B → goN B q = 0 → RM (fT B q) g → wl_X9_lays_12 s Post (d + 1) g (nI (fT B q).1) (nI (eN B q)) (nI q) := by
  have hn := w.2.2.1
  intro d
  induction d with
  | zero =>
    intro q g hq hq2 hgo hg
    have e : q = bn B := by omega
    subst e
    exact rd (k := 2) (Q := fun x => (x ≤ nI (bn B) → _) ∧ (¬ x ≤ nI (bn B) → _)) h.2.2.1 (by decide) (pk_le (bn B) (bn B) (fun _ => P g hg) (fun c => absurd c (by omega)))
  | succ d ih =>
    intro q g hq hq2 hgo hg
    refine rd (k := 2) (Q := fun x => (x ≤ nI q → _) ∧ (¬ x ≤ nI q → _)) h.2.2.1 (by decide) (pk_le (bn B) q (fun c => ?_) (fun c => ⟨bn B - (q + 1) + 1, rl_lays24 h w hgo hg (fun v g2 h1 h2 h3 h4 => ih (v + 1) g2 (by omega) (by omega) h3 h4) (bn B - (q + 1)) q (by omega) ⟨Or.inl rfl, rfl⟩⟩))
    have e : q = bn B := by omega
    subst e
    exact P g hg
theorem r_lays {s g : Nat → Int32} {B : BkA} {a b : Int32} {Post : (Nat → Int32) → Int32 → Int32 → Prop} (h : MB s B) (w : WB B) (P : ∀ g, RM (fT B (bn B)) g → Post g (nI (fT B (bn B)).1) (nI (eN B (bn B)))) : wp_X9_lays s g a b Post :=
  ⟨bn B + 1, rl_lays12 h w P (bn B) 0 g (by omega) (by omega) (goN_0 B) (fun j hj => absurd hj (Nat.not_lt_zero _))⟩
theorem x_write2 {B : BkA} {al : Int32} {r1 r2 r : RowT} {n : Nat} {f : Nat → Nat} {ent : Int32} {Post : RowT → Int32 → Prop} (e : al = nI (bal B)) (w : WB B) (h1 : RowN 40 (bn B) (bS B) r1) (h2 : RowN 40 (bn B) (bZ B) r2) (h : RowN 320 n f r) (P : ∀ u, RX (fT B (bn B)) u → Post u (nI (eN B (bn B)))) : wp_X7_write r ent al r1 r2 Post := by
  subst e
  exact x_write w h1 h2 h P
theorem op_formula (σ : St) (x : XS) (y : MS) (hx : XOK σ x) (hm : MOK σ y) (p1 : Int32) : ∃ (r : Int32) (σ2 : St), wx_formula x p1 (fun r2 x2 => r2 = r ∧ XOK σ2 x2) ∧ wm_formula y p1 (fun r2 y2 => r2 = r ∧ MOK σ2 y2) := by
  unfold wx_formula wm_formula wp_X8_formula wp_X9_formula
  dsimp only
  obtain ⟨⟨b1, b2, b3, b4, b5, b6⟩, w, hv, x4, x5, x6, x7, x8, x9, x10, x11, x12, x13, ⟨nw, fw, hw⟩, x15⟩ := id hx
  obtain ⟨mb, hmr⟩ := id hm
  have b1 : x.2.1 = nI (bal σ.1) := b1
  have hn := w.2.2.1
  have hf := fT_len w (bn σ.1) (Nat.le_refl _)
  have XO : ∀ u e, RX (fT σ.1 (bn σ.1)) u → XOK σ (x.1, x.2.1, x.2.2.1, x.2.2.2.1, x.2.2.2.2.1, x.2.2.2.2.2.1, x.2.2.2.2.2.2.1, x.2.2.2.2.2.2.2.1, x.2.2.2.2.2.2.2.2.1, x.2.2.2.2.2.2.2.2.2.1, x.2.2.2.2.2.2.2.2.2.2.1, x.2.2.2.2.2.2.2.2.2.2.2.1, x.2.2.2.2.2.2.2.2.2.2.2.2.1, x.2.2.2.2.2.2.2.2.2.2.2.2.2.1, x.2.2.2.2.2.2.2.2.2.2.2.2.2.2.1, x.2.2.2.2.2.2.2.2.2.2.2.2.2.2.2.1, x.2.2.2.2.2.2.2.2.2.2.2.2.2.2.2.2.1, x.2.2.2.2.2.2.2.2.2.2.2.2.2.2.2.2.2.1, x.2.2.2.2.2.2.2.2.2.2.2.2.2.2.2.2.2.2.1, x.2.2.2.2.2.2.2.2.2.2.2.2.2.2.2.2.2.2.2.1, u, e, x.2.2.2.2.2.2.2.2.2.2.2.2.2.2.2.2.2.2.2.2.2.2) := fun u e hu => ⟨⟨b1, b2, b3, b4, b5, b6⟩, w, hv, x4, x5, x6, x7, x8, x9, x10, x11, x12, x13, ⟨_, _, hu⟩, x15⟩
  by_cases c : p1 < 0
  · exact ⟨-2, σ, ⟨fun z => absurd c (Int32.not_lt.mpr z), fun _ => ⟨rfl, hx⟩⟩, ⟨fun z => absurd c (Int32.not_lt.mpr z), fun _ => ⟨rfl, hm⟩⟩⟩
  · obtain ⟨p, hp, rfl⟩ := nI_of c
    have c' : 0 ≤ nI p := nI_pos' hp
    by_cases cl : (fT σ.1 (bn σ.1)).1 ≤ p
    · refine ⟨-5, σ, ⟨fun _ => ?_, fun z => absurd c' z⟩, ⟨fun _ => r_lays mb w (fun g hg => pk_le (fT σ.1 (bn σ.1)).1 p (fun _ => ⟨rfl, mb, hmr⟩) (fun z => absurd cl (by omega))), fun z => absurd c' z⟩⟩
      exact x_write2 b1 w b3 b4 hw (fun u hu => s_length hu (pk_le (fT σ.1 (bn σ.1)).1 p (fun _ => ⟨rfl, XO u _ hu⟩) (fun z => absurd cl (by omega))))
    · refine ⟨nI ((fT σ.1 (bn σ.1)).2 p), σ, ⟨fun _ => ?_, fun z => absurd c' z⟩, ⟨fun _ => r_lays mb w (fun g hg => pk_le (fT σ.1 (bn σ.1)).1 p (fun z => absurd z cl) (fun _ => ⟨vp_in_nI (by omega) (by decide), ?_, mb, hmr⟩)), fun z => absurd c' z⟩⟩
      · exact x_write2 b1 w b3 b4 hw (fun u hu => s_length hu (pk_le (fT σ.1 (bn σ.1)).1 p (fun z => absurd z cl) (fun _ => s_at hu p (by omega) ⟨rfl, XO u _ hu⟩)))
      · rw [nI_clamp (by omega)]
        exact hg p (by omega)
theorem rl_starred {s : Nat → Int32} {B : BkA} {Post : Int32 → Prop} (h : MB s B) (w : WB B) (P : Post (nI (sumF (fun j => if bS B j < 78 then 0 else 1) (bn B)))) : ∀ (d i : Nat), i + d = bn B → wl_X9_starred_4 s Post (d + 1) (nI (sumF (fun j => if bS B j < 78 then 0 else 1) i)) (nI i) := by
  have hn := w.2.2.1
  intro d
  induction d with
  | zero =>
    intro i hi
    refine rd (k := 2) (Q := fun v => (v ≤ nI i → _) ∧ (¬ v ≤ nI i → _)) h.2.2.1 (by decide) (pk_le (bn B) i (fun _ => ?_) (fun c => absurd c (by omega)))
    rw [show i = bn B by omega]; exact P
  | succ d ih =>
    intro i hi
    have := ih (i + 1) (by omega)
    rw [sumF] at this
    refine rd (k := 2) (Q := fun v => (v ≤ nI i → _) ∧ (¬ v ≤ nI i → _)) h.2.2.1 (by decide) (pk_le (bn B) i (fun c => absurd c (by omega)) (fun _ => r_isStarred h w (by omega) (fun e => f0 ?_) (fun e => f1 ?_)))
    · rw [if_pos e] at this
      rintro _ rfl
      rw [nI_add _ 0, nI_add i 1]
      exact this
    · rw [if_neg (by omega)] at this
      rintro _ rfl
      rw [nI_add _ 1, nI_add i 1]
      exact this
theorem x_number2 {B : BkA} {al : Int32} {r : RowT} {Post : Int32 → Prop} (e : al = nI (bal B)) (w : WB B) (h : RowN 40 (bn B) (bS B) r) (P : Post (nI (lpN B))) : wp_X3_number al r Post := by
  subst e
  exact ⟨bn B + 1, xl_number w h P (bn B) 0 (by omega)⟩
theorem x_letters2 {a : Nat} {al : Int32} {Post : Int32 → Prop} (e : al = nI a) (ha : a < 2 ^ 26) (P : Post (nI (lettersN a))) : wp_X0_letters al Post := by
  subst e
  exact x_letters ha P
theorem x_signedLeaves2 {B : BkA} {sg : Int32} {r r2 : RowT} {Post : Int32 → Prop} (e : sg = nI (bsg B)) (w : WB B) (h : RowN 40 (bn B) (bS B) r) (h2 : RowN 40 (bn B) (bZ B) r2) (P : Post (nI (sgd B))) : wp_X1_signedLeaves sg r r2 Post := by
  subst e
  exact x_signedLeaves w h h2 P
theorem op_count (σ : St) (x : XS) (y : MS) (hx : XOK σ x) (hm : MOK σ y) (p1 : Int32) : ∃ (r : Int32) (σ2 : St), wx_count x p1 (fun r2 x2 => r2 = r ∧ XOK σ2 x2) ∧ wm_count y p1 (fun r2 y2 => r2 = r ∧ MOK σ2 y2) := by
  unfold wx_count wm_count wp_X8_count wp_X9_count
  dsimp only
  obtain ⟨⟨b1, b2, b3, b4, b5, b6⟩, w, hv, x4, x5, x6, x7, x8, x9, x10, x11, x12, x13, ⟨nw, fw, hw⟩, x15⟩ := id hx
  obtain ⟨mb, hmw, hmh, hmst, hmk, hmi, hmi2, hms, hmt, hmr⟩ := id hm
  have M : ∀ g a b, MOK σ (y.1, y.2.1, y.2.2.1, g, y.2.2.2.2.1, y.2.2.2.2.2.1, y.2.2.2.2.2.2.1, y.2.2.2.2.2.2.2.1, y.2.2.2.2.2.2.2.2.1, y.2.2.2.2.2.2.2.2.2.1, y.2.2.2.2.2.2.2.2.2.2.1, y.2.2.2.2.2.2.2.2.2.2.2.1, a, b) := fun g a b => hm
  have b1 : x.2.1 = nI (bal σ.1) := b1
  have b2 : x.2.2.1 = nI (bsg σ.1) := b2
  have hn := w.2.2.1
  have hlv := w.lvs
  have XO : ∀ u e, RX (fT σ.1 (bn σ.1)) u → XOK σ (x.1, x.2.1, x.2.2.1, x.2.2.2.1, x.2.2.2.2.1, x.2.2.2.2.2.1, x.2.2.2.2.2.2.1, x.2.2.2.2.2.2.2.1, x.2.2.2.2.2.2.2.2.1, x.2.2.2.2.2.2.2.2.2.1, x.2.2.2.2.2.2.2.2.2.2.1, x.2.2.2.2.2.2.2.2.2.2.2.1, x.2.2.2.2.2.2.2.2.2.2.2.2.1, x.2.2.2.2.2.2.2.2.2.2.2.2.2.1, x.2.2.2.2.2.2.2.2.2.2.2.2.2.2.1, x.2.2.2.2.2.2.2.2.2.2.2.2.2.2.2.1, x.2.2.2.2.2.2.2.2.2.2.2.2.2.2.2.2.1, x.2.2.2.2.2.2.2.2.2.2.2.2.2.2.2.2.2.1, x.2.2.2.2.2.2.2.2.2.2.2.2.2.2.2.2.2.2.1, x.2.2.2.2.2.2.2.2.2.2.2.2.2.2.2.2.2.2.2.1, u, e, x.2.2.2.2.2.2.2.2.2.2.2.2.2.2.2.2.2.2.2.2.2.2) := fun u e hu => ⟨⟨b1, b2, b3, b4, b5, b6⟩, w, hv, x4, x5, x6, x7, x8, x9, x10, x11, x12, x13, ⟨_, _, hu⟩, x15⟩
  have ht : tA σ.1 (lvs σ.1) ≤ lvs σ.1 := by
    have a : tA σ.1 (lvs σ.1) ≤ sumF (bZ σ.1) (bn σ.1) := by
      rw [tA_all]
      have : ∀ n, sumF (fun q => fr (bL σ.1 q) (bZ σ.1 q)) n ≤ sumF (bZ σ.1) n := by
        intro n
        induction n with
        | zero => exact Nat.le_refl _
        | succ n ih =>
          have := fr_le (bL σ.1 n) (bZ σ.1 n)
          rw [sumF, sumF]
          omega
      exact this _
    exact a
  by_cases e0 : p1 = 0
  · exact ⟨nI (bn σ.1), σ, ⟨fun _ => x_quires b3 ⟨rfl, hx⟩, fun z => absurd e0 z⟩, r_lays mb w (fun g _ => ⟨fun _ => rd (Q := fun v => v = _ ∧ _) mb.2.2.1 (by decide) ⟨rfl, M _ _ _⟩, fun z => absurd e0 z⟩)⟩
  by_cases e1 : p1 = 1
  · exact ⟨nI (lvs σ.1), σ, ⟨fun z => absurd z e0, fun _ => ⟨fun _ => x_leaves w b3 b4 ⟨rfl, hx⟩, fun z => absurd e1 z⟩⟩, r_lays mb w (fun g _ => ⟨fun z => absurd z e0, fun _ => ⟨fun _ => r_leaves mb w ⟨rfl, M _ _ _⟩, fun z => absurd e1 z⟩⟩)⟩
  by_cases e2 : p1 = 2
  · exact ⟨nI (lvs σ.1 - tA σ.1 (lvs σ.1)), σ, ⟨fun z => absurd z e0, fun _ => ⟨fun z => absurd z e1, fun _ => ⟨fun _ => x_leaves w b3 b4 (x_leavesThere w b3 b4 b5 ⟨pk_sub ht, hx⟩), fun z => absurd e2 z⟩⟩⟩, r_lays mb w (fun g _ => ⟨fun z => absurd z e0, fun _ => ⟨fun z => absurd z e1, fun _ => ⟨fun _ => r_leaves mb w (r_thereOfAll mb w ⟨pk_sub ht, M _ _ _⟩), fun z => absurd e2 z⟩⟩⟩)⟩
  by_cases e3 : p1 = 3
  · exact ⟨nI (sgd σ.1), σ, ⟨fun z => absurd z e0, fun _ => ⟨fun z => absurd z e1, fun _ => ⟨fun z => absurd z e2, fun _ => ⟨fun _ => x_signedLeaves2 b2 w b3 b4 ⟨rfl, hx⟩, fun z => absurd e3 z⟩⟩⟩⟩, r_lays mb w (fun g _ => ⟨fun z => absurd z e0, fun _ => ⟨fun z => absurd z e1, fun _ => ⟨fun z => absurd z e2, fun _ => ⟨fun _ => r_signedOfAll mb w ⟨rfl, M _ _ _⟩, fun z => absurd e3 z⟩⟩⟩⟩)⟩
  by_cases e4 : p1 = 4
  · exact ⟨nI (lettersN (bal σ.1)), σ, ⟨fun z => absurd z e0, fun _ => ⟨fun z => absurd z e1, fun _ => ⟨fun z => absurd z e2, fun _ => ⟨fun z => absurd z e3, fun _ => ⟨fun _ => x_letters2 b1 w.1 ⟨rfl, hx⟩, fun z => absurd e4 z⟩⟩⟩⟩⟩, r_lays mb w (fun g _ => ⟨fun z => absurd z e0, fun _ => ⟨fun z => absurd z e1, fun _ => ⟨fun z => absurd z e2, fun _ => ⟨fun z => absurd z e3, fun _ => ⟨fun _ => r_letters mb w ⟨rfl, M _ _ _⟩, fun z => absurd e4 z⟩⟩⟩⟩⟩)⟩
  by_cases e5 : p1 = 5
  · exact ⟨nI (sumF (fun j => if bS σ.1 j < 78 then 0 else 1) (bn σ.1)), σ, ⟨fun z => absurd z e0, fun _ => ⟨fun z => absurd z e1, fun _ => ⟨fun z => absurd z e2, fun _ => ⟨fun z => absurd z e3, fun _ => ⟨fun z => absurd z e4, fun _ => ⟨fun _ => x_starredQuires w b3 ⟨rfl, hx⟩, fun z => absurd e5 z⟩⟩⟩⟩⟩⟩, r_lays mb w (fun g _ => ⟨fun z => absurd z e0, fun _ => ⟨fun z => absurd z e1, fun _ => ⟨fun z => absurd z e2, fun _ => ⟨fun z => absurd z e3, fun _ => ⟨fun z => absurd z e4, fun _ => ⟨fun _ => ⟨bn σ.1 + 1, rl_starred mb w ⟨rfl, M _ _ _⟩ (bn σ.1) 0 (by omega)⟩, fun z => absurd e5 z⟩⟩⟩⟩⟩⟩)⟩
  by_cases e6 : p1 = 6
  · exact ⟨nI (lpN σ.1), σ, ⟨fun z => absurd z e0, fun _ => ⟨fun z => absurd z e1, fun _ => ⟨fun z => absurd z e2, fun _ => ⟨fun z => absurd z e3, fun _ => ⟨fun z => absurd z e4, fun _ => ⟨fun z => absurd z e5, fun _ => ⟨fun _ => x_number2 b1 w b3 ⟨rfl, hx⟩, fun z => absurd e6 z⟩⟩⟩⟩⟩⟩⟩, r_lays mb w (fun g _ => ⟨fun z => absurd z e0, fun _ => ⟨fun z => absurd z e1, fun _ => ⟨fun z => absurd z e2, fun _ => ⟨fun z => absurd z e3, fun _ => ⟨fun z => absurd z e4, fun _ => ⟨fun z => absurd z e5, fun _ => ⟨fun _ => ⟨bn σ.1 + 1, rl_lapses mb w ⟨rfl, M _ _ _⟩ (bn σ.1) 0 (by omega)⟩, fun z => absurd e6 z⟩⟩⟩⟩⟩⟩⟩)⟩
  by_cases e7 : p1 = 7
  · exact ⟨nI (fT σ.1 (bn σ.1)).1, σ, ⟨fun z => absurd z e0, fun _ => ⟨fun z => absurd z e1, fun _ => ⟨fun z => absurd z e2, fun _ => ⟨fun z => absurd z e3, fun _ => ⟨fun z => absurd z e4, fun _ => ⟨fun z => absurd z e5, fun _ => ⟨fun z => absurd z e6, fun _ => ⟨fun _ => x_write2 b1 w b3 b4 hw (fun u hu => s_length hu ⟨rfl, XO u _ hu⟩), fun z => absurd e7 z⟩⟩⟩⟩⟩⟩⟩⟩, r_lays mb w (fun g _ => ⟨fun z => absurd z e0, fun _ => ⟨fun z => absurd z e1, fun _ => ⟨fun z => absurd z e2, fun _ => ⟨fun z => absurd z e3, fun _ => ⟨fun z => absurd z e4, fun _ => ⟨fun z => absurd z e5, fun _ => ⟨fun z => absurd z e6, fun _ => ⟨fun _ => ⟨rfl, M _ _ _⟩, fun z => absurd e7 z⟩⟩⟩⟩⟩⟩⟩⟩)⟩
  by_cases e8 : p1 = 8
  · exact ⟨nI (eN σ.1 (bn σ.1)), σ, ⟨fun z => absurd z e0, fun _ => ⟨fun z => absurd z e1, fun _ => ⟨fun z => absurd z e2, fun _ => ⟨fun z => absurd z e3, fun _ => ⟨fun z => absurd z e4, fun _ => ⟨fun z => absurd z e5, fun _ => ⟨fun z => absurd z e6, fun _ => ⟨fun z => absurd z e7, fun _ => ⟨fun _ => x_write2 b1 w b3 b4 hw (fun u hu => ⟨rfl, XO u _ hu⟩), fun z => absurd e8 z⟩⟩⟩⟩⟩⟩⟩⟩⟩, r_lays mb w (fun g _ => ⟨fun z => absurd z e0, fun _ => ⟨fun z => absurd z e1, fun _ => ⟨fun z => absurd z e2, fun _ => ⟨fun z => absurd z e3, fun _ => ⟨fun z => absurd z e4, fun _ => ⟨fun z => absurd z e5, fun _ => ⟨fun z => absurd z e6, fun _ => ⟨fun z => absurd z e7, fun _ => ⟨fun _ => ⟨rfl, M _ _ _⟩, fun z => absurd e8 z⟩⟩⟩⟩⟩⟩⟩⟩⟩)⟩
  by_cases e9 : p1 = 9
  · exact ⟨nI (bpn σ.1), σ, ⟨fun z => absurd z e0, fun _ => ⟨fun z => absurd z e1, fun _ => ⟨fun z => absurd z e2, fun _ => ⟨fun z => absurd z e3, fun _ => ⟨fun z => absurd z e4, fun _ => ⟨fun z => absurd z e5, fun _ => ⟨fun z => absurd z e6, fun _ => ⟨fun z => absurd z e7, fun _ => ⟨fun z => absurd z e8, fun _ => ⟨fun _ => s_length b6 ⟨rfl, hx⟩, fun z => absurd e9 z⟩⟩⟩⟩⟩⟩⟩⟩⟩⟩, r_lays mb w (fun g _ => ⟨fun z => absurd z e0, fun _ => ⟨fun z => absurd z e1, fun _ => ⟨fun z => absurd z e2, fun _ => ⟨fun z => absurd z e3, fun _ => ⟨fun z => absurd z e4, fun _ => ⟨fun z => absurd z e5, fun _ => ⟨fun z => absurd z e6, fun _ => ⟨fun z => absurd z e7, fun _ => ⟨fun z => absurd z e8, fun _ => ⟨fun _ => rd (k := 163) (Q := fun v => v = _ ∧ _) mb.2.2.2.2.1 (by decide) ⟨rfl, M _ _ _⟩, fun z => absurd e9 z⟩⟩⟩⟩⟩⟩⟩⟩⟩⟩)⟩
  by_cases e10 : p1 = 10
  · exact ⟨nI (bsg σ.1), σ, ⟨fun z => absurd z e0, fun _ => ⟨fun z => absurd z e1, fun _ => ⟨fun z => absurd z e2, fun _ => ⟨fun z => absurd z e3, fun _ => ⟨fun z => absurd z e4, fun _ => ⟨fun z => absurd z e5, fun _ => ⟨fun z => absurd z e6, fun _ => ⟨fun z => absurd z e7, fun _ => ⟨fun z => absurd z e8, fun _ => ⟨fun z => absurd z e9, fun _ => ⟨fun _ => ⟨b2, hx⟩, fun z => absurd e10 z⟩⟩⟩⟩⟩⟩⟩⟩⟩⟩⟩, r_lays mb w (fun g _ => ⟨fun z => absurd z e0, fun _ => ⟨fun z => absurd z e1, fun _ => ⟨fun z => absurd z e2, fun _ => ⟨fun z => absurd z e3, fun _ => ⟨fun z => absurd z e4, fun _ => ⟨fun z => absurd z e5, fun _ => ⟨fun z => absurd z e6, fun _ => ⟨fun z => absurd z e7, fun _ => ⟨fun z => absurd z e8, fun _ => ⟨fun z => absurd z e9, fun _ => ⟨fun _ => rd (k := 1) (Q := fun v => v = _ ∧ _) mb.2.1 (by decide) ⟨rfl, M _ _ _⟩, fun z => absurd e10 z⟩⟩⟩⟩⟩⟩⟩⟩⟩⟩⟩)⟩
  by_cases e11 : p1 = 11
  · exact ⟨nI σ.2.1, σ, ⟨fun z => absurd z e0, fun _ => ⟨fun z => absurd z e1, fun _ => ⟨fun z => absurd z e2, fun _ => ⟨fun z => absurd z e3, fun _ => ⟨fun z => absurd z e4, fun _ => ⟨fun z => absurd z e5, fun _ => ⟨fun z => absurd z e6, fun _ => ⟨fun z => absurd z e7, fun _ => ⟨fun z => absurd z e8, fun _ => ⟨fun z => absurd z e9, fun _ => ⟨fun z => absurd z e10, fun _ => ⟨fun _ => ⟨hv.1, hx⟩, fun z => absurd e11 z⟩⟩⟩⟩⟩⟩⟩⟩⟩⟩⟩⟩, r_lays mb w (fun g _ => ⟨fun z => absurd z e0, fun _ => ⟨fun z => absurd z e1, fun _ => ⟨fun z => absurd z e2, fun _ => ⟨fun z => absurd z e3, fun _ => ⟨fun z => absurd z e4, fun _ => ⟨fun z => absurd z e5, fun _ => ⟨fun z => absurd z e6, fun _ => ⟨fun z => absurd z e7, fun _ => ⟨fun z => absurd z e8, fun _ => ⟨fun z => absurd z e9, fun _ => ⟨fun z => absurd z e10, fun _ => ⟨fun _ => ⟨hmst, M _ _ _⟩, fun z => absurd e11 z⟩⟩⟩⟩⟩⟩⟩⟩⟩⟩⟩⟩)⟩
  by_cases e12 : p1 = 12
  · exact ⟨nI σ.2.2.2.2.2.1, σ, ⟨fun z => absurd z e0, fun _ => ⟨fun z => absurd z e1, fun _ => ⟨fun z => absurd z e2, fun _ => ⟨fun z => absurd z e3, fun _ => ⟨fun z => absurd z e4, fun _ => ⟨fun z => absurd z e5, fun _ => ⟨fun z => absurd z e6, fun _ => ⟨fun z => absurd z e7, fun _ => ⟨fun z => absurd z e8, fun _ => ⟨fun z => absurd z e9, fun _ => ⟨fun z => absurd z e10, fun _ => ⟨fun z => absurd z e11, fun _ => ⟨fun _ => s_length x8 ⟨rfl, hx⟩, fun z => absurd e12 z⟩⟩⟩⟩⟩⟩⟩⟩⟩⟩⟩⟩⟩, r_lays mb w (fun g _ => ⟨fun z => absurd z e0, fun _ => ⟨fun z => absurd z e1, fun _ => ⟨fun z => absurd z e2, fun _ => ⟨fun z => absurd z e3, fun _ => ⟨fun z => absurd z e4, fun _ => ⟨fun z => absurd z e5, fun _ => ⟨fun z => absurd z e6, fun _ => ⟨fun z => absurd z e7, fun _ => ⟨fun z => absurd z e8, fun _ => ⟨fun z => absurd z e9, fun _ => ⟨fun z => absurd z e10, fun _ => ⟨fun z => absurd z e11, fun _ => ⟨fun _ => ⟨hmt, M _ _ _⟩, fun z => absurd e12 z⟩⟩⟩⟩⟩⟩⟩⟩⟩⟩⟩⟩⟩)⟩
  exact ⟨-2, σ, ⟨fun z => absurd z e0, fun _ => ⟨fun z => absurd z e1, fun _ => ⟨fun z => absurd z e2, fun _ => ⟨fun z => absurd z e3, fun _ => ⟨fun z => absurd z e4, fun _ => ⟨fun z => absurd z e5, fun _ => ⟨fun z => absurd z e6, fun _ => ⟨fun z => absurd z e7, fun _ => ⟨fun z => absurd z e8, fun _ => ⟨fun z => absurd z e9, fun _ => ⟨fun z => absurd z e10, fun _ => ⟨fun z => absurd z e11, fun _ => ⟨fun z => absurd z e12, fun _ => ⟨rfl, hx⟩⟩⟩⟩⟩⟩⟩⟩⟩⟩⟩⟩⟩⟩, r_lays mb w (fun g _ => ⟨fun z => absurd z e0, fun _ => ⟨fun z => absurd z e1, fun _ => ⟨fun z => absurd z e2, fun _ => ⟨fun z => absurd z e3, fun _ => ⟨fun z => absurd z e4, fun _ => ⟨fun z => absurd z e5, fun _ => ⟨fun z => absurd z e6, fun _ => ⟨fun z => absurd z e7, fun _ => ⟨fun z => absurd z e8, fun _ => ⟨fun z => absurd z e9, fun _ => ⟨fun z => absurd z e10, fun _ => ⟨fun z => absurd z e11, fun _ => ⟨fun z => absurd z e12, fun _ => ⟨rfl, M _ _ _⟩⟩⟩⟩⟩⟩⟩⟩⟩⟩⟩⟩⟩⟩)⟩
