set_option maxHeartbeats 400000
theorem chS_lt (s k : Nat) : chS s k < 65536 := by
  unfold chS
  by_cases c : s < 78
  · rw [if_pos c]
    by_cases d : k = 0
    · rw [if_pos d]; omega
    · rw [if_neg d]; omega
  · rw [if_neg c]; decide
theorem rl_wsign {s : Nat → Int32} {B : BkA} {q : Nat} {T : TxA} {Post : (Nat → Int32) → Int32 → Prop} (h : MB s B) (w : WB B) (hq : q < bn B) (hT : T.1 + 6 ≤ 400) (P : ∀ g2, RM (wSg (bS B q) T) g2 → Post g2 (nI (wSg (bS B q) T).1)) :
    ∀ (d k : Nat) (g : Nat → Int32), k + d = tmS (bS B q) → RM (wU (bS B q) k T) g → wl_X9_writesSign_2 s (nI q) Post (d + 1) g (nI (wU (bS B q) k T).1) (nI k) := by
  have hS := w.2.2.2.1 q hq
  have hn := w.2.2.1
  have ht := tmS_lt hS
  have mq := h.q hq
  intro d
  induction d with
  | zero =>
    intro k g hk hg
    refine r_of (rd (Q := fun v => (v ≤ nI k → _) ∧ (¬ v ≤ nI k → _)) mq.1 (by omega) (pk_le (tmS (bS B q)) k (fun _ => ?_) (fun c => absurd c (by omega))))
    have e : k = tmS (bS B q) := by omega
    subst e
    exact P g hg
  | succ d ih =>
    intro k g hk hg
    have hl := wU_len (bS B q) T k
    have K : ∀ v, v = chS (bS B q) k → wp_X9_writes g (nI (wU (bS B q) k T).1) (nI v) (fun u1 u2 => wl_X9_writesSign_2 s (nI q) Post (d + 1) u1 u2 (nI (k + 1))) := by
      intro v hv
      subst hv
      exact r_writes hg (by omega) (chS_lt _ _) (fun g2 h2 => ih (k + 1) g2 (by omega) h2)
    refine r_of (rd (Q := fun v => (v ≤ nI k → _) ∧ (¬ v ≤ nI k → _)) mq.1 (by omega) (pk_le (tmS (bS B q)) k (fun c => absurd c (by omega)) (fun _ => r_isStarred h w hq (fun c => f0 (b_z (fun e => r_of ⟨vp_in_nI (by omega) (by decide), ?_⟩) (fun e => r_of ⟨vp_in_nI (by omega) (by decide), ?_⟩))) (fun c => f1 ?_))))
    · unfold wj_X9_writesSign_63
      have hlt : ltS (bS B q) = nI (bS B q % 26) := by unfold ltS; rw [if_pos c]
      rw [nI_clamp (by omega), mq.2.1, hlt, nI_add 65, nI_add k 1]
      refine K _ ?_
      unfold chS
      rw [if_pos c, if_pos e]
    · unfold wj_X9_writesSign_63
      have hlt : ltS (bS B q) = nI (bS B q % 26) := by unfold ltS; rw [if_pos c]
      rw [nI_clamp (by omega), mq.2.1, hlt, nI_add 97, nI_add k 1]
      refine K _ ?_
      unfold chS
      rw [if_pos c, if_neg e]
    · unfold wj_X9_writesSign_63
      rw [nI_add k 1]
      refine K _ ?_
      unfold chS
      rw [if_neg (by omega)]
theorem r_wsign {s : Nat → Int32} {B : BkA} {q : Nat} {T : TxA} {g : Nat → Int32} {Post : (Nat → Int32) → Int32 → Prop} (h : MB s B) (w : WB B) (hq : q < bn B) (hT : T.1 + 6 ≤ 400) (hg : RM T g) (P : ∀ g2, RM (wSg (bS B q) T) g2 → Post g2 (nI (wSg (bS B q) T).1)) : wp_X9_writesSign s g (nI T.1) (nI q) Post :=
  ⟨_, rl_wsign h w hq hT P (tmS (bS B q)) 0 g (by omega) hg⟩
def cmT (q : Nat) (T : TxA) : TxA := if q = 0 then T else ap T 44
def fH (B : BkA) (q : Nat) (T : TxA) : TxA := if goN B q = 0 then wSg (bS B q) (cmT q T) else if goN B (q + 1) = 0 then wSg (bS B q) (ap T 45) else T
def fT (B : BkA) : Nat → TxA
  | 0 => (0, fun _ => 0)
  | q + 1 => if goN B (q + 1) = 0 then wNum (bZ B q) (fH B q (fT B q)) else fH B q (fT B q)
def eN (B : BkA) : Nat → Nat
  | 0 => 0
  | q + 1 => if goN B q = 0 then eN B q + 1 else eN B q
theorem cmT_len (q : Nat) (T : TxA) : (cmT q T).1 ≤ T.1 + 1 := by
  unfold cmT
  by_cases c : q = 0
  · rw [if_pos c]; omega
  · rw [if_neg c]; exact Nat.le_refl _
theorem fH_len {B : BkA} (w : WB B) {q : Nat} (hq : q < bn B) (T : TxA) : (fH B q T).1 ≤ T.1 + 6 := by
  have ht := tmS_lt (w.2.2.2.1 q hq)
  unfold fH
  by_cases c : goN B q = 0
  · rw [if_pos c, wSg_len]
    have := cmT_len q T
    omega
  · rw [if_neg c]
    by_cases c2 : goN B (q + 1) = 0
    · rw [if_pos c2, wSg_len]
      show T.1 + 1 + _ ≤ _
      omega
    · rw [if_neg c2]; omega
theorem fT_len {B : BkA} (w : WB B) : ∀ q, q ≤ bn B → (fT B q).1 ≤ 8 * q
  | 0, _ => Nat.le_refl _
  | q + 1, h => by
    have h1 := fT_len w q (by omega)
    have h2 := fH_len w (show q < bn B by omega) (fT B q)
    have h3 := wNum_len (bZ B q) (fH B q (fT B q))
    rw [fT]
    by_cases c : goN B (q + 1) = 0
    · rw [if_pos c]; omega
    · rw [if_neg c]; omega
theorem goN_0 (B : BkA) : goN B 0 = 0 := by
  unfold goN
  rw [if_neg (by omega)]
theorem goN_n (B : BkA) {q : Nat} (h : bn B ≤ q) : goN B q = 0 := by
  unfold goN
  rw [if_neg (by omega)]
theorem eN_pos {B : BkA} : ∀ q, 1 ≤ eN B (q + 1) ∧ eN B (q + 1) ≤ q + 1
  | 0 => by
    rw [eN, goN_0, if_pos rfl]
    exact ⟨by omega, by show eN B 0 + 1 ≤ 1; exact Nat.le_refl _⟩
  | q + 1 => by
    have h := eN_pos (B := B) q
    rw [eN]
    split <;> omega
theorem x_wr86 {B : BkA} {r r1 r2 : RowT} {q L : Nat} {T : TxA} {ent : Int32} {al : Int32} {K : RowT → Int32 → Int32 → Prop} {Post : RowT → Int32 → Prop} (w : WB B) (h2 : RowN 40 (bn B) (bZ B) r2) (hq : q < bn B) (hT : T.1 + 2 ≤ 320) (h : RX T r) (hL : L ≤ 1)
    (P : ∀ u, RX (if L = 0 then T else wNum (bZ B q) T) u → K u ent (nI (q + 1))) : wj_X7_write_86 r ent al r1 r2 (nI q) (nI L) K Post := by
  have hZ := w.2.2.2.2.1 q hq
  refine b_z (fun e => ?_) (fun e => s_at h2 q hq (x_wnum (by omega) h hT (fun u hu => ?_)))
  · rw [nI_add]
    refine P r ?_
    rw [if_pos e]
    exact h
  · rw [nI_add]
    refine P u ?_
    rw [if_neg e]
    exact hu
theorem xl_write {B : BkA} {r1 r2 : RowT} {Post : RowT → Int32 → Prop} (w : WB B) (h1 : RowN 40 (bn B) (bS B) r1) (h2 : RowN 40 (bn B) (bZ B) r2) (P : ∀ u, RX (fT B (bn B)) u → Post u (nI (eN B (bn B)))) : ∀ (d q : Nat) (r : RowT), q + d = bn B → RX (fT B q) r → wl_X7_write_14 (nI (bal B)) r1 r2 Post (d + 1) r (nI (eN B q)) (nI q) := by
  have hn := w.2.2.1
  intro d
  induction d with
  | zero =>
    intro q r hq h
    have e : q = bn B := by omega
    subst e
    exact x_quires h1 (pk_le (bn B) (bn B) (fun _ => P r h) (fun c => absurd c (by omega)))
  | succ d ih =>
    intro q r hq h
    have hqn : q < bn B := by omega
    have hS := w.2.2.2.1 q hqn
    have ht := tmS_lt hS
    have hl := fT_len w q (by omega)
    have hH := fH_len w hqn (fT B q)
    have hg := goN_le B (q + 1)
    have hg2 := goN_le B q
    -- the rest, whatever is the last
    have J : ∀ L : Nat, L = 1 - goN B (q + 1) → wj_X7_write_37 r (nI (eN B q)) (nI (bal B)) r1 r2 (nI q) (nI L) (fun x0 x1 x2 => wl_X7_write_14 (nI (bal B)) r1 r2 Post (d + 1) x0 x1 x2) Post := by
      intro L hL
      have E : ∀ ent u, ent = eN B (q + 1) → RX (fH B q (fT B q)) u → wj_X7_write_86 u (nI ent) (nI (bal B)) r1 r2 (nI q) (nI L) (fun x0 x1 x2 => wl_X7_write_14 (nI (bal B)) r1 r2 Post (d + 1) x0 x1 x2) Post := by
        intro ent u he hu
        refine x_wr86 w h2 hqn (by omega) hu (by omega) (fun u2 hu2 => ?_)
        rw [he]
        refine ih (q + 1) u2 (by omega) ?_
        rw [fT]
        by_cases c : goN B (q + 1) = 0
        · rw [if_pos c]
          rw [if_neg (by omega)] at hu2
          exact hu2
        · rw [if_neg c]
          rw [if_pos (by omega)] at hu2
          exact hu2
      refine x_goesOn w h1 h2 (by omega) (b_z (fun e => s_at h1 q hqn ?_) (fun e => b_z (fun e2 => ?_) (fun e2 => ?_)))
      · have F : ∀ u, RX (cmT q (fT B q)) u → wj_X7_beginEntry_16 u (nI (eN B q)) (nI (bS B q)) (fun u8 u9 => wj_X7_write_86 u8 u9 (nI (bal B)) r1 r2 (nI q) (nI L) (fun x0 x1 x2 => wl_X7_write_14 (nI (bal B)) r1 r2 Post (d + 1) x0 x1 x2) Post) := by
          intro u hu
          have hc := cmT_len q (fT B q)
          refine x_wsign hS hu (by omega) (fun u2 hu2 => ?_)
          rw [nI_add]
          refine E _ u2 ?_ ?_
          · rw [eN, if_pos e]
          · unfold fH
            rw [if_pos e]
            exact hu2
        rcases Nat.eq_zero_or_pos q with z | z
        · subst z
          exact ⟨fun _ => F r h, fun z => absurd (show nI 0 ≤ 0 by decide) z⟩
        · obtain ⟨q', rfl⟩ : ∃ q', q = q' + 1 := ⟨q - 1, by omega⟩
          have hp := eN_pos (B := B) q'
          refine ⟨fun z => absurd z (nI_nle (by omega) (by omega)), fun _ => x_ap h (by omega) (fun u hu => F u ?_)⟩
          unfold cmT
          rw [if_neg (by omega)]
          exact hu
      · refine E _ r ?_ ?_
        · rw [eN, if_neg e]
        · unfold fH
          rw [if_neg e, if_neg (by omega)]
          exact h
      · refine x_ap h (by omega) (fun u hu => s_at h1 q hqn (x_wsign hS hu (show (fT B q).1 + 1 + _ ≤ 320 by omega) (fun u2 hu2 => E _ u2 ?_ ?_)))
        · rw [eN, if_neg e]
        · unfold fH
          rw [if_neg e, if_pos (by omega)]
          exact hu2
    refine x_quires h1 (pk_le (bn B) q (fun c => absurd c (by omega)) (fun _ => ?_))
    rw [nI_add q 1]
    exact x_goesOn w h1 h2 (by omega) (b_z (fun e => J 1 (by omega)) (fun e => J 0 (by omega)))
theorem x_write {B : BkA} {r1 r2 r : RowT} {n : Nat} {f : Nat → Nat} {ent : Int32} {Post : RowT → Int32 → Prop} (w : WB B) (h1 : RowN 40 (bn B) (bS B) r1) (h2 : RowN 40 (bn B) (bZ B) r2) (h : RowN 320 n f r) (P : ∀ u, RX (fT B (bn B)) u → Post u (nI (eN B (bn B)))) : wp_X7_write r ent (nI (bal B)) r1 r2 Post :=
  s_empty h (fun r2' g => ⟨bn B + 1, xl_write w h1 h2 P (bn B) 0 r2' (by omega) (g _)⟩)
