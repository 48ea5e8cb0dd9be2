set_option maxHeartbeats 400000
/-! the formula's text -/
abbrev TxA : Type := Nat × (Nat → Nat)
def ap (T : TxA) (v : Nat) : TxA := (T.1 + 1, insF T.2 T.1 v)
def RX (T : TxA) (r : RowT) : Prop := RowN 320 T.1 T.2 r
theorem x_ap {T : TxA} {v : Nat} {r : RowT} {Post : RowT → Prop} (h : RX T r) (hT : T.1 < 320) (P : ∀ r2, RX (ap T v) r2 → Post r2) : wp_X4_add r (nI v) Post := s_add h hT P
def chS (s k : Nat) : Nat := if s < 78 then (if k = 0 then 65 + s % 26 else 97 + s % 26) else 42
def wU (s : Nat) : Nat → TxA → TxA
  | 0, T => T
  | k + 1, T => ap (wU s k T) (chS s k)
def wSg (s : Nat) (T : TxA) : TxA := wU s (tmS s) T
def wNum (z : Nat) (T : TxA) : TxA := if z < 10 then ap T (48 + z % 10) else ap (ap T (48 + z / 10)) (48 + z % 10)
theorem wU_len (s : Nat) (T : TxA) : ∀ k, (wU s k T).1 = T.1 + k
  | 0 => rfl
  | k + 1 => by
    show (wU s k T).1 + 1 = T.1 + (k + 1)
    rw [wU_len s T k]
    omega
theorem wSg_len (s : Nat) (T : TxA) : (wSg s T).1 = T.1 + tmS s := wU_len s T _
theorem wNum_len (z : Nat) (T : TxA) : (wNum z T).1 ≤ T.1 + 2 ∧ T.1 ≤ (wNum z T).1 := by
  unfold wNum
  by_cases c : z < 10
  · rw [if_pos c]
    show T.1 + 1 ≤ T.1 + 2 ∧ T.1 ≤ T.1 + 1
    omega
  · rw [if_neg c]
    show T.1 + 1 + 1 ≤ T.1 + 2 ∧ T.1 ≤ T.1 + 1 + 1
    omega
theorem tmS_lt {a : Nat} (ha : a < 83) : tmS a < 6 := by
  unfold tmS
  by_cases ca : a < 78
  · rw [if_pos ca]; omega
  · rw [if_neg ca]; omega
theorem xl_wsign {s b : Nat} {T : TxA} {Post : RowT → Prop} (hs : s < 83) (hb0 : s < 78 → b = 0) (hb1 : 78 ≤ s → b = 1) (hT : T.1 + tmS s ≤ 320) (P : ∀ r2, RX (wSg s T) r2 → Post r2) : ∀ (d k : Nat) (r : RowT), k + d = tmS s → 1 ≤ k → RX (wU s k T) r → wl_X7_writeSign_30 (nI s) (nI b) Post (d + 1) r (nI k) := by
  have ht := tmS_lt hs
  intro d
  induction d with
  | zero =>
    intro k r hk hk1 h
    refine x_times (by omega) (pk_le (tmS s) k (fun _ => P r ?_) (fun c => absurd c (by omega)))
    unfold wSg
    rw [← hk]
    exact h
  | succ d ih =>
    intro k r hk hk1 h
    have hl := wU_len s T k
    refine x_times (by omega) (pk_le (tmS s) k (fun c => absurd c (by omega)) (fun _ => ?_))
    by_cases c : s < 78
    · have hb := hb0 c
      subst hb
      refine f0 (x_letter (by omega) ?_)
      rw [nI_add]
      refine x_ap h (by omega) (fun r2 h2 => ?_)
      rw [nI_add]
      have e : chS s k = 97 + s % 26 := by unfold chS; rw [if_pos c, if_neg (by omega)]
      refine ih (k + 1) r2 (by omega) (by omega) ?_
      show RX (ap (wU s k T) (chS s k)) r2
      rw [e]
      exact h2
    · have hb := hb1 (by omega)
      subst hb
      refine f1 (x_ap h (by omega) (fun r2 h2 => ?_))
      rw [nI_add]
      have e : chS s k = 42 := by unfold chS; rw [if_neg c]
      refine ih (k + 1) r2 (by omega) (by omega) ?_
      show RX (ap (wU s k T) (chS s k)) r2
      rw [e]
      exact h2
theorem tmS_pos {s : Nat} : 1 ≤ tmS s := by
  unfold tmS
  by_cases c : s < 78
  · rw [if_pos c]; omega
  · rw [if_neg c]; omega
theorem x_wsign {s : Nat} {T : TxA} {r : RowT} {Post : RowT → Prop} (hs : s < 83) (h : RX T r) (hT : T.1 + tmS s ≤ 320) (P : ∀ r2, RX (wSg s T) r2 → Post r2) : wp_X7_writeSign r (nI s) Post := by
  have ht := tmS_pos (s := s)
  refine x_isStarred (by omega) (fun c => f0 (x_letter (by omega) ?_)) (fun c => f1 ?_)
  · unfold wj_X7_writeSign_25
    rw [nI_add]
    refine x_ap h (by omega) (fun r2 h2 => ⟨tmS s - 1 + 1, xl_wsign (b := 0) hs (fun _ => rfl) (fun z => absurd z (by omega)) hT P (tmS s - 1) 1 r2 (by omega) (by omega) ?_⟩)
    show RX (ap T (chS s 0)) r2
    unfold chS
    rw [if_pos c, if_pos rfl]
    exact h2
  · unfold wj_X7_writeSign_25
    refine x_ap h (by omega) (fun r2 h2 => ⟨tmS s - 1 + 1, xl_wsign (b := 1) hs (fun z => absurd z (by omega)) (fun _ => rfl) hT P (tmS s - 1) 1 r2 (by omega) (by omega) ?_⟩)
    show RX (ap T (chS s 0)) r2
    unfold chS
    rw [if_neg (by omega)]
    exact h2
theorem x_wnum {z : Nat} {T : TxA} {r : RowT} {Post : RowT → Prop} (hz : z < 100) (h : RX T r) (hT : T.1 + 2 ≤ 320) (P : ∀ r2, RX (wNum z T) r2 → Post r2) : wp_X7_writeNumber r (nI z) Post := by
  refine pk_lt z 10 (fun c => ?_) (fun c => ?_)
  · unfold wj_X7_writeNumber_20
    rw [pk_rem (by omega) (by decide) (by decide), nI_add]
    refine x_ap h (by omega) (fun r2 h2 => P r2 ?_)
    unfold wNum
    rw [if_pos c]
    exact h2
  · rw [pk_div (by omega) (by decide) (by decide), nI_add]
    refine x_ap h (by omega) (fun r2 h2 => ?_)
    unfold wj_X7_writeNumber_20
    rw [pk_rem (by omega) (by decide) (by decide), nI_add]
    refine x_ap h2 (show T.1 + 1 < 320 by omega) (fun r3 h3 => P r3 ?_)
    unfold wNum
    rw [if_neg (by omega)]
    exact h3
def goN (B : BkA) (q : Nat) : Nat := if 1 ≤ q ∧ q < bn B ∧ bS B q < 78 ∧ bS B q = nextA (bal B) (bS B (q - 1) + 1) ∧ tmS (bS B q) = tmS (bS B (q - 1)) ∧ bZ B q = bZ B (q - 1) then 1 else 0
theorem goN_le (B : BkA) (q : Nat) : goN B q ≤ 1 := by
  unfold goN
  split <;> decide
theorem nv_eq2 {a k : Nat} {A C : Prop} (ha : a < 1000) (hk : k < 1000) (f : a < 78 → a = k → A) (g : ¬ (a < 78 ∧ a = k) → C) : (nI a = nv k → A) ∧ (¬ nI a = nv k → C) := by
  unfold nv
  by_cases c : k < 78
  · rw [if_pos c]; exact pk_eq a k (fun e => f (by omega) e) (fun e => g (fun z => e z.2))
  · rw [if_neg c]
    exact ⟨fun z => absurd z (nI_m1 (by omega)), fun _ => g (fun z => by omega)⟩
theorem nextA_lt2 {a s : Nat} (h : s ≤ 83) : nextA a s < 1000 := by
  have := nxt_le a (78 - s) s
  unfold nextA
  omega
theorem x_goesOn {B : BkA} {r1 r2 : RowT} {q : Nat} {Post : Int32 → Prop} (w : WB B) (h : RowN 40 (bn B) (bS B) r1) (h2 : RowN 40 (bn B) (bZ B) r2) (hq : q ≤ bn B) (P : Post (nI (goN B q))) : wp_X7_goesOn (nI (bal B)) r1 r2 (nI q) Post := by
  have w1 := w.1
  have hn := w.2.2.1
  have P0 : ¬ (1 ≤ q ∧ q < bn B ∧ bS B q < 78 ∧ bS B q = nextA (bal B) (bS B (q - 1) + 1) ∧ tmS (bS B q) = tmS (bS B (q - 1)) ∧ bZ B q = bZ B (q - 1)) → Post (nI 0) := by
    intro c
    rw [goN, if_neg c] at P
    exact P
  refine pk_lt q 1 (fun c => P0 (fun z => by omega)) (fun c => x_quires h (pk_lt q (bn B) (fun c2 => ?_) (fun c2 => P0 (fun z => by omega))))
  rw [pk_sub (by omega)]
  have hS := w.2.2.2.1 q c2
  have hS2 := w.2.2.2.1 (q - 1) (by omega)
  have hZ := w.2.2.2.2.1 q c2
  have hZ2 := w.2.2.2.2.1 (q - 1) (by omega)
  have t1 := tmS_lt hS
  have t2 := tmS_lt hS2
  refine s_at h q c2 (s_at h (q - 1) (by omega) (x_nextSign (s := bS B (q - 1) + 1) (by omega) (by omega) (nI_add _ _) (nv_eq2 (by omega) (nextA_lt2 (by omega)) (fun c3 c4 => x_times (by omega) (x_times (by omega) (pk_eq (tmS (bS B q)) (tmS (bS B (q - 1))) (fun c5 => s_at h2 q c2 (s_at h2 (q - 1) (by omega) (pk_eq (bZ B q) (bZ B (q - 1)) (fun c6 => ?_) (fun c6 => P0 (fun z => c6 z.2.2.2.2.2))))) (fun c5 => P0 (fun z => c5 z.2.2.2.2.1))))) (fun c3 => P0 (fun z => c3 ⟨z.2.2.1, z.2.2.2.1⟩)))))
  rw [goN, if_pos ⟨by omega, c2, c3, c4, c5, c6⟩] at P
  exact P
theorem chS_lt (s k : Nat) : chS s k < 65536 := by
  unfold chS
  by_cases c : s < 78
  · rw [if_pos c]
    by_cases d : k = 0
    · rw [if_pos d]; omega
    · rw [if_neg d]; omega
  · rw [if_neg c]; decide
def cmT (q : Nat) (T : TxA) : TxA := if q = 0 then T else ap T 44
def fH (B : BkA) (q : Nat) (T : TxA) : TxA := if goN B q = 0 then wSg (bS B q) (cmT q T) else if goN B (q + 1) = 0 then wSg (bS B q) (ap T 45) else T
def fT (B : BkA) : Nat → TxA
  | 0 => (0, fun _ => 0)
  | q + 1 => if goN B (q + 1) = 0 then wNum (bZ B q) (fH B q (fT B q)) else fH B q (fT B q)
def eN (B : BkA) : Nat → Nat
  | 0 => 0
  | q + 1 => if goN B q = 0 then eN B q + 1 else eN B q
theorem cmT_len (q : Nat) (T : TxA) : (cmT q T).1 ≤ T.1 + 1 := by
  unfold cmT
  by_cases c : q = 0
  · rw [if_pos c]; omega
  · rw [if_neg c]; exact Nat.le_refl _
theorem fH_len {B : BkA} (w : WB B) {q : Nat} (hq : q < bn B) (T : TxA) : (fH B q T).1 ≤ T.1 + 6 := by
  have ht := tmS_lt (w.2.2.2.1 q hq)
  unfold fH
  by_cases c : goN B q = 0
  · rw [if_pos c, wSg_len]
    have := cmT_len q T
    omega
  · rw [if_neg c]
    by_cases c2 : goN B (q + 1) = 0
    · rw [if_pos c2, wSg_len]
      show T.1 + 1 + _ ≤ _
      omega
    · rw [if_neg c2]; omega
theorem fT_len {B : BkA} (w : WB B) : ∀ q, q ≤ bn B → (fT B q).1 ≤ 8 * q
  | 0, _ => Nat.le_refl _
  | q + 1, h => by
    have h1 := fT_len w q (by omega)
    have h2 := fH_len w (show q < bn B by omega) (fT B q)
    have h3 := wNum_len (bZ B q) (fH B q (fT B q))
    rw [fT]
    by_cases c : goN B (q + 1) = 0
    · rw [if_pos c]; omega
    · rw [if_neg c]; omega
theorem goN_0 (B : BkA) : goN B 0 = 0 := by
  unfold goN
  rw [if_neg (by omega)]
theorem goN_n (B : BkA) {q : Nat} (h : bn B ≤ q) : goN B q = 0 := by
  unfold goN
  rw [if_neg (by omega)]
theorem eN_pos {B : BkA} : ∀ q, 1 ≤ eN B (q + 1) ∧ eN B (q + 1) ≤ q + 1
  | 0 => by
    rw [eN, goN_0, if_pos rfl]
    exact ⟨by omega, by show eN B 0 + 1 ≤ 1; exact Nat.le_refl _⟩
  | q + 1 => by
    have h := eN_pos (B := B) q
    rw [eN]
    split <;> omega
theorem x_wr86 {B : BkA} {r r1 r2 : RowT} {q L : Nat} {T : TxA} {ent : Int32} {al : Int32} {K : RowT → Int32 → Int32 → Prop} {Post : RowT → Int32 → Prop} (w : WB B) (h2 : RowN 40 (bn B) (bZ B) r2) (hq : q < bn B) (hT : T.1 + 2 ≤ 320) (h : RX T r) (hL : L ≤ 1)
    (P : ∀ u, RX (if L = 0 then T else wNum (bZ B q) T) u → K u ent (nI (q + 1))) : wj_X7_write_86 r ent al r1 r2 (nI q) (nI L) K Post := by
  have hZ := w.2.2.2.2.1 q hq
  refine b_z (fun e => ?_) (fun e => s_at h2 q hq (x_wnum (by omega) h hT (fun u hu => ?_)))
  · rw [nI_add]
    refine P r ?_
    rw [if_pos e]
    exact h
  · rw [nI_add]
    refine P u ?_
    rw [if_neg e]
    exact hu
theorem xl_write {B : BkA} {r1 r2 : RowT} {Post : RowT → Int32 → Prop} (w : WB B) (h1 : RowN 40 (bn B) (bS B) r1) (h2 : RowN 40 (bn B) (bZ B) r2) (P : ∀ u, RX (fT B (bn B)) u → Post u (nI (eN B (bn B)))) : ∀ (d q : Nat) (r : RowT), q + d = bn B → RX (fT B q) r → wl_X7_write_14 (nI (bal B)) r1 r2 Post (d + 1) r (nI (eN B q)) (nI q) := by
  have hn := w.2.2.1
  intro d
  induction d with
  | zero =>
    intro q r hq h
    have e : q = bn B := by omega
    subst e
    exact x_quires h1 (pk_le (bn B) (bn B) (fun _ => P r h) (fun c => absurd c (by omega)))
  | succ d ih =>
    intro q r hq h
    have hqn : q < bn B := by omega
    have hS := w.2.2.2.1 q hqn
    have ht := tmS_lt hS
    have hl := fT_len w q (by omega)
    have hH := fH_len w hqn (fT B q)
    have hg := goN_le B (q + 1)
    have hg2 := goN_le B q
    -- the rest, whatever is the last
    have J : ∀ L : Nat, L = 1 - goN B (q + 1) → wj_X7_write_37 r (nI (eN B q)) (nI (bal B)) r1 r2 (nI q) (nI L) (fun x0 x1 x2 => wl_X7_write_14 (nI (bal B)) r1 r2 Post (d + 1) x0 x1 x2) Post := by
      intro L hL
      have E : ∀ ent u, ent = eN B (q + 1) → RX (fH B q (fT B q)) u → wj_X7_write_86 u (nI ent) (nI (bal B)) r1 r2 (nI q) (nI L) (fun x0 x1 x2 => wl_X7_write_14 (nI (bal B)) r1 r2 Post (d + 1) x0 x1 x2) Post := by
        intro ent u he hu
        refine x_wr86 w h2 hqn (by omega) hu (by omega) (fun u2 hu2 => ?_)
        rw [he]
        refine ih (q + 1) u2 (by omega) ?_
        rw [fT]
        by_cases c : goN B (q + 1) = 0
        · rw [if_pos c]
          rw [if_neg (by omega)] at hu2
          exact hu2
        · rw [if_neg c]
          rw [if_pos (by omega)] at hu2
          exact hu2
      refine x_goesOn w h1 h2 (by omega) (b_z (fun e => s_at h1 q hqn ?_) (fun e => b_z (fun e2 => ?_) (fun e2 => ?_)))
      · have F : ∀ u, RX (cmT q (fT B q)) u → wj_X7_beginEntry_16 u (nI (eN B q)) (nI (bS B q)) (fun u8 u9 => wj_X7_write_86 u8 u9 (nI (bal B)) r1 r2 (nI q) (nI L) (fun x0 x1 x2 => wl_X7_write_14 (nI (bal B)) r1 r2 Post (d + 1) x0 x1 x2) Post) := by
          intro u hu
          have hc := cmT_len q (fT B q)
          refine x_wsign hS hu (by omega) (fun u2 hu2 => ?_)
          rw [nI_add]
          refine E _ u2 ?_ ?_
          · rw [eN, if_pos e]
          · unfold fH
            rw [if_pos e]
            exact hu2
        rcases Nat.eq_zero_or_pos q with z | z
        · subst z
          exact ⟨fun _ => F r h, fun z => absurd (show nI 0 ≤ 0 by decide) z⟩
        · obtain ⟨q', rfl⟩ : ∃ q', q = q' + 1 := ⟨q - 1, by omega⟩
          have hp := eN_pos (B := B) q'
          refine ⟨fun z => absurd z (nI_nle (by omega) (by omega)), fun _ => x_ap h (by omega) (fun u hu => F u ?_)⟩
          unfold cmT
          rw [if_neg (by omega)]
          exact hu
      · refine E _ r ?_ ?_
        · rw [eN, if_neg e]
        · unfold fH
          rw [if_neg e, if_neg (by omega)]
          exact h
      · refine x_ap h (by omega) (fun u hu => s_at h1 q hqn (x_wsign hS hu (show (fT B q).1 + 1 + _ ≤ 320 by omega) (fun u2 hu2 => E _ u2 ?_ ?_)))
        · rw [eN, if_neg e]
        · unfold fH
          rw [if_neg e, if_pos (by omega)]
          exact hu2
    refine x_quires h1 (pk_le (bn B) q (fun c => absurd c (by omega)) (fun _ => ?_))
    rw [nI_add q 1]
    exact x_goesOn w h1 h2 (by omega) (b_z (fun e => J 1 (by omega)) (fun e => J 0 (by omega)))
theorem x_write {B : BkA} {r1 r2 r : RowT} {n : Nat} {f : Nat → Nat} {ent : Int32} {Post : RowT → Int32 → Prop} (w : WB B) (h1 : RowN 40 (bn B) (bS B) r1) (h2 : RowN 40 (bn B) (bZ B) r2) (h : RowN 320 n f r) (P : ∀ u, RX (fT B (bn B)) u → Post u (nI (eN B (bn B)))) : wp_X7_write r ent (nI (bal B)) r1 r2 Post :=
  s_empty h (fun r2' g => ⟨bn B + 1, xl_write w h1 h2 P (bn B) 0 r2' (by omega) (g _)⟩)

theorem x_write2 {B : BkA} {al : Int32} {r1 r2 r : RowT} {n : Nat} {f : Nat → Nat} {ent : Int32} {Post : RowT → Int32 → Prop} (e : al = nI (bal B)) (w : WB B) (h1 : RowN 40 (bn B) (bS B) r1) (h2 : RowN 40 (bn B) (bZ B) r2) (h : RowN 320 n f r) (P : ∀ u, RX (fT B (bn B)) u → Post u (nI (eN B (bn B)))) : wp_X7_write r ent al r1 r2 Post := by
  subst e
  exact x_write w h1 h2 h P
theorem x_number2 {B : BkA} {al : Int32} {r : RowT} {Post : Int32 → Prop} (e : al = nI (bal B)) (w : WB B) (h : RowN 40 (bn B) (bS B) r) (P : Post (nI (lpN B))) : wp_X3_number al r Post := by
  subst e
  exact ⟨bn B + 1, xl_number w h P (bn B) 0 (by omega)⟩
theorem x_letters2 {a : Nat} {al : Int32} {Post : Int32 → Prop} (e : al = nI a) (ha : a < 2 ^ 26) (P : Post (nI (lettersN a))) : wp_X0_letters al Post := by
  subst e
  exact x_letters ha P
theorem x_signedLeaves2 {B : BkA} {sg : Int32} {r r2 : RowT} {Post : Int32 → Prop} (e : sg = nI (bsg B)) (w : WB B) (h : RowN 40 (bn B) (bS B) r) (h2 : RowN 40 (bn B) (bZ B) r2) (P : Post (nI (sgd B))) : wp_X1_signedLeaves sg r r2 Post := by
  subst e
  exact x_signedLeaves w h h2 P
