set_option maxHeartbeats 400000
/-! the formula's text -/
abbrev TxA : Type := Nat × (Nat → Nat)
def ap (T : TxA) (v : Nat) : TxA := (T.1 + 1, insF T.2 T.1 v)
def RX (T : TxA) (r : RowT) : Prop := RowN 320 T.1 T.2 r
def RM (T : TxA) (g : Nat → Int32) : Prop := ∀ j, j < T.1 → g j = nI (T.2 j)
theorem x_ap {T : TxA} {v : Nat} {r : RowT} {Post : RowT → Prop} (h : RX T r) (hT : T.1 < 320) (P : ∀ r2, RX (ap T v) r2 → Post r2) : wp_X4_add r (nI v) Post := s_add h hT P
theorem RM.ap {T : TxA} {g : Nat → Int32} {v : Nat} (h : RM T g) : RM (ap T v) (upd g T.1 (nI v)) := by
  intro j hj
  have hj : j < T.1 + 1 := hj
  show upd g T.1 (nI v) j = nI (insF T.2 T.1 v j)
  unfold upd insF
  by_cases c : j = T.1
  · rw [if_pos c, if_neg (by omega), if_pos c]
  · rw [if_neg c, if_pos (by omega)]
    exact h j (by omega)
theorem cI_nI {v : Nat} (hv : v < 65536) : cI (nI v) = nI v := by
  have e : (nI v).toBitVec.toNat = v := by
    show (BitVec.ofNat 32 v).toNat = v
    rw [BitVec.toNat_ofNat]
    omega
  have h := pk_char (nI v)
  rw [e, Nat.mod_eq_of_lt hv] at h
  exact h
theorem r_writes {T : TxA} {g : Nat → Int32} {v : Nat} {Post : (Nat → Int32) → Int32 → Prop} (h : RM T g) (hT : T.1 < 400) (hv : v < 65536) (P : ∀ g2, RM (ap T v) g2 → Post g2 (nI (T.1 + 1))) : wp_X9_writes g (nI T.1) (nI v) Post := by
  have e : vp_nar .char (cI (nI v)) = nI v := (pk_vc (nI v)).trans (cI_nI hv)
  refine ⟨vp_in_nI hT (by decide), ?_⟩
  rw [e, nI_clamp (by omega), nI_add]
  exact P _ h.ap
def chS (s k : Nat) : Nat := if s < 78 then (if k = 0 then 65 + s % 26 else 97 + s % 26) else 42
def wU (s : Nat) : Nat → TxA → TxA
  | 0, T => T
  | k + 1, T => ap (wU s k T) (chS s k)
def wSg (s : Nat) (T : TxA) : TxA := wU s (tmS s) T
def wNum (z : Nat) (T : TxA) : TxA := if z < 10 then ap T (48 + z % 10) else ap (ap T (48 + z / 10)) (48 + z % 10)
theorem wU_len (s : Nat) (T : TxA) : ∀ k, (wU s k T).1 = T.1 + k
  | 0 => rfl
  | k + 1 => by
    show (wU s k T).1 + 1 = T.1 + (k + 1)
    rw [wU_len s T k]
    omega
theorem wSg_len (s : Nat) (T : TxA) : (wSg s T).1 = T.1 + tmS s := wU_len s T _
theorem wNum_len (z : Nat) (T : TxA) : (wNum z T).1 ≤ T.1 + 2 ∧ T.1 ≤ (wNum z T).1 := by
  unfold wNum
  by_cases c : z < 10
  · rw [if_pos c]
    show T.1 + 1 ≤ T.1 + 2 ∧ T.1 ≤ T.1 + 1
    omega
  · rw [if_neg c]
    show T.1 + 1 + 1 ≤ T.1 + 2 ∧ T.1 ≤ T.1 + 1 + 1
    omega
theorem xl_wsign {s b : Nat} {T : TxA} {Post : RowT → Prop} (hs : s < 83) (hb0 : s < 78 → b = 0) (hb1 : 78 ≤ s → b = 1) (hT : T.1 + tmS s ≤ 320) (P : ∀ r2, RX (wSg s T) r2 → Post r2) : ∀ (d k : Nat) (r : RowT), k + d = tmS s → 1 ≤ k → RX (wU s k T) r → wl_X7_writeSign_30 (nI s) (nI b) Post (d + 1) r (nI k) := by
  have ht := tmS_lt hs
  intro d
  induction d with
  | zero =>
    intro k r hk hk1 h
    refine x_times (by omega) (pk_le (tmS s) k (fun _ => P r ?_) (fun c => absurd c (by omega)))
    unfold wSg
    rw [← hk]
    exact h
  | succ d ih =>
    intro k r hk hk1 h
    have hl := wU_len s T k
    refine x_times (by omega) (pk_le (tmS s) k (fun c => absurd c (by omega)) (fun _ => ?_))
    by_cases c : s < 78
    · have hb := hb0 c
      subst hb
      refine f0 (x_letter (by omega) ?_)
      rw [nI_add]
      refine x_ap h (by omega) (fun r2 h2 => ?_)
      rw [nI_add]
      have e : chS s k = 97 + s % 26 := by unfold chS; rw [if_pos c, if_neg (by omega)]
      refine ih (k + 1) r2 (by omega) (by omega) ?_
      show RX (ap (wU s k T) (chS s k)) r2
      rw [e]
      exact h2
    · have hb := hb1 (by omega)
      subst hb
      refine f1 (x_ap h (by omega) (fun r2 h2 => ?_))
      rw [nI_add]
      have e : chS s k = 42 := by unfold chS; rw [if_neg c]
      refine ih (k + 1) r2 (by omega) (by omega) ?_
      show RX (ap (wU s k T) (chS s k)) r2
      rw [e]
      exact h2
theorem tmS_pos {s : Nat} : 1 ≤ tmS s := by
  unfold tmS
  by_cases c : s < 78
  · rw [if_pos c]; omega
  · rw [if_neg c]; omega
theorem x_wsign {s : Nat} {T : TxA} {r : RowT} {Post : RowT → Prop} (hs : s < 83) (h : RX T r) (hT : T.1 + tmS s ≤ 320) (P : ∀ r2, RX (wSg s T) r2 → Post r2) : wp_X7_writeSign r (nI s) Post := by
  have ht := tmS_pos (s := s)
  refine x_isStarred (by omega) (fun c => f0 (x_letter (by omega) ?_)) (fun c => f1 ?_)
  · unfold wj_X7_writeSign_25
    rw [nI_add]
    refine x_ap h (by omega) (fun r2 h2 => ⟨tmS s - 1 + 1, xl_wsign (b := 0) hs (fun _ => rfl) (fun z => absurd z (by omega)) hT P (tmS s - 1) 1 r2 (by omega) (by omega) ?_⟩)
    show RX (ap T (chS s 0)) r2
    unfold chS
    rw [if_pos c, if_pos rfl]
    exact h2
  · unfold wj_X7_writeSign_25
    refine x_ap h (by omega) (fun r2 h2 => ⟨tmS s - 1 + 1, xl_wsign (b := 1) hs (fun z => absurd z (by omega)) (fun _ => rfl) hT P (tmS s - 1) 1 r2 (by omega) (by omega) ?_⟩)
    show RX (ap T (chS s 0)) r2
    unfold chS
    rw [if_neg (by omega)]
    exact h2
theorem x_wnum {z : Nat} {T : TxA} {r : RowT} {Post : RowT → Prop} (hz : z < 100) (h : RX T r) (hT : T.1 + 2 ≤ 320) (P : ∀ r2, RX (wNum z T) r2 → Post r2) : wp_X7_writeNumber r (nI z) Post := by
  refine pk_lt z 10 (fun c => ?_) (fun c => ?_)
  · unfold wj_X7_writeNumber_20
    rw [pk_rem (by omega) (by decide) (by decide), nI_add]
    refine x_ap h (by omega) (fun r2 h2 => P r2 ?_)
    unfold wNum
    rw [if_pos c]
    exact h2
  · rw [pk_div (by omega) (by decide) (by decide), nI_add]
    refine x_ap h (by omega) (fun r2 h2 => ?_)
    unfold wj_X7_writeNumber_20
    rw [pk_rem (by omega) (by decide) (by decide), nI_add]
    refine x_ap h2 (show T.1 + 1 < 320 by omega) (fun r3 h3 => P r3 ?_)
    unfold wNum
    rw [if_neg (by omega)]
    exact h3
def goN (B : BkA) (q : Nat) : Nat := if 1 ≤ q ∧ q < bn B ∧ bS B q < 78 ∧ bS B q = nextA (bal B) (bS B (q - 1) + 1) ∧ tmS (bS B q) = tmS (bS B (q - 1)) ∧ bZ B q = bZ B (q - 1) then 1 else 0
theorem goN_le (B : BkA) (q : Nat) : goN B q ≤ 1 := by
  unfold goN
  split <;> decide
theorem nv_eq2 {a k : Nat} {A C : Prop} (ha : a < 1000) (hk : k < 1000) (f : a < 78 → a = k → A) (g : ¬ (a < 78 ∧ a = k) → C) : (nI a = nv k → A) ∧ (¬ nI a = nv k → C) := by
  unfold nv
  by_cases c : k < 78
  · rw [if_pos c]; exact pk_eq a k (fun e => f (by omega) e) (fun e => g (fun z => e z.2))
  · rw [if_neg c]
    exact ⟨fun z => absurd z (nI_m1 (by omega)), fun _ => g (fun z => by omega)⟩
theorem nextA_lt2 {a s : Nat} (h : s ≤ 83) : nextA a s < 1000 := by
  have := nxt_le a (78 - s) s
  unfold nextA
  omega
theorem x_goesOn {B : BkA} {r1 r2 : RowT} {q : Nat} {Post : Int32 → Prop} (w : WB B) (h : RowN 40 (bn B) (bS B) r1) (h2 : RowN 40 (bn B) (bZ B) r2) (hq : q ≤ bn B) (P : Post (nI (goN B q))) : wp_X7_goesOn (nI (bal B)) r1 r2 (nI q) Post := by
  have w1 := w.1
  have hn := w.2.2.1
  have P0 : ¬ (1 ≤ q ∧ q < bn B ∧ bS B q < 78 ∧ bS B q = nextA (bal B) (bS B (q - 1) + 1) ∧ tmS (bS B q) = tmS (bS B (q - 1)) ∧ bZ B q = bZ B (q - 1)) → Post (nI 0) := by
    intro c
    rw [goN, if_neg c] at P
    exact P
  refine pk_lt q 1 (fun c => P0 (fun z => by omega)) (fun c => x_quires h (pk_lt q (bn B) (fun c2 => ?_) (fun c2 => P0 (fun z => by omega))))
  rw [pk_sub (by omega)]
  have hS := w.2.2.2.1 q c2
  have hS2 := w.2.2.2.1 (q - 1) (by omega)
  have hZ := w.2.2.2.2.1 q c2
  have hZ2 := w.2.2.2.2.1 (q - 1) (by omega)
  have t1 := tmS_lt hS
  have t2 := tmS_lt hS2
  refine s_at h q c2 (s_at h (q - 1) (by omega) (x_nextSign (s := bS B (q - 1) + 1) (by omega) (by omega) (nI_add _ _) (nv_eq2 (by omega) (nextA_lt2 (by omega)) (fun c3 c4 => x_times (by omega) (x_times (by omega) (pk_eq (tmS (bS B q)) (tmS (bS B (q - 1))) (fun c5 => s_at h2 q c2 (s_at h2 (q - 1) (by omega) (pk_eq (bZ B q) (bZ B (q - 1)) (fun c6 => ?_) (fun c6 => P0 (fun z => c6 z.2.2.2.2.2))))) (fun c5 => P0 (fun z => c5 z.2.2.2.2.1))))) (fun c3 => P0 (fun z => c3 ⟨z.2.2.1, z.2.2.2.1⟩)))))
  rw [goN, if_pos ⟨by omega, c2, c3, c4, c5, c6⟩] at P
  exact P
theorem r_goesOn {s : Nat → Int32} {B : BkA} {q : Nat} {Post : Int32 → Prop} (h : MB s B) (w : WB B) (hq0 : 1 ≤ q) (hq : q < bn B) (P : Post (nI (goN B q))) : wp_X9_goesOn s (nI q) Post := by
  have w1 := w.1
  have hn := w.2.2.1
  have P0 : ¬ (1 ≤ q ∧ q < bn B ∧ bS B q < 78 ∧ bS B q = nextA (bal B) (bS B (q - 1) + 1) ∧ tmS (bS B q) = tmS (bS B (q - 1)) ∧ bZ B q = bZ B (q - 1)) → wj_X9_goesOn_72 s (nI q) Post := by
    intro c
    rw [goN, if_neg c] at P
    exact f0 P
  have hS := w.2.2.2.1 q hq
  have hS2 := w.2.2.2.1 (q - 1) (by omega)
  have hZ := w.2.2.2.2.1 q hq
  have hZ2 := w.2.2.2.2.1 (q - 1) (by omega)
  have t1 := tmS_lt hS
  have t2 := tmS_lt hS2
  have m1 := h.q hq
  have m2 := h.q (q := q - 1) (by omega)
  unfold wp_X9_goesOn
  rw [pk_sub hq0]
  refine r_isStarred h w hq (fun c => f0 (r_isStarred h w (by omega) (fun c2 => f0 (r_of ⟨vp_in_nI (by omega) (by decide), r_of ⟨vp_in_nI (by omega) (by decide), ?_⟩⟩)) (fun c2 => f1 (P0 (fun z => ?_))))) (fun c => f1 (P0 (fun z => by omega)))
  · rw [nI_clamp (by omega), nI_clamp (by omega), m1.1, m2.1]
    refine pk_eq (tmS (bS B q)) (tmS (bS B (q - 1))) (fun c3 => r_of ⟨vp_in_nI (by omega) (by decide), r_of ⟨vp_in_nI (by omega) (by decide), ?_⟩⟩) (fun c3 => P0 (fun z => c3 z.2.2.2.2.1))
    rw [nI_clamp (by omega), nI_clamp (by omega), m1.2.2.1, m2.2.2.1]
    refine pk_eq (bZ B q) (bZ B (q - 1)) (fun c4 => f1 ?_) (fun c4 => P0 (fun z => c4 z.2.2.2.2.2))
    rw [pk_sub hq0]
    refine r_sign h w hq c (r_sign h w (q := q - 1) (by omega) c2 (r_next h w (i := bS B (q - 1) + 1) (by omega) (nI_add _ _) (nv_eq2 (by omega) (nextA_lt2 (by omega)) (fun c5 c6 => ?_) (fun c5 => ?_))))
    · rw [goN, if_pos ⟨hq0, hq, c, c6, c3, c4⟩] at P
      exact P
    · rw [goN, if_neg (fun z => c5 ⟨c, z.2.2.2.1⟩)] at P
      exact P
  · have := nxt_ge (bal B) (78 - (bS B (q - 1) + 1)) (bS B (q - 1) + 1)
    have z4 := z.2.2.2.1
    unfold nextA at z4
    omega
