set_option maxHeartbeats 400000
/-! lapses of the signing -/
def lapO (B : BkA) (q : Nat) : Option Nat := if bS B q < 78 then (match lastL (bS B) q with
  | none => none
  | some k => if bS B q = nextA (bal B) (bS B k + 1) then none else some k) else none
def kdN (B : BkA) (q k : Nat) : Nat := if bS B q = bS B k then 0 else if bS B k ≤ bS B q then 2 else 1
theorem nv_eq {a k : Nat} {A C : Prop} (ha : a < 78) (hk : k < 1000) (f : a = k → A) (g : a ≠ k → C) : (nI a = nv k → A) ∧ (¬ nI a = nv k → C) := by
  unfold nv
  by_cases c : k < 78
  · rw [if_pos c]; exact pk_eq a k f g
  · rw [if_neg c]
    exact ⟨fun z => absurd z (nI_m1 (by omega)), fun _ => g (by omega)⟩
theorem nextA_lt {a s : Nat} (h : s ≤ 79) : nextA a s < 1000 := by
  have := nxt_le a (78 - s) s
  unfold nextA
  omega
theorem lap_some {B : BkA} {q k : Nat} (h : lapO B q = some k) : bS B q < 78 ∧ lastL (bS B) q = some k ∧ bS B q ≠ nextA (bal B) (bS B k + 1) := by
  unfold lapO at h
  by_cases c : bS B q < 78
  · rw [if_pos c] at h
    cases hl : lastL (bS B) q with
    | none => rw [hl] at h; cases h
    | some k2 =>
      rw [hl] at h
      dsimp only at h
      by_cases e : bS B q = nextA (bal B) (bS B k2 + 1)
      · rw [if_pos e] at h; cases h
      · rw [if_neg e] at h
        cases h
        exact ⟨c, rfl, e⟩
  · rw [if_neg c] at h; cases h
theorem x_kind {B : BkA} {r : RowT} {q : Nat} {Post : Int32 → Prop} (w : WB B) (h : RowN 40 (bn B) (bS B) r) (hq : q < bn B) (P0 : lapO B q = none → Post (-1)) (P1 : ∀ k, lapO B q = some k → Post (nI (kdN B q k))) : wp_X3_kind (nI (bal B)) r (nI q) Post := by
  have hS := w.2.2.2.1 q hq
  have w1 := w.1
  refine s_at h q hq (x_lastLettersAhead w h (Nat.le_of_lt hq) (x_isStarred (by omega) (fun c => f0 ?_) (fun c => f1 ?_)))
  · cases hl : lastL (bS B) q with
    | none =>
      refine ⟨fun _ => P0 ?_, fun z => absurd rfl z⟩
      unfold lapO
      rw [if_pos c, hl]
    | some k =>
      have hk := (lastL_some hl).2
      refine ⟨fun z => absurd z (nI_m1 (by omega)), fun _ => x_nextSign (s := bS B k + 1) (by omega) (by omega) (nI_add _ _) (nv_eq c (nextA_lt (by omega)) (fun e => P0 ?_) (fun e => ?_))⟩
      · unfold lapO
        rw [if_pos c, hl]
        exact if_pos e
      · have hL : lapO B q = some k := by
          unfold lapO
          rw [if_pos c, hl]
          exact if_neg e
        have P := P1 k hL
        unfold kdN at P
        refine pk_eq (bS B q) (bS B k) (fun e2 => ?_) (fun e2 => pk_le (bS B k) (bS B q) (fun e3 => ?_) (fun e3 => ?_))
        · rw [if_pos e2] at P; exact P
        · rw [if_neg e2, if_pos e3] at P; exact P
        · rw [if_neg e2, if_neg (by omega)] at P; exact P
  · refine P0 ?_
    unfold lapO
    rw [if_neg (by omega)]
def bV (o : Option Nat) : Int32 := match o with
  | some k => nI k
  | none => -1
theorem rl_before {s : Nat → Int32} {B : BkA} {q : Nat} {Post : Int32 → Prop} (h : MB s B) (w : WB B) (hq : q ≤ bn B) (P : Post (bV (lastL (bS B) q))) : ∀ (d i : Nat), i + d = q → wl_X9_before_4 s (nI q) Post (d + 1) (bV (lastL (bS B) i)) (nI i) := by
  have hn := w.2.2.1
  intro d
  induction d with
  | zero =>
    intro i hi
    refine pk_le q i (fun _ => ?_) (fun c => absurd c (by omega))
    rw [show i = q by omega]; exact P
  | succ d ih =>
    intro i hi
    have hl : lastL (bS B) (i + 1) = if bS B i < 78 then some i else lastL (bS B) i := rfl
    have := ih (i + 1) (by omega)
    rw [hl] at this
    refine pk_le q i (fun c => absurd c (by omega)) (fun _ => r_isStarred h w (by omega) (fun c => f0 ?_) (fun c => f1 ?_))
    · rw [if_pos c] at this
      rw [nI_add]
      exact this
    · rw [if_neg (by omega)] at this
      rw [nI_add]
      exact this
theorem r_before {s : Nat → Int32} {B : BkA} {q : Nat} {Post : Int32 → Prop} (h : MB s B) (w : WB B) (hq : q ≤ bn B) (P : Post (bV (lastL (bS B) q))) : wp_X9_before s (nI q) Post := ⟨q + 1, rl_before h w hq P q 0 (by omega)⟩
theorem r_isLapse {s : Nat → Int32} {B : BkA} {q : Nat} {Post : Int32 → Prop} (h : MB s B) (w : WB B) (hq : q < bn B) (P0 : lapO B q = none → Post (nI 0)) (P1 : ∀ k, lapO B q = some k → Post (nI 1)) : wp_X9_isLapse s (nI q) Post := by
  have w1 := w.1
  have hn := w.2.2.1
  refine r_isStarred h w hq (fun c => f0 (r_before h w (Nat.le_of_lt hq) ?_)) (fun c => f1 ⟨fun _ => P0 ?_, fun z => absurd (by decide) z⟩)
  · cases hl : lastL (bS B) q with
    | none =>
      refine ⟨fun _ => P0 ?_, fun z => absurd (show (-1 : Int32) < 0 by decide) z⟩
      unfold lapO
      rw [if_pos c, hl]
    | some k =>
      have hk := lastL_some hl
      refine b_neg (n := k) (r_sign h w hq c (r_sign h w (by omega) hk.2 (r_next h w (i := bS B k + 1) (by omega) (nI_add _ _) (nv_eq c (nextA_lt (by omega)) (fun e => P0 ?_) (fun e => P1 k ?_)))))
      · unfold lapO
        rw [if_pos c, hl]
        exact if_pos e
      · unfold lapO
        rw [if_pos c, hl]
        exact if_neg e
  · unfold lapO
    rw [if_neg (by omega)]
theorem rl_between {s : Nat → Int32} {B : BkA} {x y : Nat} {Post : Int32 → Prop} (h : MB s B) (w : WB B) (hy : y ≤ 78) (P : Post (nI (btwN (bal B) x y))) : ∀ (d i : Nat), x + 1 + i + d = y → wl_X9_between_7 s (nI y) Post (d + 1) (nI (sumF (fun i => 1 - bitn (bal B) ((x + 1 + i) % 26)) i)) (nI (x + 1 + i)) := by
  intro d
  induction d with
  | zero =>
    intro i hd
    refine pk_le y (x + 1 + i) (fun _ => ?_) (fun c => absurd c (by omega))
    rw [btwN, show y - (x + 1) = i by omega] at P
    exact P
  | succ d ih =>
    intro i hd
    have hb := bitn_le (bal B) ((x + 1 + i) % 26)
    refine pk_le y (x + 1 + i) (fun c => absurd c (by omega)) (fun _ => ?_)
    rw [pk_rem (by omega) (by decide) (by decide)]
    have := ih (i + 1) (by omega)
    rw [sumF] at this
    refine r_isOut h w (by omega) (b_z (fun q => ?_) (fun q => ?_) (by omega))
    · rintro _ rfl
      rw [nI_add, nI_add]
      rw [q] at this
      exact this
    · rintro _ rfl
      rw [nI_add, nI_add]
      rw [show bitn (bal B) ((x + 1 + i) % 26) = 1 by omega] at this
      exact this
theorem r_between {s : Nat → Int32} {B : BkA} {x y : Nat} {Post : Int32 → Prop} (h : MB s B) (w : WB B) (hx : x < 1000) (hy : y ≤ 78) (P : Post (nI (btwN (bal B) x y))) : wp_X9_between s (nI x) (nI y) Post := by
  unfold wp_X9_between
  rintro _ rfl
  rw [nI_add]
  by_cases c : x + 1 ≤ y
  · exact ⟨_, rl_between h w hy P (y - (x + 1)) 0 (by omega)⟩
  · refine ⟨1, pk_le y (x + 1) (fun _ => ?_) (fun c => absurd c (by omega))⟩
    rw [btwN, show y - (x + 1) = 0 by omega] at P
    exact P
/-- the quire of the m-th lapse from i on -/
def lapF (B : BkA) : Nat → Nat → Nat → Option Nat
  | 0, _, _ => none
  | d + 1, i, m => if lapO B i = none then lapF B d (i + 1) m else if m = 0 then some i else lapF B d (i + 1) (m - 1)
theorem lapF_some {B : BkA} : ∀ {d i m j : Nat}, lapF B d i m = some j → j < i + d ∧ ∃ k, lapO B j = some k
  | 0, i, m, j, h => by cases h
  | d + 1, i, m, j, h => by
    rw [lapF] at h
    by_cases c : lapO B i = none
    · rw [if_pos c] at h
      have := lapF_some h
      exact ⟨by omega, this.2⟩
    · rw [if_neg c] at h
      by_cases e : m = 0
      · rw [if_pos e] at h
        cases h
        refine ⟨by omega, ?_⟩
        cases hl : lapO B i with
        | none => exact absurd hl c
        | some k => exact ⟨k, rfl⟩
      · rw [if_neg e] at h
        have := lapF_some h
        exact ⟨by omega, this.2⟩
theorem xl_quireAt {B : BkA} {r : RowT} {p : Nat} {Post : Int32 → Prop} (w : WB B) (h : RowN 40 (bn B) (bS B) r) (hp : p < 2 ^ 31) : ∀ (d i m c : Nat), i + d = bn B → c + m = p → Post (bV (lapF B d i m)) → wl_X3_quireAt_4 (nI (bal B)) r (nI p) Post (d + 1) (nI c) (nI i) := by
  have hn := w.2.2.1
  intro d
  induction d with
  | zero =>
    intro i m c hi hc P
    exact x_quires h (pk_le (bn B) i (fun _ => P) (fun c => absurd c (by omega)))
  | succ d ih =>
    intro i m c hi hc P
    rw [lapF] at P
    refine x_quires h (pk_le (bn B) i (fun c => absurd c (by omega)) (fun _ => x_kind w h (by omega) (fun e => ⟨fun _ => ?_, fun z => absurd rfl z⟩) (fun k e => ⟨fun z => absurd z (nI_m1 ?_), fun _ => pk_eq c p (fun e2 => ?_) (fun e2 => ?_)⟩)))
    · rw [if_pos e] at P
      rw [nI_add]
      exact ih (i + 1) m c (by omega) hc P
    · unfold kdN
      split
      · decide
      · split <;> decide
    · rw [e, if_neg (by intro z; cases z), if_pos (by omega)] at P
      exact P
    · rw [e, if_neg (by intro z; cases z), if_neg (by omega)] at P
      rw [nI_add c 1, nI_add i 1]
      exact ih (i + 1) (m - 1) (c + 1) (by omega) (by omega) P
theorem rl_lapse {s : Nat → Int32} {B : BkA} {p2 : Int32} {Post : Int32 → Prop} (h : MB s B) (w : WB B) : ∀ (d i m : Nat), i + d = bn B → m < 2 ^ 31 → (lapF B d i m = none → Post (-5)) → (∀ j k, lapF B d i m = some j → j < bn B → lapO B j = some k → wj_X9_lapse_88 s p2 (nI j) (nI (bS B k)) (nI (bS B j)) (nI (kdN B j k)) Post) → wl_X9_lapse_21 s p2 Post (d + 1) (nI m) (nI i) := by
  have hn := w.2.2.1
  intro d
  induction d with
  | zero =>
    intro i m hi hm P0 P1
    exact rd (k := 2) (Q := fun v => (v ≤ nI i → _) ∧ (¬ v ≤ nI i → _)) h.2.2.1 (by decide) (pk_le (bn B) i (fun _ => P0 rfl) (fun c => absurd c (by omega)))
  | succ d ih =>
    intro i m hi hm P0 P1
    rw [lapF] at P0 P1
    refine rd (k := 2) (Q := fun v => (v ≤ nI i → _) ∧ (¬ v ≤ nI i → _)) h.2.2.1 (by decide) (pk_le (bn B) i (fun c => absurd c (by omega)) (fun _ => r_isLapse h w (by omega) (fun e => f0 ?_) (fun k e => f1 (b_z (fun e2 => ?_) (fun e2 => ?_)))))
    · rw [if_pos e] at P0 P1
      rw [nI_add]
      exact ih (i + 1) m (by omega) hm P0 P1
    · rw [e, if_neg (by intro z; cases z), if_pos e2] at P1
      have hl := lap_some e
      have hk := lastL_some hl.2.1
      have P := P1 i k rfl (by omega) e
      refine r_before h w (by omega) ?_
      rw [hl.2.1]
      refine r_sign h w (q := k) (by omega) hk.2 (r_sign h w (q := i) (by omega) hl.1 (pk_eq (bS B k) (bS B i) (fun e3 => ?_) (fun e3 => pk_le (bS B k) (bS B i) (fun e4 => ?_) (fun e4 => ?_))))
      · rw [kdN, if_pos e3.symm] at P; exact P
      · rw [kdN, if_neg (fun z => e3 z.symm), if_pos e4] at P; exact P
      · rw [kdN, if_neg (fun z => e3 z.symm), if_neg (by omega)] at P; exact P
    · rw [e, if_neg (by intro z; cases z), if_neg e2] at P0 P1
      rw [sub1, pk_sub (by omega), nI_add]
      exact ih (i + 1) (m - 1) (by omega) (by omega) P0 P1
theorem op_lapse (σ : St) (x : XS) (y : MS) (hx : XOK σ x) (hm : MOK σ y) (p1 : Int32) (p2 : Int32) : ∃ (r : Int32) (σ2 : St), wx_lapse x p1 p2 (fun r2 x2 => r2 = r ∧ XOK σ2 x2) ∧ wm_lapse y p1 p2 (fun r2 y2 => r2 = r ∧ MOK σ2 y2) := by
  unfold wx_lapse wm_lapse wp_X8_lapse wp_X9_lapse
  obtain ⟨⟨b1, b2, b3, b4, b5, b6⟩, w, hv, _⟩ := id hx
  obtain ⟨mb, _, hh, hst, hk, _⟩ := id hm
  have b1 : x.2.1 = nI (bal σ.1) := b1
  have hn := w.2.2.1
  have w1' := w.1
  by_cases c1 : p1 < 0
  · exact ⟨-2, σ, ⟨fun _ => ⟨rfl, hx⟩, fun z => absurd c1 z⟩, ⟨fun _ => ⟨rfl, hm⟩, fun z => absurd c1 z⟩⟩
  · obtain ⟨p, hp, rfl⟩ := nI_of c1
    rcases rng p2 0 2 (by decide) (by decide) with c | ⟨n, _, hn2, rfl⟩
    · exact ⟨-2, σ, ⟨fun z => absurd z c1, fun _ => out2 c ⟨rfl, hx⟩⟩, ⟨fun z => absurd z c1, fun _ => r_inO c (f0 ⟨rfl, hm⟩)⟩⟩
    · have X0 : ∀ {A : Prop} {Q : Int32 → Prop}, Q (bV (lapF σ.1 (bn σ.1) 0 p)) → (nI p < 0 → A) ∧ (¬ nI p < 0 → ((nI n < 0 → A) ∧ (¬ nI n < 0 → ((nI n ≤ nI 2 → wp_X3_quireAt x.2.1 x.2.2.2.1 (nI p) Q) ∧ (¬ nI n ≤ nI 2 → A))))) := by
        intro A Q P
        rw [b1]
        exact b_neg (b_neg (pk_le n 2 (fun _ => ⟨bn σ.1 + 1, xl_quireAt w b3 hp (bn σ.1) 0 p 0 (by omega) (by omega) P⟩) (fun z => absurd z (by omega))))
      cases hF : lapF σ.1 (bn σ.1) 0 p with
      | none =>
        rw [hF] at X0
        refine ⟨-5, σ, X0 ⟨fun _ => ⟨rfl, hx⟩, fun z => absurd rfl z⟩, ⟨fun z => absurd z c1, fun _ => r_inI (Nat.zero_le n) hn2 (by decide) (f1 ⟨bn σ.1 + 1, rl_lapse mb w (bn σ.1) 0 p (by omega) hp (fun _ => ⟨rfl, hm⟩) (fun j k e => ?_)⟩)⟩⟩
        rw [hF] at e
        cases e
      | some j =>
        rw [hF] at X0
        obtain ⟨hj, k, hL⟩ := lapF_some hF
        have hj : j < bn σ.1 := by omega
        have hl := lap_some hL
        have hk2 := lastL_some hl.2.1
        have M0 : ∀ {Q : Int32 → Prop}, wj_X9_lapse_88 y.1 (nI n) (nI j) (nI (bS σ.1 k)) (nI (bS σ.1 j)) (nI (kdN σ.1 j k)) Q → (nI p < 0 → Q (-2)) ∧ (¬ nI p < 0 → wp_X9_in (nI n) (nI 0) (nI 2) (fun r6 => ((r6 = 0 → Q (-2)) ∧ (¬ r6 = 0 → (∃ k, wl_X9_lapse_21 y.1 (nI n) Q k (nI p) (nI 0)))))) := by
          intro Q P
          refine ⟨fun z => absurd z c1, fun _ => r_inI (Nat.zero_le n) hn2 (by decide) (f1 ⟨bn σ.1 + 1, rl_lapse mb w (bn σ.1) 0 p (by omega) hp (fun e => ?_) (fun j2 k2 e g1 g2 => ?_)⟩)⟩
          · rw [hF] at e; cases e
          · rw [hF] at e
            cases e
            rw [hL] at g2
            cases g2
            exact P
        have K0 : ∀ {Q : Int32 → Prop}, Q (nI (kdN σ.1 j k)) → wp_X3_kind x.2.1 x.2.2.2.1 (nI j) Q := by
          intro Q P
          rw [b1]
          refine x_kind w b3 hj (fun e => ?_) (fun k2 e => ?_)
          · rw [hL] at e; cases e
          · rw [hL] at e; cases e; exact P
        have hm1 := nI_m1 (n := j) (by omega)
        rcases (show n = 0 ∨ n = 1 ∨ n = 2 by omega) with rfl | rfl | rfl
        · exact ⟨nI j, σ, X0 ⟨fun z => absurd z hm1, fun _ => f0 ⟨rfl, hx⟩⟩, M0 (Q := fun r => r = nI j ∧ MOK σ y) (f0 ⟨rfl, hm⟩)⟩
        · exact ⟨nI (kdN σ.1 j k), σ, X0 ⟨fun z => absurd z hm1, fun _ => f1 ⟨fun _ => K0 ⟨rfl, hx⟩, fun z => absurd (by decide) z⟩⟩, M0 (Q := fun r => r = nI (kdN σ.1 j k) ∧ MOK σ y) (f1 ⟨fun _ => ⟨rfl, hm⟩, fun z => absurd rfl z⟩)⟩
        · have n20 : ¬ nI 2 = 0 := by decide
          have n21 : ¬ nI 2 = 1 := by decide
          have n21' : ¬ nI 2 = nI 1 := by decide
          refine ⟨nI (btwN (bal σ.1) (bS σ.1 k) (bS σ.1 j)), σ, X0 ⟨fun z => absurd z hm1, fun _ => ⟨fun z => absurd z n20, fun _ => ⟨fun z => absurd z n21, fun _ => K0 ?_⟩⟩⟩, M0 (Q := fun r => r = nI (btwN (bal σ.1) (bS σ.1 k) (bS σ.1 j)) ∧ MOK σ y) ⟨fun z => absurd z n20, fun _ => ⟨fun z => absurd z n21', fun _ => r_between mb w (by omega) (by omega) ⟨rfl, hm⟩⟩⟩⟩
          have hkd : kdN σ.1 j k < 3 := by
            unfold kdN
            split
            · decide
            · split <;> decide
          refine pk_eq (kdN σ.1 j k) 2 (fun e => x_lastLettersAhead w b3 (Nat.le_of_lt hj) (s_at b3 j hj ?_)) (fun e => ⟨?_, hx⟩)
          · rw [hl.2.1, b1]
            exact x_signsBetween (by omega) (by omega) (by omega) ⟨rfl, hx⟩
          · have : bS σ.1 j ≤ bS σ.1 k := by
              unfold kdN at e
              by_cases e1 : bS σ.1 j = bS σ.1 k
              · omega
              · rw [if_neg e1] at e
                by_cases e2 : bS σ.1 k ≤ bS σ.1 j
                · rw [if_pos e2] at e; exact absurd rfl e
                · omega
            rw [btwN, show bS σ.1 j - (bS σ.1 k + 1) = 0 by omega]
            rfl
/-- how many lapses -/
def lpN (B : BkA) : Nat := sumF (fun i => if lapO B i = none then 0 else 1) (bn B)
theorem xl_number {B : BkA} {r : RowT} {Post : Int32 → Prop} (w : WB B) (h : RowN 40 (bn B) (bS B) r) (P : Post (nI (lpN B))) : ∀ (d i : Nat), i + d = bn B → wl_X3_number_4 (nI (bal B)) r Post (d + 1) (nI (sumF (fun i => if lapO B i = none then 0 else 1) i)) (nI i) := by
  have hn := w.2.2.1
  intro d
  induction d with
  | zero =>
    intro i hi
    refine x_quires h (pk_le (bn B) i (fun _ => ?_) (fun c => absurd c (by omega)))
    rw [show i = bn B by omega]; exact P
  | succ d ih =>
    intro i hi
    have := ih (i + 1) (by omega)
    rw [sumF] at this
    refine x_quires h (pk_le (bn B) i (fun c => absurd c (by omega)) (fun _ => x_kind w h (by omega) (fun e => ⟨fun _ => ?_, fun z => absurd rfl z⟩) (fun k e => ⟨fun z => absurd z (nI_m1 ?_), fun _ => ?_⟩)))
    · rw [if_pos e] at this
      rw [nI_add]
      exact this
    · unfold kdN
      split
      · decide
      · split <;> decide
    · rw [e, if_neg (by intro z; cases z)] at this
      rw [nI_add _ 1, nI_add i 1]
      exact this
theorem rl_lapses {s : Nat → Int32} {B : BkA} {Post : Int32 → Prop} (h : MB s B) (w : WB B) (P : Post (nI (lpN B))) : ∀ (d i : Nat), i + d = bn B → wl_X9_lapses_4 s Post (d + 1) (nI (sumF (fun i => if lapO B i = none then 0 else 1) i)) (nI i) := by
  have hn := w.2.2.1
  intro d
  induction d with
  | zero =>
    intro i hi
    refine rd (k := 2) (Q := fun v => (v ≤ nI i → _) ∧ (¬ v ≤ nI i → _)) h.2.2.1 (by decide) (pk_le (bn B) i (fun _ => ?_) (fun c => absurd c (by omega)))
    rw [show i = bn B by omega]; exact P
  | succ d ih =>
    intro i hi
    have := ih (i + 1) (by omega)
    rw [sumF] at this
    refine rd (k := 2) (Q := fun v => (v ≤ nI i → _) ∧ (¬ v ≤ nI i → _)) h.2.2.1 (by decide) (pk_le (bn B) i (fun c => absurd c (by omega)) (fun _ => r_isLapse h w (by omega) (fun e => f0 ?_) (fun k e => f1 ?_)))
    · rw [if_pos e] at this
      rintro _ rfl
      rw [nI_add _ 0, nI_add i 1]
      exact this
    · rw [e, if_neg (by intro z; cases z)] at this
      rintro _ rfl
      rw [nI_add _ 1, nI_add i 1]
      exact this
