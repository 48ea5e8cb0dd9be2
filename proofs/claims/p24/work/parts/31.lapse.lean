set_option maxHeartbeats 400000
def lapO (B : BkA) (q : Nat) : Option Nat := if bS B q < 78 then (match lastL (bS B) q with
  | none => none
  | some k => if bS B q = nextA (bal B) (bS B k + 1) then none else some k) else none
def kdN (B : BkA) (q k : Nat) : Nat := if bS B q = bS B k then 0 else if bS B k ≤ bS B q then 2 else 1
theorem nv_eq {a k : Nat} {A C : Prop} (ha : a < 78) (hk : k < 1000) (f : a = k → A) (g : a ≠ k → C) : (nI a = nv k → A) ∧ (¬ nI a = nv k → C) := by
  unfold nv
  by_cases c : k < 78
  · rw [if_pos c]; exact pk_eq a k f g
  · rw [if_neg c]
    exact ⟨fun z => absurd z (nI_m1 (by omega)), fun _ => g (by omega)⟩
theorem nextA_lt {a s : Nat} (h : s ≤ 79) : nextA a s < 1000 := by
  have := nxt_le a (78 - s) s
  unfold nextA
  omega
theorem lap_some {B : BkA} {q k : Nat} (h : lapO B q = some k) : bS B q < 78 ∧ lastL (bS B) q = some k ∧ bS B q ≠ nextA (bal B) (bS B k + 1) := by
  unfold lapO at h
  by_cases c : bS B q < 78
  · rw [if_pos c] at h
    cases hl : lastL (bS B) q with
    | none => rw [hl] at h; cases h
    | some k2 =>
      rw [hl] at h
      dsimp only at h
      by_cases e : bS B q = nextA (bal B) (bS B k2 + 1)
      · rw [if_pos e] at h; cases h
      · rw [if_neg e] at h
        cases h
        exact ⟨c, rfl, e⟩
  · rw [if_neg c] at h; cases h
theorem x_kind {B : BkA} {r : RowT} {q : Nat} {Post : Int32 → Prop} (w : WB B) (h : RowN 40 (bn B) (bS B) r) (hq : q < bn B) (P0 : lapO B q = none → Post (-1)) (P1 : ∀ k, lapO B q = some k → Post (nI (kdN B q k))) : wp_X3_kind (nI (bal B)) r (nI q) Post := by
  have hS := w.2.2.2.1 q hq
  have w1 := w.1
  refine s_at h q hq (x_lastLettersAhead w h (Nat.le_of_lt hq) (x_isStarred (by omega) (fun c => f0 ?_) (fun c => f1 ?_)))
  · cases hl : lastL (bS B) q with
    | none =>
      refine ⟨fun _ => P0 ?_, fun z => absurd rfl z⟩
      unfold lapO
      rw [if_pos c, hl]
    | some k =>
      have hk := (lastL_some hl).2
      refine ⟨fun z => absurd z (nI_m1 (by omega)), fun _ => x_nextSign (s := bS B k + 1) (by omega) (by omega) (nI_add _ _) (nv_eq c (nextA_lt (by omega)) (fun e => P0 ?_) (fun e => ?_))⟩
      · unfold lapO
        rw [if_pos c, hl]
        exact if_pos e
      · have hL : lapO B q = some k := by
          unfold lapO
          rw [if_pos c, hl]
          exact if_neg e
        have P := P1 k hL
        unfold kdN at P
        refine pk_eq (bS B q) (bS B k) (fun e2 => ?_) (fun e2 => pk_le (bS B k) (bS B q) (fun e3 => ?_) (fun e3 => ?_))
        · rw [if_pos e2] at P; exact P
        · rw [if_neg e2, if_pos e3] at P; exact P
        · rw [if_neg e2, if_neg (by omega)] at P; exact P
  · refine P0 ?_
    unfold lapO
    rw [if_neg (by omega)]
def bV (o : Option Nat) : Int32 := match o with
  | some k => nI k
  | none => -1
/-- the quire of the m-th lapse from i on -/
def lapF (B : BkA) : Nat → Nat → Nat → Option Nat
  | 0, _, _ => none
  | d + 1, i, m => if lapO B i = none then lapF B d (i + 1) m else if m = 0 then some i else lapF B d (i + 1) (m - 1)
theorem lapF_some {B : BkA} : ∀ {d i m j : Nat}, lapF B d i m = some j → j < i + d ∧ ∃ k, lapO B j = some k
  | 0, i, m, j, h => by cases h
  | d + 1, i, m, j, h => by
    rw [lapF] at h
    by_cases c : lapO B i = none
    · rw [if_pos c] at h
      have := lapF_some h
      exact ⟨by omega, this.2⟩
    · rw [if_neg c] at h
      by_cases e : m = 0
      · rw [if_pos e] at h
        cases h
        refine ⟨by omega, ?_⟩
        cases hl : lapO B i with
        | none => exact absurd hl c
        | some k => exact ⟨k, rfl⟩
      · rw [if_neg e] at h
        have := lapF_some h
        exact ⟨by omega, this.2⟩
theorem xl_quireAt {B : BkA} {r : RowT} {p : Nat} {Post : Int32 → Prop} (w : WB B) (h : RowN 40 (bn B) (bS B) r) (hp : p < 2 ^ 31) : ∀ (d i m c : Nat), i + d = bn B → c + m = p → Post (bV (lapF B d i m)) → wl_X3_quireAt_4 (nI (bal B)) r (nI p) Post (d + 1) (nI c) (nI i) := by
  have hn := w.2.2.1
  intro d
  induction d with
  | zero =>
    intro i m c hi hc P
    exact x_quires h (pk_le (bn B) i (fun _ => P) (fun c => absurd c (by omega)))
  | succ d ih =>
    intro i m c hi hc P
    rw [lapF] at P
    refine x_quires h (pk_le (bn B) i (fun c => absurd c (by omega)) (fun _ => x_kind w h (by omega) (fun e => ⟨fun _ => ?_, fun z => absurd rfl z⟩) (fun k e => ⟨fun z => absurd z (nI_m1 ?_), fun _ => pk_eq c p (fun e2 => ?_) (fun e2 => ?_)⟩)))
    · rw [if_pos e] at P
      rw [nI_add]
      exact ih (i + 1) m c (by omega) hc P
    · unfold kdN
      split
      · decide
      · split <;> decide
    · rw [e, if_neg (by intro z; cases z), if_pos (by omega)] at P
      exact P
    · rw [e, if_neg (by intro z; cases z), if_neg (by omega)] at P
      rw [nI_add c 1, nI_add i 1]
      exact ih (i + 1) (m - 1) (c + 1) (by omega) (by omega) P
/-- how many lapses -/
def lpN (B : BkA) : Nat := sumF (fun i => if lapO B i = none then 0 else 1) (bn B)
theorem xl_number {B : BkA} {r : RowT} {Post : Int32 → Prop} (w : WB B) (h : RowN 40 (bn B) (bS B) r) (P : Post (nI (lpN B))) : ∀ (d i : Nat), i + d = bn B → wl_X3_number_4 (nI (bal B)) r Post (d + 1) (nI (sumF (fun i => if lapO B i = none then 0 else 1) i)) (nI i) := by
  have hn := w.2.2.1
  intro d
  induction d with
  | zero =>
    intro i hi
    refine x_quires h (pk_le (bn B) i (fun _ => ?_) (fun c => absurd c (by omega)))
    rw [show i = bn B by omega]; exact P
  | succ d ih =>
    intro i hi
    have := ih (i + 1) (by omega)
    rw [sumF] at this
    refine x_quires h (pk_le (bn B) i (fun c => absurd c (by omega)) (fun _ => x_kind w h (by omega) (fun e => ⟨fun _ => ?_, fun z => absurd rfl z⟩) (fun k e => ⟨fun z => absurd z (nI_m1 ?_), fun _ => ?_⟩)))
    · rw [if_pos e] at this
      rw [nI_add]
      exact this
    · unfold kdN
      split
      · decide
      · split <;> decide
    · rw [e, if_neg (by intro z; cases z)] at this
      rw [nI_add _ 1, nI_add i 1]
      exact this
