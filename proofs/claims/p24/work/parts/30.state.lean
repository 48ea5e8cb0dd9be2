set_option maxHeartbeats 400000
/-! what the object holds: the book, the states (the oldest first), the kept book, the text -/
abbrev St : Type := BkA × Nat × (Nat → BkA) × Nat × BkA × Nat × (Nat → Nat)
def AnyR (cap : Nat) (r : RowT) : Prop := ∃ n f, RowN cap n f r
def XOK (σ : St) (x : XS) : Prop := XB (x.2.1, x.2.2.1, x.2.2.2.1, x.2.2.2.2.1, x.2.2.2.2.2.1, x.2.2.2.2.2.2.1) σ.1 ∧ WB σ.1 ∧ HX x.2.2.2.2.2.2.2.2.2.2.2.2.2.1 σ.2.2.1 σ.2.1 ∧ x.1 = nI σ.2.2.2.1 ∧ σ.2.2.2.1 ≤ 1
  ∧ (∃ B, XB (x.2.2.2.2.2.2.2.1, x.2.2.2.2.2.2.2.2.1, x.2.2.2.2.2.2.2.2.2.1, x.2.2.2.2.2.2.2.2.2.2.1, x.2.2.2.2.2.2.2.2.2.2.2.1, x.2.2.2.2.2.2.2.2.2.2.2.2.1) B)
  ∧ (σ.2.2.2.1 = 1 → XB (x.2.2.2.2.2.2.2.1, x.2.2.2.2.2.2.2.2.1, x.2.2.2.2.2.2.2.2.2.1, x.2.2.2.2.2.2.2.2.2.2.1, x.2.2.2.2.2.2.2.2.2.2.2.1, x.2.2.2.2.2.2.2.2.2.2.2.2.1) σ.2.2.2.2.1 ∧ WB σ.2.2.2.2.1)
  ∧ RowN 60 σ.2.2.2.2.2.1 σ.2.2.2.2.2.2 x.2.2.2.2.2.2.2.2.2.2.2.2.2.2.1 ∧ (∀ j, j < σ.2.2.2.2.2.1 → σ.2.2.2.2.2.2 j < 65536)
  ∧ AnyR 20 x.2.2.2.2.2.2.2.2.2.2.2.2.2.2.2.1 ∧ AnyR 20 x.2.2.2.2.2.2.2.2.2.2.2.2.2.2.2.2.1 ∧ AnyR 20 x.2.2.2.2.2.2.2.2.2.2.2.2.2.2.2.2.2.1 ∧ x.2.2.2.2.2.2.2.2.2.2.2.2.2.2.2.2.2.2.2.1 = 0
  ∧ AnyR 320 x.2.2.2.2.2.2.2.2.2.2.2.2.2.2.2.2.2.2.2.2.1 ∧ AnyR 20 x.2.2.2.2.2.2.2.2.2.2.2.2.2.2.2.2.2.2.2.2.2.2
def B00 : BkA := (6291968, 1, 0, fun _ => 0, fun _ => 0, fun _ => 0, 0, fun _ => 0)
def s00 : St := (B00, 0, fun _ => B00, 0, B00, 0, fun _ => 0)
theorem wb00 : WB B00 := ⟨by decide, by decide, by decide, fun j hj => absurd hj (Nat.not_lt_zero _), fun j hj => absurd hj (Nat.not_lt_zero _), fun j hj => absurd hj (Nat.not_lt_zero _), by decide, fun i j _ hj => absurd hj (Nat.not_lt_zero _), fun j hj => absurd hj (Nat.not_lt_zero _)⟩
theorem xb00 : XB (6291968, 1, (40, (fun _ => 0), 0), (40, (fun _ => 0), 0), (40, (fun _ => 0), 0), (12, (fun _ => 0), 0)) B00 :=
  ⟨by decide, by decide, row0_ok _ (by decide), row0_ok _ (by decide), row0_ok _ (by decide), row0_ok _ (by decide)⟩
theorem anyR0 {cap : Nat} (h : cap ≤ 1000) : AnyR cap (cap, (fun _ => 0), 0) := ⟨0, fun _ => 0, row0_ok _ h⟩
theorem xok0 : XOK s00 x00 :=
  ⟨xb00, wb00, ⟨nI_0.symm, by decide, fun i hi => absurd hi (Nat.not_lt_zero _), fun i _ => ⟨B00, xb00⟩⟩, nI_0.symm, by decide, ⟨B00, xb00⟩, fun z => absurd z (by decide), row0_ok _ (by decide), fun j hj => absurd hj (Nat.not_lt_zero _), anyR0 (by decide), anyR0 (by decide), anyR0 (by decide), rfl, anyR0 (by decide), anyR0 (by decide)⟩
/-- the state behind an act -/
abbrev actS (σ : St) (B : BkA) : St := (B, min (σ.2.1 + 1) 4, recS σ.2.2.1 σ.2.1 σ.1, σ.2.2.2)
theorem xAct {σ : St} {B : BkA} {x0 : Int32} {al sg al2 sg2 c1 c2 : Int32} {r1 r2 r3 r4 q1 q2 q3 q4 d1 d2 d3 d4 : RowT} {v v2 : HistT} {t1 t2 t3 t4 w1 fo : RowT} {at1 ta wc : Int32}
    (h : XOK σ (x0, al, sg, r1, r2, r3, r4, c1, c2, d1, d2, d3, d4, v, t1, t2, t3, t4, at1, ta, w1, wc, fo)) (w : WB B) (hb : XB (al2, sg2, q1, q2, q3, q4) B) (hv : HX v2 (recS σ.2.2.1 σ.2.1 σ.1) (min (σ.2.1 + 1) 4)) :
    XOK (actS σ B) (x0, al2, sg2, q1, q2, q3, q4, c1, c2, d1, d2, d3, d4, v2, t1, t2, t3, t4, at1, ta, w1, wc, fo) := by
  obtain ⟨_, _, _, h4⟩ := h
  exact ⟨hb, w, hv, h4⟩
theorem char_ex (p : Int32) : ∃ ch, ch < 65536 ∧ cI p = nI ch := ⟨_, Nat.mod_lt _ (by decide), pk_char p⟩
theorem rng (p : Int32) (lo hi : Nat) (h1 : lo < 2 ^ 30) (h2 : hi < 2 ^ 30) : (p < nI lo ∨ nI hi < p) ∨ ∃ n, lo ≤ n ∧ n ≤ hi ∧ p = nI n := by
  rcases pk_ix p (n := hi + 1) (by omega) with c | c | ⟨j, hj, rfl⟩
  · left; left
    rw [Int32.lt_iff_toInt_lt] at c ⊢
    rw [nI_toInt (by omega)]
    have : (0 : Int32).toInt = 0 := rfl
    omega
  · left; right
    rw [Int32.le_iff_toInt_le, nI_toInt (by omega)] at c
    rw [Int32.lt_iff_toInt_lt, nI_toInt (by omega)]
    omega
  · by_cases q : lo ≤ j
    · right; exact ⟨j, q, by omega, rfl⟩
    · left; left; exact (nI_ltI (by omega) (by omega)).mpr (by omega)
theorem out2 {p : Int32} {hi : Nat} {A B : Prop} (c : p < nI 0 ∨ nI hi < p) (a : A) : (p < 0 → A) ∧ (¬ p < 0 → ((p ≤ nI hi → B) ∧ (¬ p ≤ nI hi → A))) :=
  ⟨fun _ => a, fun z => ⟨fun z2 => absurd c (fun q => q.elim (fun q => z (by rw [nI_0] at q; exact q)) (fun q => absurd z2 (Int32.not_le.mpr q))), fun _ => a⟩⟩
theorem f0 {A B : Prop} (a : A) : (nI 0 = 0 → A) ∧ (¬ nI 0 = 0 → B) := ⟨fun _ => a, fun z => absurd nI_0 z⟩
theorem f1 {A B : Prop} (b : B) : (nI 1 = 0 → A) ∧ (¬ nI 1 = 0 → B) := ⟨fun z => absurd z (by decide), fun _ => b⟩
theorem x_become {a1 a2 o1 o2 : Int32} {a3 a4 a5 a6 o3 o4 o5 o6 : RowT} {B0 B : BkA} {Post : Int32 → Int32 → RowT → RowT → RowT → RowT → Prop} (w : WB B) (hz : XB (a1, a2, a3, a4, a5, a6) B0) (ho : XB (o1, o2, o3, o4, o5, o6) B) (P : ∀ a b c d e f, XB (a, b, c, d, e, f) B → Post a b c d e f) : wp_X1_become a1 a2 a3 a4 a5 a6 o1 o2 o3 o4 o5 o6 Post :=
  x_bookBecome (z := (a1, a2, a3, a4, a5, a6)) (o := (o1, o2, o3, o4, o5, o6)) (Post := fun b => Post b.1 b.2.1 b.2.2.1 b.2.2.2.1 b.2.2.2.2.1 b.2.2.2.2.2) w hz ho (fun b hb => P _ _ _ _ _ _ hb)
def shN (p z : Nat) : Nat := (z + p - 1) / p
theorem xl_sheets {B : BkA} {r r2 : RowT} {p : Nat} {Post : Int32 → Prop} (w : WB B) (h : RowN 40 (bn B) (bS B) r) (h2 : RowN 40 (bn B) (bZ B) r2) (hp : 1 ≤ p) (hp2 : p ≤ 12) (P : Post (nI (sumF (fun j => shN p (bZ B j)) (bn B)))) : ∀ (d i : Nat), i + d = bn B → wl_X8_sheets_29 r r2 (nI p) Post (d + 1) (nI (sumF (fun j => shN p (bZ B j)) i)) (nI i) := by
  have hn := w.2.2.1
  intro d
  induction d with
  | zero =>
    intro i hi
    refine x_quires h (pk_le (bn B) i (fun _ => ?_) (fun c => absurd c (by omega)))
    rw [show i = bn B by omega]; exact P
  | succ d ih =>
    intro i hi
    have hz := w.2.2.2.2.1 i (by omega)
    refine x_quires h (pk_le (bn B) i (fun c => absurd c (by omega)) (fun _ => s_at h2 i (by omega) ⟨fun z => absurd ((nI_z (by omega)).mp z) (by omega), ?_⟩))
    rintro _ rfl
    rw [nI_add, nI_add, pk_sub (by omega), pk_div (by omega) (by omega) (by omega), nI_add]
    exact ih (i + 1) (by omega)
theorem x_size {n : Nat} {Post : Int32 → Prop} (h1 : 1 ≤ n) (h2 : n ≤ 24) (P : Post (nI 1)) : wp_X8_isQuireSize (nI n) Post := pk_lt n 1 (fun z => absurd z (by omega)) (fun _ => pk_lt 24 n (fun z => absurd z (by omega)) (fun _ => P))
theorem x_sizeO {p : Int32} {Post : Int32 → Prop} (c : p < nI 1 ∨ nI 24 < p) (P : Post (nI 0)) : wp_X8_isQuireSize p Post := ⟨fun _ => P, fun z => ⟨fun _ => P, fun z2 => absurd c (fun q => q.elim z z2)⟩⟩
def lastA (S : Nat → Nat) (o : Option Nat) : Nat := match o with
  | some k => S k + 1
  | none => 0
theorem lastA_ok (S : Nat → Nat) : ∀ (o : Option Nat), lastV S o + nI 1 = nI (lastA S o)
  | some k => nI_add _ _
  | none => m1_add
theorem lastA_le {S : Nat → Nat} {q : Nat} : lastA S (lastL S q) ≤ 78 := by
  cases h : lastL S q with
  | none => exact Nat.zero_le _
  | some k => exact (lastL_some h).2
