set_option maxHeartbeats 200000
/-! what the two hold in common: the book, the states (the oldest first), the kept book, the text -/
abbrev St : Type := BkA × Nat × (Nat → BkA) × Nat × BkA × Nat × (Nat → Nat)
def AnyR (cap : Nat) (r : RowT) : Prop := ∃ n f, RowN cap n f r
def XOK (σ : St) (x : XS) : Prop := XB (x.2.1, x.2.2.1, x.2.2.2.1, x.2.2.2.2.1, x.2.2.2.2.2.1, x.2.2.2.2.2.2.1) σ.1 ∧ WB σ.1 ∧ HX x.2.2.2.2.2.2.2.2.2.2.2.2.2.1 σ.2.2.1 σ.2.1 ∧ x.1 = nI σ.2.2.2.1 ∧ σ.2.2.2.1 ≤ 1
  ∧ (∃ B, XB (x.2.2.2.2.2.2.2.1, x.2.2.2.2.2.2.2.2.1, x.2.2.2.2.2.2.2.2.2.1, x.2.2.2.2.2.2.2.2.2.2.1, x.2.2.2.2.2.2.2.2.2.2.2.1, x.2.2.2.2.2.2.2.2.2.2.2.2.1) B)
  ∧ (σ.2.2.2.1 = 1 → XB (x.2.2.2.2.2.2.2.1, x.2.2.2.2.2.2.2.2.1, x.2.2.2.2.2.2.2.2.2.1, x.2.2.2.2.2.2.2.2.2.2.1, x.2.2.2.2.2.2.2.2.2.2.2.1, x.2.2.2.2.2.2.2.2.2.2.2.2.1) σ.2.2.2.2.1 ∧ WB σ.2.2.2.2.1)
  ∧ RowN 60 σ.2.2.2.2.2.1 σ.2.2.2.2.2.2 x.2.2.2.2.2.2.2.2.2.2.2.2.2.2.1 ∧ (∀ j, j < σ.2.2.2.2.2.1 → σ.2.2.2.2.2.2 j < 65536)
  ∧ AnyR 20 x.2.2.2.2.2.2.2.2.2.2.2.2.2.2.2.1 ∧ AnyR 20 x.2.2.2.2.2.2.2.2.2.2.2.2.2.2.2.2.1 ∧ AnyR 20 x.2.2.2.2.2.2.2.2.2.2.2.2.2.2.2.2.2.1 ∧ x.2.2.2.2.2.2.2.2.2.2.2.2.2.2.2.2.2.2.2.1 = 0
  ∧ AnyR 320 x.2.2.2.2.2.2.2.2.2.2.2.2.2.2.2.2.2.2.2.2.1 ∧ AnyR 20 x.2.2.2.2.2.2.2.2.2.2.2.2.2.2.2.2.2.2.2.2.2.2
def MOK (σ : St) (y : MS) : Prop := MB y.1 σ.1 ∧ WB σ.1 ∧ HM y.1 σ.2.2.1 σ.2.1 ∧ y.2.2.2.2.1 = nI σ.2.1 ∧ σ.2.1 ≤ 4 ∧ y.2.2.2.2.2.1 = nI σ.2.2.2.1 ∧ σ.2.2.2.1 ≤ 1
  ∧ (σ.2.2.2.1 = 1 → MB (fun x => y.1 (880 + x)) σ.2.2.2.2.1 ∧ WB σ.2.2.2.2.1) ∧ y.2.2.2.2.2.2.1 = nI σ.2.2.2.2.2.1 ∧ σ.2.2.2.2.2.1 ≤ 60 ∧ (∀ j, j < σ.2.2.2.2.2.1 → y.2.1 j = nI (σ.2.2.2.2.2.2 j) ∧ σ.2.2.2.2.2.2 j < 65536)
def B00 : BkA := (6291968, 1, 0, fun _ => 0, fun _ => 0, fun _ => 0, 0, fun _ => 0)
def s00 : St := (B00, 0, fun _ => B00, 0, B00, 0, fun _ => 0)
theorem wb00 : WB B00 := ⟨by decide, by decide, by decide, fun j hj => absurd hj (Nat.not_lt_zero _), fun j hj => absurd hj (Nat.not_lt_zero _), fun j hj => absurd hj (Nat.not_lt_zero _), by decide, fun i j _ hj => absurd hj (Nat.not_lt_zero _), fun j hj => absurd hj (Nat.not_lt_zero _)⟩
theorem xb00 : XB (6291968, 1, (40, (fun _ => 0), 0), (40, (fun _ => 0), 0), (40, (fun _ => 0), 0), (12, (fun _ => 0), 0)) B00 :=
  ⟨by decide, by decide, row0_ok _ (by decide), row0_ok _ (by decide), row0_ok _ (by decide), row0_ok _ (by decide)⟩
theorem anyR0 {cap : Nat} (h : cap ≤ 1000) : AnyR cap (cap, (fun _ => 0), 0) := ⟨0, fun _ => 0, row0_ok _ h⟩
theorem xok0 : XOK s00 x00 :=
  ⟨xb00, wb00, ⟨nI_0.symm, by decide, fun i hi => absurd hi (Nat.not_lt_zero _), fun i _ => ⟨B00, xb00⟩⟩, nI_0.symm, by decide, ⟨B00, xb00⟩, fun z => absurd z (by decide), row0_ok _ (by decide), fun j hj => absurd hj (Nat.not_lt_zero _), anyR0 (by decide), anyR0 (by decide), anyR0 (by decide), rfl, anyR0 (by decide), anyR0 (by decide)⟩
theorem mok0 : MOK s00 m00 :=
  ⟨⟨by decide, by decide, by decide, fun j hj => absurd hj (Nat.not_lt_zero _), by decide, fun j hj => absurd hj (Nat.not_lt_zero _), fun j hj => absurd hj (Nat.not_lt_zero _)⟩, wb00, fun i hi => absurd hi (Nat.not_lt_zero _), nI_0.symm, by decide, nI_0.symm, by decide, fun z => absurd z (by decide), nI_0.symm, by decide, fun j hj => absurd hj (Nat.not_lt_zero _)⟩
/-- the state behind an act -/
abbrev actS (σ : St) (B : BkA) : St := (B, min (σ.2.1 + 1) 4, recS σ.2.2.1 σ.2.1 σ.1, σ.2.2.2)
theorem xAct {σ : St} {B : BkA} {x0 : Int32} {al sg al2 sg2 c1 c2 : Int32} {r1 r2 r3 r4 q1 q2 q3 q4 d1 d2 d3 d4 : RowT} {v v2 : HistT} {t1 t2 t3 t4 w1 fo : RowT} {at1 ta wc : Int32}
    (h : XOK σ (x0, al, sg, r1, r2, r3, r4, c1, c2, d1, d2, d3, d4, v, t1, t2, t3, t4, at1, ta, w1, wc, fo)) (w : WB B) (hb : XB (al2, sg2, q1, q2, q3, q4) B) (hv : HX v2 (recS σ.2.2.1 σ.2.1 σ.1) (min (σ.2.1 + 1) 4)) :
    XOK (actS σ B) (x0, al2, sg2, q1, q2, q3, q4, c1, c2, d1, d2, d3, d4, v2, t1, t2, t3, t4, at1, ta, w1, wc, fo) := by
  obtain ⟨_, _, _, h4⟩ := h
  exact ⟨hb, w, hv, h4⟩
theorem mAct {σ : St} {B : BkA} {s t t2 tx to fo fo2 to2 : Nat → Int32} {st ik ty a1 a2 a3 a4 a5 a6 a7 b1 b2 b3 b4 b5 b6 b7 : Int32} (h : MOK σ (s, tx, to, fo, st, ik, ty, a1, a2, a3, a4, a5, a6, a7)) (w : WB B)
    (hm : HM t (recS σ.2.2.1 σ.2.1 σ.1) (min (σ.2.1 + 1) 4)) (hx : ∀ x, x < 176 → t (880 + x) = s (880 + x)) (e : ∀ i, 176 ≤ i → t2 i = t i) (hb : MB t2 B) :
    MOK (actS σ B) (t2, tx, to2, fo2, nI (min (σ.2.1 + 1) 4), ik, ty, b1, b2, b3, b4, b5, b6, b7) := by
  obtain ⟨h1, h2, h3, h4, h5, h6, h7, h8, h9⟩ := h
  refine ⟨hb, w, hm.frame e, rfl, by show min (σ.2.1 + 1) 4 ≤ 4; omega, h6, h7, fun z => ⟨(h8 z).1.congr (h8 z).2 (fun x hx2 => ?_), (h8 z).2⟩, h9⟩
  show t2 (880 + x) = s (880 + x)
  rw [e _ (by omega), hx x hx2]
theorem char_ex (p : Int32) : ∃ ch, ch < 65536 ∧ cI p = nI ch := ⟨_, Nat.mod_lt _ (by decide), pk_char p⟩
theorem op_type (σ : St) (x : XS) (y : MS) (hx : XOK σ x) (hm : MOK σ y) (p1 : Int32) : ∃ (r : Int32) (σ2 : St), wx_type x (cI p1) (fun r2 x2 => r2 = r ∧ XOK σ2 x2) ∧ wm_type y (cI p1) (fun r2 y2 => r2 = r ∧ MOK σ2 y2) := by
  have e2 : vp_nar .char (cI p1) = cI p1 := pk_vc p1
  obtain ⟨ch, hc, e1⟩ := char_ex p1
  generalize cI p1 = z at e1 e2 ⊢
  subst e1
  obtain ⟨n, hn⟩ : ∃ n, n = σ.2.2.2.2.2.1 := ⟨_, rfl⟩
  obtain ⟨x1, x2, x3, x4, x5, x6, x7, x8, x9, x10⟩ := hx
  obtain ⟨y1, y2, y3, y4, y5, y6, y7, y8, y9, y10, y11⟩ := hm
  rw [← hn] at x8 x9 y9 y10 y11
  by_cases c : n = 60
  · refine ⟨-3, σ, s_length x8 (pk_lt n 60 (fun z => absurd z (by omega)) (fun _ => ⟨rfl, ⟨x1, x2, x3, x4, x5, x6, x7, hn ▸ x8, hn ▸ x9, x10⟩⟩)), ⟨fun _ => ⟨rfl, ⟨y1, y2, y3, y4, y5, y6, y7, y8, hn ▸ y9, hn ▸ y10, hn ▸ y11⟩⟩, fun z => absurd (y9.trans (by rw [c])) z⟩⟩
  · refine ⟨nI (n + 1), (σ.1, σ.2.1, σ.2.2.1, σ.2.2.2.1, σ.2.2.2.2.1, n + 1, insF σ.2.2.2.2.2.2 n ch), ?_, ?_⟩
    · refine s_length x8 (pk_lt n 60 (fun _ => ?_) (fun z => absurd z (by omega)))
      refine s_add x8 (by omega) (fun r2 g => s_length g ⟨rfl, ⟨x1, x2, x3, x4, x5, x6, x7, g, fun j hj => ?_, x10⟩⟩)
      have hj : j < n + 1 := hj
      show insF σ.2.2.2.2.2.2 n ch j < 65536
      unfold insF
      by_cases q1 : j < n
      · rw [if_pos q1]; exact x9 j q1
      · rw [if_neg q1, if_pos (by omega)]; exact hc
    · refine ⟨fun z => absurd ((nI_eq (by omega) (by decide)).mp (y9.symm.trans z)) c, fun _ => ?_⟩
      show vp_in y.2.2.2.2.2.2.1 60 ∧ (y.2.2.2.2.2.2.1 + nI 1 = nI (n + 1) ∧ MOK _ _)
      rw [e2, y9, nI_add, nI_clamp (by omega)]
      refine ⟨vp_in_nI (by omega) (by decide), rfl, ⟨y1, y2, y3, y4, y5, y6, y7, y8, rfl, (by show n + 1 ≤ 60; omega), fun j hj => ?_⟩⟩
      have hj : j < n + 1 := hj
      show upd y.2.1 n (nI ch) j = nI (insF σ.2.2.2.2.2.2 n ch j) ∧ insF σ.2.2.2.2.2.2 n ch j < 65536
      unfold insF upd
      by_cases q1 : j < n
      · rw [if_neg (by omega), if_pos q1]; exact y11 j q1
      · rw [if_pos (by omega), if_neg q1, if_pos (by omega)]; exact ⟨rfl, hc⟩
theorem op_clearText (σ : St) (x : XS) (y : MS) (hx : XOK σ x) (hm : MOK σ y) : ∃ (r : Int32) (σ2 : St), wx_clearText x (fun r2 x2 => r2 = r ∧ XOK σ2 x2) ∧ wm_clearText y (fun r2 y2 => r2 = r ∧ MOK σ2 y2) := by
  obtain ⟨x1, x2, x3, x4, x5, x6, x7, x8, x9, x10⟩ := hx
  obtain ⟨y1, y2, y3, y4, y5, y6, y7, y8, y9, y10, y11⟩ := hm
  exact ⟨nI σ.2.2.2.2.2.1, (σ.1, σ.2.1, σ.2.2.1, σ.2.2.2.1, σ.2.2.2.2.1, 0, σ.2.2.2.2.2.2),
    s_length x8 (s_empty x8 (fun r2 g => ⟨rfl, ⟨x1, x2, x3, x4, x5, x6, x7, g _, fun j hj => absurd hj (Nat.not_lt_zero _), x10⟩⟩)),
    ⟨y9, ⟨y1, y2, y3, y4, y5, y6, y7, y8, rfl, Nat.zero_le _, fun j hj => absurd hj (Nat.not_lt_zero _)⟩⟩⟩
