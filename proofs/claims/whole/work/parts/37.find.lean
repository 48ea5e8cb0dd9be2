set_option maxHeartbeats 400000
/-! leaves that are told by their signatures -/
theorem rd2 {t : Nat → Int32} {k N : Nat} {x : Int32} {Q : Int32 → Prop} (h : t k = x) (hk : k < N) (hN : N < 2 ^ 30) (P : Q x) : vp_in (nI k) N ∧ Q (t (nI k).toNatClampNeg) := by
  refine ⟨vp_in_nI hk (by omega), ?_⟩
  rw [nI_clamp (by omega), h]
  exact P
/-- a book but for its pile, by the reference -/
def MQ2 (s : Nat → Int32) (B : BkA) : Prop := s 2 = nI (bn B) ∧ ∀ j, j < bn B → s (3 + 4 * j + 0) = nI (tmS (bS B j)) ∧ s (3 + 4 * j + 1) = ltS (bS B j) ∧ s (3 + 4 * j + 2) = nI (bZ B j) ∧ s (3 + 4 * j + 3) = nI (bL B j)
theorem MB.mq {s : Nat → Int32} {B : BkA} (h : MB s B) : MQ2 s B := ⟨h.2.2.1, h.2.2.2.1⟩
theorem rl_firstQ {s : Nat → Int32} {B : BkA} {Post : Int32 → Prop} (h : MQ2 s B) (w : WB B) {q : Nat} (hq : q ≤ bn B) (P : Post (nI (sumF (bZ B) q))) : ∀ (d i : Nat), i + d = q → wl_X9_first_4 s (nI q) Post (d + 1) (nI (sumF (bZ B) i)) (nI i) := by
  have hn := w.2.2.1
  intro d
  induction d with
  | zero =>
    intro i hd
    refine pk_le q i (fun _ => ?_) (fun c => absurd c (by omega))
    rw [show i = q by omega]
    exact P
  | succ d ih =>
    intro i hd
    refine pk_le q i (fun c => absurd c (by omega)) (fun _ => r_of ⟨vp_in_nI (by omega) (by decide), ?_⟩)
    rintro _ rfl
    rw [nI_clamp (by omega), (h.2 i (by omega : i < bn B)).2.2.1, nI_add, nI_add]
    exact ih (i + 1) (by omega)
theorem r_firstQ {s : Nat → Int32} {B : BkA} {Post : Int32 → Prop} (h : MQ2 s B) (w : WB B) {q : Nat} (hq : q ≤ bn B) (P : Post (nI (sumF (bZ B) q))) : wp_X9_first s (nI q) Post := ⟨q + 1, rl_firstQ h w hq P q 0 (by omega)⟩
theorem rl_found {s t : Nat → Int32} {B : BkA} {p a z k : Nat} {Post : Int32 → Prop} (h : MQ2 s B) (w : WB B) (hp : p < 30) (ha : a < 83) (hz : 1 ≤ z ∧ z ≤ 24) (t0 : t (4 * p) = nI (tmS a)) (t1 : t (4 * p + 1) = ltS a) (t3 : t (4 * p + 3) = nI z)
    (hk : k ≤ bn B) (hk1 : ∀ i, i < k → ¬ fitP B a z i) (hk2 : k < bn B → fitP B a z k) (P : Post (leafV B z k)) : ∀ (d i : Nat), i + d = k → wl_X9_found_2 s t (nI p) Post (d + 1) (nI i) := by
  have hn := w.2.2.1
  -- one quire
  have ST : ∀ (i : Nat) (K : Int32 → Prop), i < bn B → (bS B i = a → wj_X9_found_61 s t (nI p) (nI i) (nI 1) K Post) → (bS B i ≠ a → K (nI (i + 1))) → wp_X9_of (nI i) (nI 0) (fun r3 => (vp_in r3 1056 ∧ (vp_in ((nI 4) * nI p) 160 ∧ (((s r3.toNatClampNeg) = (t ((nI 4) * nI p).toNatClampNeg) → wp_X9_of (nI i) (nI 1) (fun r4 => (vp_in r4 1056 ∧ (vp_in (((nI 4) * nI p) + (nI 1)) 160 ∧ (((s r4.toNatClampNeg) = (t (((nI 4) * nI p) + (nI 1)).toNatClampNeg) → wj_X9_found_61 s t (nI p) (nI i) (nI 1) K Post) ∧ (¬ (s r4.toNatClampNeg) = (t (((nI 4) * nI p) + (nI 1)).toNatClampNeg) → wj_X9_found_60 s t (nI p) (nI i) K Post)))))) ∧ (¬ (s r3.toNatClampNeg) = (t ((nI 4) * nI p).toNatClampNeg) → wj_X9_found_60 s t (nI p) (nI i) K Post))))) := by
    intro i K hi P1 P0
    have hS := w.2.2.2.1 i hi
    have t1' := tmS_lt hS
    have t2' := tmS_lt ha
    have mi := h.2 _ hi
    have inj := tm_lt_inj hS ha
    have P60 : bS B i ≠ a → wj_X9_found_60 s t (nI p) (nI i) K Post := by
      intro e
      unfold wj_X9_found_60
      refine f0 ?_
      rw [nI_add i 1]
      exact P0 e
    rw [pk_mul, nI_add (4 * p) 1]
    refine r_of ⟨vp_in_nI (by omega) (by decide), vp_in_nI (by omega) (by decide), ?_⟩
    rw [nI_clamp (n := 3 + 4 * i + 0) (by omega), nI_clamp (n := 4 * p) (by omega), mi.1, t0]
    refine pk_eq (tmS (bS B i)) (tmS a) (fun e1 => r_of ⟨vp_in_nI (by omega) (by decide), vp_in_nI (by omega) (by decide), ?_⟩) (fun e1 => P60 (fun e => e1 (by rw [e])))
    rw [nI_clamp (n := 3 + 4 * i + 1) (by omega), nI_clamp (n := 4 * p + 1) (by omega), mi.2.1, t1]
    exact ⟨fun e2 => P1 (inj.mp ⟨e1, e2⟩), fun e2 => P60 (fun e => e2 (by rw [e]))⟩
  -- its size
  have SZ : ∀ (i : Nat) (K : Int32 → Prop), i < bn B → (bZ B i < z → K (nI (i + 1))) → (z ≤ bZ B i → Post (nI (sumF (bZ B) i + z - 1))) → wj_X9_found_61 s t (nI p) (nI i) (nI 1) K Post := by
    intro i K hi P0 P1
    have hZ := w.2.2.2.2.1 i hi
    have mi := h.2 _ hi
    unfold wj_X9_found_61
    refine f1 ?_
    rw [pk_mul, nI_add (4 * p) 3]
    refine ⟨vp_in_nI (by omega) (by decide), r_of ⟨vp_in_nI (by omega) (by decide), ?_⟩⟩
    rw [nI_clamp (n := 3 + 4 * i + 2) (by omega), nI_clamp (n := 4 * p + 3) (by omega), mi.2.2.1, t3]
    refine pk_lt (bZ B i) z (fun e => ?_) (fun e => r_firstQ h w (Nat.le_of_lt hi) ⟨vp_in_nI (by omega) (by decide), ?_⟩)
    · rw [nI_add i 1]; exact P0 e
    · rw [nI_add, pk_sub (by omega)]
      exact P1 e
  intro d
  induction d with
  | zero =>
    intro i hi
    have e : i = k := by omega
    subst e
    refine rd (k := 2) (Q := fun v => (v ≤ nI i → _) ∧ (¬ v ≤ nI i → _)) h.1 (by decide) (pk_le (bn B) i (fun c => ?_) (fun c => ?_))
    · rw [leafV, if_neg (by omega)] at P
      exact P
    · obtain ⟨q1, q2⟩ := hk2 c
      rw [leafV, if_pos c] at P
      exact ST i _ c (fun _ => SZ i _ c (fun e => absurd q2 (by omega)) (fun _ => P)) (fun e => absurd q1 e)
  | succ d ih =>
    intro i hi
    have hno := hk1 i (by omega)
    refine rd (k := 2) (Q := fun v => (v ≤ nI i → _) ∧ (¬ v ≤ nI i → _)) h.1 (by decide) (pk_le (bn B) i (fun c => absurd c (by omega)) (fun c => ?_))
    exact ST i _ c (fun e => SZ i _ c (fun _ => ih (i + 1) (by omega)) (fun e2 => absurd ⟨e, e2⟩ hno)) (fun _ => ih (i + 1) (by omega))
/-- the quire of a signature: the first that fits, or the end -/
theorem fit_ex (B : BkA) (a z : Nat) : ∃ k, k ≤ bn B ∧ (∀ i, i < k → ¬ fitP B a z i) ∧ (k < bn B → fitP B a z k) := firstN (fitP B a z) (bn B)
theorem XOK.text {σ : St} {x : XS} {y : MS} (hx : XOK σ x) (hm : MOK σ y) : TXT σ.2.2.2.2.2.1 σ.2.2.2.2.2.2 x.2.2.2.2.2.2.2.2.2.2.2.2.2.2.1 y.2.1 :=
  ⟨hx.2.2.2.2.2.2.2.1, hm.2.2.2.2.2.2.2.2.2.2⟩
theorem op_find (σ : St) (x : XS) (y : MS) (hx : XOK σ x) (hm : MOK σ y) : ∃ (r : Int32) (σ2 : St), wx_find x (fun r2 x2 => r2 = r ∧ XOK σ2 x2) ∧ wm_find y (fun r2 y2 => r2 = r ∧ MOK σ2 y2) := by
  have T := hx.text hm
  unfold wx_find wm_find wp_X8_find wp_X9_find wp_X6_readAsPile
  dsimp only
  obtain ⟨⟨b1, b2, b3, b4, b5, b6⟩, w, hv, x4, x5, x6, x7, x8, x9, x10, x11, x12, x13, x14, x15⟩ := id hx
  obtain ⟨mb, hmw, hmh, hmst, hmk, hmi, hmi2, hms, hmt, hmr⟩ := id hm
  have al : ALF 0 0 y.1 σ.1 := ⟨mb, w, Or.inl ⟨rfl, rfl⟩⟩
  have R := text_ex T al
  have hn := w.2.2.1
  unfold TxtEx at R
  have x13' : x.2.2.2.2.2.2.2.2.2.2.2.2.2.2.2.2.2.2.2.1 = nI 0 := by rw [x13, nI_0]
  have hmt' : y.2.2.2.2.2.2.1 = nI σ.2.2.2.2.2.1 := hmt
  have XO : ∀ v1 v2 v3 p, AnyR 20 v1 → AnyR 20 v2 → AnyR 20 v3 → XOK σ (x.1, x.2.1, x.2.2.1, x.2.2.2.1, x.2.2.2.2.1, x.2.2.2.2.2.1, x.2.2.2.2.2.2.1, x.2.2.2.2.2.2.2.1, x.2.2.2.2.2.2.2.2.1, x.2.2.2.2.2.2.2.2.2.1, x.2.2.2.2.2.2.2.2.2.2.1, x.2.2.2.2.2.2.2.2.2.2.2.1, x.2.2.2.2.2.2.2.2.2.2.2.2.1, x.2.2.2.2.2.2.2.2.2.2.2.2.2.1, x.2.2.2.2.2.2.2.2.2.2.2.2.2.2.1, v1, v2, v3, p, x.2.2.2.2.2.2.2.2.2.2.2.2.2.2.2.2.2.2.2.1, x.2.2.2.2.2.2.2.2.2.2.2.2.2.2.2.2.2.2.2.2.1, x.2.2.2.2.2.2.2.2.2.2.2.2.2.2.2.2.2.2.2.2.2.1, x.2.2.2.2.2.2.2.2.2.2.2.2.2.2.2.2.2.2.2.2.2.2) := fun v1 v2 v3 p k1 k2 k3 => ⟨⟨b1, b2, b3, b4, b5, b6⟩, w, hv, x4, x5, x6, x7, x8, x9, k1, k2, k3, x13, x14, x15⟩
  have MO : ∀ t2 p ri tm lt it, MOK σ (y.1, y.2.1, t2, y.2.2.2.1, y.2.2.2.2.1, y.2.2.2.2.2.1, y.2.2.2.2.2.2.1, p, ri, tm, lt, it, y.2.2.2.2.2.2.2.2.2.2.2.2.1, y.2.2.2.2.2.2.2.2.2.2.2.2.2) := fun t2 p ri tm lt it => hm
  rw [hmt'] at *
  rcases R with ⟨c, F1, F2, F3, c1, c2, hE, rX, rM⟩ | ⟨e, he, rX, rM⟩
  · have rX' : ∀ u1 u2 u3 p Post, AnyR 20 u1 → AnyR 20 u2 → AnyR 20 u3 → (∀ v1 v2 v3 p, RowN 20 c F1 v1 → RowN 20 c F2 v2 → RowN 20 c F3 v3 → Post (-1) v1 v2 v3 p) → wp_X6_readEntries x.2.2.2.2.2.2.2.2.2.2.2.2.2.2.1 u1 u2 u3 p x.2.2.2.2.2.2.2.2.2.2.2.2.2.2.2.2.2.2.2.1 (nI 0) Post := by
      rw [x13']; exact rX
    have hn60 := T.n60
    by_cases cc : c = 1
    · subst cc
      obtain ⟨k, h1, h2, h3⟩ := fit_ex σ.1 (F1 0) (F3 0)
      obtain ⟨e1, e2, e3, e4, e5, e6, e7, e8, e9, e10⟩ := hE 0 (by decide)
      have hsm := w.sum h1
      by_cases ck : k < bn σ.1
      · have hlv : leafV σ.1 (F3 0) k = nI (sumF (bZ σ.1) k + F3 0 - 1) := if_pos ck
        refine ⟨leafV σ.1 (F3 0) k, σ, rX' _ _ _ _ _ x10 x11 x12 (fun v1 v2 v3 p k1 k2 k3 => ⟨fun _ => s_length k3 ⟨fun _ => s_at k1 0 (by decide) (s_at k3 0 (by decide) (x_leafSigned w b3 b4 (by omega) e9 (by omega) h1 h2 h3 ⟨fun z => absurd z ?_, fun _ => ⟨rfl, XO _ _ _ _ ⟨_, _, k1⟩ ⟨_, _, k2⟩ ⟨_, _, k3⟩⟩⟩)), fun z => absurd rfl z⟩, fun z => absurd rfl z⟩), rM _ _ _ _ _ _ _ (fun t2 p tm2 lt2 hT => ⟨fun _ => pk_le 1 1 (fun _ => ⟨k + 1, rl_found mb.mq w (by decide) e1 ⟨e9, e10⟩ (hT 0 (by decide)).1 (hT 0 (by decide)).2.1 (hT 0 (by decide)).2.2.2 h1 h2 h3 ⟨fun _ => ⟨rfl, MO _ _ _ _ _ _⟩, fun z => absurd ?_ z⟩ k 0 (by omega)⟩) (fun z => absurd z (by decide)), fun z => absurd (show (-1 : Int32) < 0 by decide) z⟩)⟩
        · rw [hlv]; exact nI_m1 (by omega)
        · rw [hlv]; exact nI_pos' (by omega)
      · have hlv : leafV σ.1 (F3 0) k = -1 := if_neg ck
        refine ⟨-5, σ, rX' _ _ _ _ _ x10 x11 x12 (fun v1 v2 v3 p k1 k2 k3 => ⟨fun _ => s_length k3 ⟨fun _ => s_at k1 0 (by decide) (s_at k3 0 (by decide) (x_leafSigned w b3 b4 (by omega) e9 (by omega) h1 h2 h3 ⟨fun _ => ⟨rfl, XO _ _ _ _ ⟨_, _, k1⟩ ⟨_, _, k2⟩ ⟨_, _, k3⟩⟩, fun z => absurd hlv z⟩)), fun z => absurd rfl z⟩, fun z => absurd rfl z⟩), rM _ _ _ _ _ _ _ (fun t2 p tm2 lt2 hT => ⟨fun _ => pk_le 1 1 (fun _ => ⟨k + 1, rl_found mb.mq w (by decide) e1 ⟨e9, e10⟩ (hT 0 (by decide)).1 (hT 0 (by decide)).2.1 (hT 0 (by decide)).2.2.2 h1 h2 h3 ⟨fun z => absurd z ?_, fun _ => ⟨rfl, MO _ _ _ _ _ _⟩⟩ k 0 (by omega)⟩) (fun z => absurd z (by decide)), fun z => absurd (show (-1 : Int32) < 0 by decide) z⟩)⟩
        rw [hlv]
        decide
    · exact ⟨-2, σ, rX' _ _ _ _ _ x10 x11 x12 (fun v1 v2 v3 p k1 k2 k3 => ⟨fun _ => s_length k3 (pk_eq c 1 (fun z => absurd z cc) (fun _ => ⟨rfl, XO _ _ _ _ ⟨_, _, k1⟩ ⟨_, _, k2⟩ ⟨_, _, k3⟩⟩)), fun z => absurd rfl z⟩), rM _ _ _ _ _ _ _ (fun t2 p tm2 lt2 hT => ⟨fun _ => pk_le c 1 (fun z => absurd z (by omega)) (fun _ => ⟨rfl, MO _ _ _ _ _ _⟩), fun z => absurd (show (-1 : Int32) < 0 by decide) z⟩)⟩
  · have rX' : ∀ u1 u2 u3 p Post, AnyR 20 u1 → AnyR 20 u2 → AnyR 20 u3 → (∀ v1 v2 v3 p, AnyR 20 v1 → AnyR 20 v2 → AnyR 20 v3 → Post (nI e) v1 v2 v3 p) → wp_X6_readEntries x.2.2.2.2.2.2.2.2.2.2.2.2.2.2.1 u1 u2 u3 p x.2.2.2.2.2.2.2.2.2.2.2.2.2.2.2.2.2.2.2.1 (nI 0) Post := by
      rw [x13']; exact rX
    have hn60 := T.n60
    exact ⟨(-100) - nI e, σ, rX' _ _ _ _ _ x10 x11 x12 (fun v1 v2 v3 p k1 k2 k3 => ⟨fun z => absurd z (nI_m1 (by omega)), fun _ => ⟨rfl, XO _ _ _ _ k1 k2 k3⟩⟩), rM _ _ _ _ _ _ _ (fun t2 p ri tm2 lt2 it => ⟨fun z => absurd z (nI_pos (by omega)), fun _ => ⟨rfl, MO _ _ _ _ _ _⟩⟩)⟩
