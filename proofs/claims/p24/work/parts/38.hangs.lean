set_option maxHeartbeats 400000
/-! all hangs together -/
section hangs
variable {σ : St} {x : XS} {v1 v3 v4 v5 v10 v11 : Int32} {Post : Int32 → XS → Prop} {K36 : Int32 → Int32 → Int32 → Int32 → Int32 → Int32 → Prop} {K177 : Int32 → Int32 → Int32 → Prop}
theorem inQ_at {B : BkA} {q k : Nat} (hq : q < bn B) (hk : k < bZ B q) : InQ B q (sumF (bZ B) q + k) := by
  refine ⟨hq, Nat.le_add_right _ _, ?_⟩
  rw [sumF]
  omega
theorem hangs275 (hx : XOK σ x) {q k : Nat} (hq : q < bn σ.1) (hk : k < bZ σ.1 q) {r11 t : Int32} (c : (2 * (k + 1) = bZ σ.1 q + 1 ∧ r11 = -5) ∨ (2 * (k + 1) ≠ bZ σ.1 q + 1 ∧ r11 = nI (sumF (bZ σ.1) q + (bZ σ.1 q - k) - 1))) (P : K177 (nI 1) v11 (nI (k + 2))) :
    wj_L_hangs_275 x v1 (nI (sumF (bZ σ.1) q)) v3 v4 v5 (nI q) (nI (bZ σ.1 q)) v10 v11 (nI (k + 1)) (nI (sumF (bZ σ.1) q + k)) r11 t t K36 K177 Post := by
  have w := hx.2.1
  have hs := w.sum (Nat.le_of_lt hq)
  have hz := w.2.2.2.2.1 q hq
  unfold wj_L_hangs_275
  refine ⟨fun _ => ?_, fun z => absurd rfl z⟩
  rw [pk_mul, nI_add (bZ σ.1 q) 1, nI_add (k + 1) 1]
  refine pk_eq (2 * (k + 1)) (bZ σ.1 q + 1) (fun e => ⟨fun _ => P, fun z => absurd ?_ z⟩) (fun e => ?_)
  · rcases c with c | c
    · exact c.2
    · exact absurd e c.1
  · rcases c with c | c
    · exact absurd c.1 e
    · rw [c.2, nI_add, pk_sub (by omega)]
      have hI := inQ_at (B := σ.1) (k := bZ σ.1 q - k - 1) hq (by omega)
      have e1 : sumF (bZ σ.1) q + (bZ σ.1 q - k) - 1 = sumF (bZ σ.1) q + (bZ σ.1 q - k - 1) := by omega
      have e2 : sumF (bZ σ.1) q + bZ σ.1 q - (k + 1) = sumF (bZ σ.1) q + (bZ σ.1 q - k - 1) := by omega
      rw [e1, e2]
      refine ⟨fun _ => xq_l3 hx hI (fun z => ?_) (fun z => ⟨fun _ => P, fun z2 => absurd ?_ z2⟩), fun z => absurd rfl z⟩
      · rw [Nat.add_sub_cancel_left] at z
        omega
      · rw [Nat.add_sub_cancel_left]
        congr 1
        omega
theorem hangs258 (hx : XOK σ x) {q k : Nat} (hq : q < bn σ.1) (hk : k < bZ σ.1 q) {v13 r11 t : Int32} (ht : (sgN (bsg σ.1) (bZ σ.1 q) < k + 1 ∧ t = nI 0) ∨ (k + 1 ≤ sgN (bsg σ.1) (bZ σ.1 q) ∧ t = nI 1))
    (P : wj_L_hangs_275 x v1 (nI (sumF (bZ σ.1) q)) v3 v4 v5 (nI q) (nI (bZ σ.1 q)) v10 v11 (nI (k + 1)) v13 r11 t t K36 K177 Post) : wj_L_hangs_258 x v1 (nI (sumF (bZ σ.1) q)) v3 v4 v5 (nI q) (nI (bZ σ.1 q)) v10 v11 (nI (k + 1)) v13 r11 t K36 K177 Post := by
  have w := hx.2.1
  have hz := w.2.2.2.2.1 q hq
  have hsg := sgN_le (bsg σ.1) (bZ σ.1 q) hz.1
  unfold wj_L_hangs_258
  refine xq_q4 hx hq (pk_lt (sgN (bsg σ.1) (bZ σ.1 q)) (k + 1) (fun e => ?_) (fun e => ?_))
  · rcases ht with h | h
    · rw [h.2] at P ⊢; exact P
    · exact absurd e (by omega)
  · rcases ht with h | h
    · exact absurd h.1 (by omega)
    · rw [h.2] at P ⊢; exact P
theorem hangs177 (hx : XOK σ x) {q : Nat} (hq : q < bn σ.1) (E : wj_L_hangs_336 x v1 (nI (sumF (bZ σ.1) q)) v3 v4 v5 (nI 1) (nI q) (nI (bZ σ.1 q)) v10 (nI (sumF (bitn (bL σ.1 q)) (bZ σ.1 q))) K36 Post) :
    ∀ (d k : Nat), k + d = bZ σ.1 q → wl_L_hangs_177 x v1 (nI (sumF (bZ σ.1) q)) v3 v4 v5 (nI q) (nI (bZ σ.1 q)) v10 K36 Post (d + 1) (nI 1) (nI (sumF (bitn (bL σ.1 q)) k)) (nI (k + 1)) := by
  have w := hx.2.1
  have hs := w.sum (Nat.le_of_lt hq)
  have hz := w.2.2.2.2.1 q hq
  intro d
  induction d with
  | zero =>
    intro k hk
    refine pk_lt (bZ σ.1 q) (k + 1) (fun _ => ?_) (fun z => absurd z (by omega))
    rw [show k = bZ σ.1 q by omega]
    exact E
  | succ d ih =>
    intro k hk
    have hkz : k < bZ σ.1 q := by omega
    have hI := inQ_at (B := σ.1) hq hkz
    have ej : sumF (bZ σ.1) q + k - sumF (bZ σ.1) q = k := Nat.add_sub_cancel_left _ _
    have ih2 := ih (k + 1) (by omega)
    rw [sumF] at ih2
    refine pk_lt (bZ σ.1 q) (k + 1) (fun z => absurd z (by omega)) (fun _ => f1 ?_)
    rintro _ rfl
    rw [nI_add, pk_sub (by omega), show sumF (bZ σ.1) q + (k + 1) - 1 = sumF (bZ σ.1) q + k by omega]
    have G : ∀ r11 : Int32, ((2 * (k + 1) = bZ σ.1 q + 1 ∧ r11 = -5) ∨ (2 * (k + 1) ≠ bZ σ.1 q + 1 ∧ r11 = nI (sumF (bZ σ.1) q + (bZ σ.1 q - k) - 1))) → ∀ t : Int32, ((sgN (bsg σ.1) (bZ σ.1 q) < k + 1 ∧ t = nI 0) ∨ (k + 1 ≤ sgN (bsg σ.1) (bZ σ.1 q) ∧ t = nI 1)) →
        wj_L_hangs_258 x v1 (nI (sumF (bZ σ.1) q)) v3 v4 v5 (nI q) (nI (bZ σ.1 q)) v10 (nI (sumF (bitn (bL σ.1 q)) k + bitn (bL σ.1 q) k)) (nI (k + 1)) (nI (sumF (bZ σ.1) q + k)) r11 t K36 (fun q0 q1 q2 => wl_L_hangs_177 x v1 (nI (sumF (bZ σ.1) q)) v3 v4 v5 (nI q) (nI (bZ σ.1 q)) v10 K36 Post (d + 1) q0 q1 q2) Post :=
      fun r11 c t ht => hangs258 hx hq hkz ht (hangs275 hx hq hkz c ih2)
    refine xq_l3 hx hI (fun c => ?_) (fun c => ?_)
    · rw [ej] at c
      have c' := G (-5) (Or.inl ⟨by omega, rfl⟩)
      refine xq_l4 hx hI ?_
      rintro _ rfl
      rw [ej, nI_add]
      refine xq_l0 hx hI ⟨fun _ => xq_l1 hx hI ⟨fun _ => xq_l2 hx hI (fun e => ⟨fun z => absurd z (by decide), fun _ => c' _ (Or.inl ⟨by rw [ej] at e; exact e, rfl⟩)⟩) (fun e => ⟨fun _ => c' _ (Or.inr ⟨by rw [ej] at e; exact e, rfl⟩), fun z => absurd rfl z⟩), fun z => absurd (by rw [ej]) z⟩, fun z => absurd rfl z⟩
    · rw [ej] at c
      have e2 : sumF (bZ σ.1) q + (bZ σ.1 q + 1 - (sumF (bZ σ.1) q + k - sumF (bZ σ.1) q + 1)) - 1 = sumF (bZ σ.1) q + (bZ σ.1 q - k) - 1 := by rw [ej]; omega
      have c' := G (nI (sumF (bZ σ.1) q + (bZ σ.1 q + 1 - (sumF (bZ σ.1) q + k - sumF (bZ σ.1) q + 1)) - 1)) (Or.inr ⟨by omega, by rw [e2]⟩)
      refine xq_l4 hx hI ?_
      rintro _ rfl
      rw [ej, nI_add]
      rw [ej] at c'
      refine xq_l0 hx hI ⟨fun _ => xq_l1 hx hI ⟨fun _ => xq_l2 hx hI (fun e => ⟨fun z => absurd z (by decide), fun _ => c' _ (Or.inl ⟨by rw [ej] at e; exact e, rfl⟩)⟩) (fun e => ⟨fun _ => c' _ (Or.inr ⟨by rw [ej] at e; exact e, rfl⟩), fun z => absurd rfl z⟩), fun z => absurd (by rw [ej]) z⟩, fun z => absurd rfl z⟩
def stI (s : Nat) : Nat := if s < 78 then 0 else 1
theorem sgN_pos (sg z : Nat) (hz : 1 ≤ z) : 1 ≤ sgN sg z := by
  unfold sgN
  by_cases h0 : sg = 0
  · rw [if_pos h0]; omega
  · rw [if_neg h0]
    by_cases h1 : sg = 1
    · rw [if_pos h1]; omega
    · rw [if_neg h1]; omega
theorem hangs82 (hx : XOK σ x) {q g3 g4 g5 : Nat} (hq : q < bn σ.1) (P : K36 (nI (sumF (bZ σ.1) q + bZ σ.1 q)) (nI (g3 + sgN (bsg σ.1) (bZ σ.1 q))) (nI (g4 + fr (bL σ.1 q) (bZ σ.1 q))) (nI (g5 + stI (bS σ.1 q))) (nI 1) (nI (q + 1))) :
    wj_L_hangs_82 x v1 (nI (sumF (bZ σ.1) q)) (nI g3) (nI g4) (nI g5) (nI q) (nI (bZ σ.1 q)) (nI (tmS (bS σ.1 q))) (nI (stI (bS σ.1 q))) K36 Post := by
  have w := hx.2.1
  have hs := w.sum (Nat.le_of_lt hq)
  have hz := w.2.2.2.2.1 q hq
  have hS := w.2.2.2.1 q hq
  have h1 := sgN_le (bsg σ.1) (bZ σ.1 q) hz.1
  have h2 := sgN_pos (bsg σ.1) (bZ σ.1 q) hz.1
  have h3 := fr_le (bL σ.1 q) (bZ σ.1 q)
  have ht := tmS_pos (s := bS σ.1 q)
  have h6 := sumF_compl (bitn (bL σ.1 q)) (bitn_le _) (bZ σ.1 q)
  have hfr : fr (bL σ.1 q) (bZ σ.1 q) = bZ σ.1 q - sumF (bitn (bL σ.1 q)) (bZ σ.1 q) := by unfold fr; omega
  have E : wj_L_hangs_336 x v1 (nI (sumF (bZ σ.1) q)) (nI g3) (nI g4) (nI g5) (nI 1) (nI q) (nI (bZ σ.1 q)) (nI (stI (bS σ.1 q))) (nI (sumF (bitn (bL σ.1 q)) (bZ σ.1 q))) K36 Post := by
    unfold wj_L_hangs_336
    refine f1 ?_
    rw [pk_sub (by omega), ← hfr]
    refine xq_q5 hx hq ⟨fun _ => ?_, fun z => absurd rfl z⟩
    unfold wj_L_hangs_361
    rintro _ rfl
    refine xq_q4 hx hq ?_
    rintro _ rfl
    rintro _ rfl
    rw [pk_sub (by omega), ← hfr, nI_add (sumF (bZ σ.1) q) (bZ σ.1 q), nI_add g3 _, nI_add g4 _, nI_add q 1]
    refine b_z (fun z => ?_) (fun z => ?_) (by unfold stI; split <;> omega)
    · rintro _ rfl
      rw [nI_add g5 0]
      rw [z] at P
      exact P
    · rintro _ rfl
      rw [nI_add g5 1]
      have e : stI (bS σ.1 q) = 1 := by
        unfold stI at z ⊢
        by_cases c : bS σ.1 q < 78
        · rw [if_pos c] at z; exact absurd rfl z
        · rw [if_neg c]
      rw [e] at P
      exact P
  have L := hangs177 hx hq E (bZ σ.1 q) 0 (by omega)
  unfold wj_L_hangs_82
  refine pk_lt (bZ σ.1 q) 1 (fun z => absurd z (by omega)) (fun _ => pk_lt 24 (bZ σ.1 q) (fun z => absurd z (by omega)) (fun _ => xq_q3 hx hq ⟨fun _ => xq_q4 hx hq (pk_lt (sgN (bsg σ.1) (bZ σ.1 q)) 1 (fun z => absurd z (by omega)) (fun _ => xq_q4 hx hq (pk_lt (bZ σ.1 q) (sgN (bsg σ.1) (bZ σ.1 q)) (fun z => absurd z (by omega)) (fun _ => xq_q5 hx hq (pk_lt (bZ σ.1 q) (fr (bL σ.1 q) (bZ σ.1 q)) (fun z => absurd z (by omega)) (fun _ => pk_lt (tmS (bS σ.1 q)) 1 (fun z => absurd z (by omega)) (fun _ => ?_) rfl rfl (by have := tmS_lt hS; omega))))))), fun z => absurd rfl z⟩))
  have T := tmS_lt hS
  refine b_z (fun z => ?_) (fun z => ?_) (by unfold stI; split <;> omega)
  · have hc : bS σ.1 q < 78 := by
      by_cases c : bS σ.1 q < 78
      · exact c
      · unfold stI at z
        rw [if_neg c] at z
        omega
    have ht3 : tmS (bS σ.1 q) ≤ 3 := by unfold tmS; rw [if_pos hc]; omega
    exact pk_lt 3 (tmS (bS σ.1 q)) (fun z => absurd z (by omega)) (fun _ => ⟨_, L⟩)
  · exact pk_lt 5 (tmS (bS σ.1 q)) (fun z => absurd z (by omega)) (fun _ => ⟨_, L⟩)
abbrev sgF (B : BkA) : Nat → Nat := fun j => sgN (bsg B) (bZ B j)
abbrev frF (B : BkA) : Nat → Nat := fun j => fr (bL B j) (bZ B j)
abbrev stF (B : BkA) : Nat → Nat := fun j => stI (bS B j)
theorem hangs36 (hx : XOK σ x) (E : wj_L_hangs_409 x (nI (bn σ.1)) (nI (lvs σ.1)) (nI (sgd σ.1)) (nI (sumF (frF σ.1) (bn σ.1))) (nI (sumF (stF σ.1) (bn σ.1))) (nI 1) Post) :
    ∀ (d q : Nat), q + d = bn σ.1 → wl_L_hangs_36 x (nI (bn σ.1)) Post (d + 1) (nI (sumF (bZ σ.1) q)) (nI (sumF (sgF σ.1) q)) (nI (sumF (frF σ.1) q)) (nI (sumF (stF σ.1) q)) (nI 1) (nI q) := by
  have w := hx.2.1
  have hn := w.2.2.1
  intro d
  induction d with
  | zero =>
    intro q hq
    refine pk_le (bn σ.1) q (fun _ => ?_) (fun z => absurd z (by omega))
    rw [show q = bn σ.1 by omega]
    exact E
  | succ d ih =>
    intro q hq
    have hq' : q < bn σ.1 := by omega
    have hS := w.2.2.2.1 q hq'
    have ih2 := ih (q + 1) (by omega)
    rw [sumF, sumF, sumF, sumF] at ih2
    have H := hangs82 (v1 := nI (bn σ.1)) (Post := Post) (K36 := fun q0 q1 q2 q3 q4 q5 => wl_L_hangs_36 x (nI (bn σ.1)) Post (d + 1) q0 q1 q2 q3 q4 q5) hx hq' ih2
    refine pk_le (bn σ.1) q (fun z => absurd z (by omega)) (fun _ => f1 (xq_q2 hx hq' (xq_q0 hx hq' ?_)))
    by_cases c : bS σ.1 q < 78
    · have e : stI (bS σ.1 q) = 0 := if_pos c
      rw [e] at H
      exact xq_q1a hx hq' c ⟨fun z => absurd z (nI_m5 (by omega)), fun _ => H⟩
    · have e : stI (bS σ.1 q) = 1 := if_neg c
      rw [e] at H
      exact xq_q1b hx hq' (by omega) ⟨fun _ => H, fun z => absurd rfl z⟩
theorem hangs763 (hx : XOK σ x) (h0 : bpn σ.1 = 0) {v12 : Int32} (P : Post (nI 1) x) : wl_L_hangs_763 x (nI (lpN σ.1)) (nI 0) Post 1 (nI 1) v12 (nI 0) := by
  have w := hx.2.1
  have hn := w.2.2.1
  have hl : lpN σ.1 ≤ 1 * bn σ.1 := sumF_le (bn σ.1) (fun j _ => by show (if _ then _ else _) ≤ 1; split <;> omega)
  refine pk_le 0 0 (fun _ => ?_) (fun z => absurd z (by omega))
  unfold wj_L_hangs_875
  refine f1 (xq_p0 hx (by omega) (fun _ => ⟨fun _ => xq_piled hx h0 ⟨fun _ => P, fun z => absurd rfl z⟩, fun z => absurd rfl z⟩) (fun j hj => ?_))
  have := (lapF_has (B := σ.1) (bn σ.1) 0 (lpN σ.1)).2 (by rw [← lpN_eq]; exact Nat.le_refl _)
  rw [this] at hj
  cases hj
theorem hangs656 (hx : XOK σ x) (h0 : bpn σ.1 = 0) (P : Post (nI 1) x) : ∀ (d k b : Nat), k + d = lpN σ.1 → b < 1000 → (∀ j, lapF σ.1 (bn σ.1) 0 k = some j → b < j) → wl_L_hangs_656 x (nI (lpN σ.1)) Post (d + 1) (nI 1) (nI b) (nI k) := by
  have w := hx.2.1
  have hn := w.2.2.1
  have hl : lpN σ.1 ≤ 1 * bn σ.1 := sumF_le (bn σ.1) (fun j _ => by show (if _ then _ else _) ≤ 1; split <;> omega)
  intro d
  induction d with
  | zero =>
    intro k b hk hb hj
    refine pk_le (lpN σ.1) k (fun _ => ?_) (fun z => absurd z (by omega))
    unfold wj_L_hangs_749
    refine xq_c9 hx ?_
    rw [h0]
    exact ⟨1, hangs763 hx h0 P⟩
  | succ d ih =>
    intro k b hk hb hj
    obtain ⟨j, hF⟩ := (lapF_has (B := σ.1) (bn σ.1) 0 k).1 (by rw [← lpN_eq]; omega)
    obtain ⟨hj2, k2, hL⟩ := lapF_some hF
    have hjn : j < bn σ.1 := by omega
    have hbj := hj j hF
    have hl2 := lap_some hL
    have ih2 := ih (k + 1) j (by omega) (by omega) (fun j2 h2 => lapF_up hF h2)
    have hkd : kdN σ.1 j k2 < 3 := by
      unfold kdN
      split
      · decide
      · split <;> decide
    refine pk_le (lpN σ.1) k (fun z => absurd z (by omega)) (fun _ => f1 (xq_p0 hx (by omega) (fun z => ?_) (fun j' z => ?_)))
    · rw [hF] at z; cases z
    · rw [hF] at z
      cases z
      refine xq_p1 hx (by omega) hF hL ?_
      rw [nI_add k 1]
      have K : wj_L_hangs_732 x (nI (lpN σ.1)) (nI k) (nI j) (fun q0 q1 q2 => wl_L_hangs_656 x (nI (lpN σ.1)) Post (d + 1) q0 q1 q2) Post := by
        unfold wj_L_hangs_732
        rw [nI_add k 1]
        exact ih2
      exact pk_le j b (fun z => absurd z (by omega)) (fun _ => xq_q1a hx hjn hl2.1 ⟨fun z => absurd z (nI_m5 (by omega)), fun _ => b_neg (pk_lt 2 (kdN σ.1 j k2) (fun z => absurd z (by omega)) (fun _ => pk_eq (kdN σ.1 j k2) 2 (fun _ => K) (fun e => xq_p2 hx (by omega) hF hL e ⟨fun _ => K, fun z => absurd nI_0 z⟩)))⟩)
theorem hangs598 (hx : XOK σ x) (h0 : bpn σ.1 = 0) (P : ∀ x2, XOK σ x2 → Post (nI 1) x2) : wj_L_hangs_598 x (nI (bn σ.1)) (nI 1) (nI (fT σ.1 (bn σ.1)).1) (nI (cmN (fT σ.1 (bn σ.1)) (fT σ.1 (bn σ.1)).1)) Post := by
  have w := hx.2.1
  have hn := w.2.2.1
  have hf := fT_len w (bn σ.1) (Nat.le_refl _)
  have hl : lpN σ.1 ≤ 1 * bn σ.1 := sumF_le (bn σ.1) (fun j _ => by show (if _ then _ else _) ≤ 1; split <;> omega)
  unfold wj_L_hangs_598
  refine f1 (xq_formula hx (by omega) (fun _ x2 hx2 => ⟨fun _ => xq_c8 hx2 (fun x3 hx3 => ?_), fun z => absurd rfl z⟩) (fun z => absurd z (by omega)))
  have E : wj_L_hangs_640 x3 (nI 1) Post := by
    unfold wj_L_hangs_640
    exact xq_c6 hx3 ⟨lpN σ.1 + 1, hangs656 hx3 h0 (P x3 hx3) (lpN σ.1) 0 0 (by omega) (by decide) (fun j hj => by
      have hj2 := (lapF_some hj).2
      by_cases c : j = 0
      · subst c
        rw [lap0] at hj2
        obtain ⟨_, h⟩ := hj2
        cases h
      · omega)⟩
  refine b_z (fun e => ?_) (fun e => ?_)
  · unfold wj_L_hangs_632
    rw [e]
    exact ⟨fun _ => E, fun z => absurd rfl z⟩
  · unfold wj_L_hangs_632
    rw [nI_add, (fT_vt w (bn σ.1) (Nat.le_refl _)).2 (by omega)]
    exact ⟨fun _ => E, fun z => absurd rfl z⟩
theorem hangs519 {v1 v7 : Int32} {c t k : Nat} {K485 : XS → Int32 → Int32 → Int32 → Prop} (hc : VC c) (ht : t < 2 ^ 30) (hk : k < 2 ^ 30) (t1 : Int32) (h1 : t1 = nI (cmI c)) (P : K485 x (nI 1) (nI (t + cmI c)) (nI (k + 1))) : wj_L_hangs_519 x v1 v7 (nI k) (nI c) (nI t) t1 K485 Post := by
  unfold VC at hc
  unfold wj_L_hangs_519
  rintro _ rfl
  rw [h1, nI_add, nI_add]
  refine pk_eq c 44 (fun _ => P) (fun e1 => pk_eq c 45 (fun _ => P) (fun e2 => pk_eq c 42 (fun _ => P) (fun e3 => ?_)))
  have D : 57 < c → wj_L_hangs_557 x v1 v7 (nI (t + cmI c)) (nI k) (nI c) K485 Post := by
    intro hd
    have D2 : 90 < c → wj_L_hangs_571 x v1 v7 (nI (t + cmI c)) (nI k) (nI c) K485 Post := by
      intro hd2
      unfold wj_L_hangs_571
      rw [nI_add]
      exact pk_lt c 97 (fun z => absurd z (by omega)) (fun _ => pk_lt 122 c (fun z => absurd z (by omega)) (fun _ => P))
    unfold wj_L_hangs_557
    rw [nI_add]
    exact pk_lt c 65 (fun z => absurd z (by omega)) (fun _ => pk_le c 90 (fun _ => P) D2)
  exact pk_lt c 48 (fun z => absurd z (by omega)) (fun _ => pk_le c 57 (fun _ => P) D)
theorem hangs485 (w : WB σ.1) (h0 : bpn σ.1 = 0) (P : ∀ x2, XOK σ x2 → Post (nI 1) x2) : ∀ (d k : Nat) (x : XS), k + d = (fT σ.1 (bn σ.1)).1 → XOK σ x → wl_L_hangs_485 (nI (bn σ.1)) (nI (fT σ.1 (bn σ.1)).1) Post (d + 1) x (nI 1) (nI (cmN (fT σ.1 (bn σ.1)) k)) (nI k) := by
  have hn := w.2.2.1
  have hf := fT_len w (bn σ.1) (Nat.le_refl _)
  have hv := (fT_vt w (bn σ.1) (Nat.le_refl _)).1
  intro d
  induction d with
  | zero =>
    intro k x hk hx
    refine pk_le (fT σ.1 (bn σ.1)).1 k (fun _ => ?_) (fun z => absurd z (by omega))
    have H := hangs598 hx h0 P
    rw [show k = (fT σ.1 (bn σ.1)).1 by omega]
    exact H
  | succ d ih =>
    intro k x hk hx
    have hk' : k < (fT σ.1 (bn σ.1)).1 := by omega
    have hcm : cmN (fT σ.1 (bn σ.1)) k ≤ 1 * k := sumF_le k (fun j _ => by unfold cmI; split <;> omega)
    refine pk_le (fT σ.1 (bn σ.1)).1 k (fun z => absurd z (by omega)) (fun _ => f1 (xq_formula hx (by omega) (fun z => absurd z (by omega)) (fun _ x2 hx2 => ?_)))
    have hc := hv k hk'
    have ih2 := ih (k + 1) x2 (by omega) hx2
    have e : cmN (fT σ.1 (bn σ.1)) (k + 1) = cmN (fT σ.1 (bn σ.1)) k + cmI ((fT σ.1 (bn σ.1)).2 k) := rfl
    rw [e] at ih2
    have hb : (fT σ.1 (bn σ.1)).2 k < 1000 := by
      unfold VC at hc
      omega
    refine pk_eq ((fT σ.1 (bn σ.1)).2 k) 44 (fun e2 => ?_) (fun e2 => ?_)
    · exact hangs519 hc (by omega) (by omega) _ (by rw [e2]; rfl) ih2
    · exact hangs519 hc (by omega) (by omega) _ (by rw [cmI_0 e2]) ih2
theorem hangs_ok (hx : XOK σ x) (h0 : bpn σ.1 = 0) (P : ∀ x2, XOK σ x2 → Post (nI 1) x2) : wp_L_hangs x Post := by
  have w := hx.2.1
  have hn := w.2.2.1
  have hlv := w.lvs
  unfold wp_L_hangs
  refine xq_c0 hx (xq_qout hx (Nat.le_refl _) (by omega) ⟨fun _ => ⟨bn σ.1 + 1, hangs36 hx ?_ (bn σ.1) 0 (by omega)⟩, fun z => absurd rfl z⟩)
  unfold wj_L_hangs_409
  refine f1 (xq_c1 hx ⟨fun _ => xq_c3 hx ⟨fun _ => xq_c2 hx (fun ht => ⟨fun _ => xq_c5 hx ⟨fun _ => xq_lout hx (Nat.le_refl _) (by omega) ⟨fun _ => ?_, fun z => absurd rfl z⟩, fun z => absurd rfl z⟩, fun z => absurd ?_ z⟩), fun z => absurd rfl z⟩, fun z => absurd rfl z⟩)
  · unfold wj_L_hangs_469
    exact xq_c7 hx (fun x2 hx2 => ⟨_, hangs485 w h0 P (fT σ.1 (bn σ.1)).1 0 x2 (by omega) hx2⟩)
  · rw [← pk_sub ht, tA_all]
end hangs
