set_option maxHeartbeats 400000
/-! the formula makes the same quires again -/
theorem XOK.text {σ : St} {x : XS} {g : Nat → Nat} (h : XOK σ x) (e : ∀ j, j < σ.2.2.2.2.2.1 → σ.2.2.2.2.2.2 j = g j) : XOK (σ.1, σ.2.1, σ.2.2.1, σ.2.2.2.1, σ.2.2.2.2.1, σ.2.2.2.2.2.1, g) x := by
  obtain ⟨x1, x2, x3, x4, x5, x6, x7, x8, x9, x10⟩ := h
  exact ⟨x1, x2, x3, x4, x5, x6, x7, x8.congr e, fun j hj => by show g j < 65536; rw [← e j hj]; exact x9 j hj, x10⟩
def SameB (C B : BkA) : Prop := bal C = bal B ∧ Mat C B (bn B)
theorem goN_cg {C B : BkA} (h : SameB C B) (q : Nat) : goN C q = goN B q := by
  obtain ⟨h1, h2, h3⟩ := h
  unfold goN
  rw [h1, h2]
  by_cases c : 1 ≤ q ∧ q < bn B
  · rw [(h3 q c.2).1, (h3 q c.2).2, (h3 (q - 1) (by omega)).1, (h3 (q - 1) (by omega)).2]
  · rw [if_neg (fun z => c ⟨z.1, z.2.1⟩), if_neg (fun z => c ⟨z.1, z.2.1⟩)]
theorem eN_cg {C B : BkA} (h : SameB C B) : ∀ q, eN C q = eN B q
  | 0 => rfl
  | q + 1 => by rw [eN, eN, goN_cg h, eN_cg h q]
section again
variable {B : BkA} {Post : Int32 → XS → Prop}
def OnB (B : BkA) (σ : St) (x : XS) : Prop := XOK σ x ∧ INV σ ∧ σ.1 = B
theorem again242 {C : BkA} {τ : St} {z : XS} (hz : XOK τ z) (hC : τ.1 = C) (hS : SameB C B) (P : ∀ σ x, OnB B σ x → Post (nI 1) x) : ∀ (d q : Nat) (σ : St) (x : XS), q + d = bn B → OnB B σ x → wl_L_again_242 z Post (d + 1) x (nI 1) (nI q) := by
  intro d
  induction d with
  | zero =>
    intro q σ x hq hB
    obtain ⟨hx, hi, rfl⟩ := id hB
    have hn := hx.2.1.2.2.1
    exact xq_c0 hx (pk_le (bn σ.1) q (fun _ => ⟨Or.inr (by decide), P σ x hB⟩) (fun z => absurd z (by omega)))
  | succ d ih =>
    intro q σ x hq hB
    obtain ⟨hx, hi, rfl⟩ := id hB
    have hn := hx.2.1.2.2.1
    have hq' : q < bn σ.1 := by omega
    subst hC
    obtain ⟨c1, c2, c3⟩ := hS
    have hqC : q < bn τ.1 := by omega
    obtain ⟨e1, e2⟩ := c3 q hq'
    have ih2 := ih (q + 1) σ x (by omega) hB
    refine xq_c0 hx (pk_le (bn σ.1) q (fun z => absurd z (by omega)) (fun _ => f1 (xq_q0 hz hqC (xq_q0 hx hq' ⟨fun _ => ?_, fun w => absurd (by rw [e1]) w⟩))))
    have R : wx_quire z (nI q) (nI 2) (fun r9 _ => wx_quire x (nI q) (nI 2) (fun r10 _ => ((r9 = r10 → wl_L_again_242 z Post (d + 1) x (nI 1) (nI q + nI 1)) ∧ (¬ r9 = r10 → wl_L_again_242 z Post (d + 1) x (nI 0) (nI q + nI 1))))) := by
      refine xq_q2 hz hqC (xq_q2 hx hq' ⟨fun _ => ?_, fun w => absurd (by rw [e2]) w⟩)
      rw [nI_add]
      exact ih2
    by_cases c : bS σ.1 q < 78
    · exact xq_q1a hz hqC (by omega) (xq_q1a hx hq' c ⟨fun _ => R, fun w => absurd (by rw [e1]) w⟩)
    · exact xq_q1b hz hqC (by omega) (xq_q1b hx hq' (by omega) ⟨fun _ => R, fun w => absurd rfl w⟩)
theorem again146e {τ : St} {z : XS} (hz : XOK τ z) (hS : SameB τ.1 B) (P : ∀ σ x, OnB B σ x → Post (nI 1) x) (σ : St) (x : XS) (hB : OnB B σ x) : wl_L_again_146 z (nI 1) (nI (bn B)) Post 1 x (nI (bn B)) := by
  obtain ⟨hx, hi, rfl⟩ := id hB
  have hn := hx.2.1.2.2.1
  have hl : lvs τ.1 = lvs σ.1 := by
    show sumF (bZ τ.1) (bn τ.1) = sumF (bZ σ.1) (bn σ.1)
    rw [hS.2.1]
    exact sumF_congr _ (fun j hj => (hS.2.2 j hj).2)
  have he : eN τ.1 (bn τ.1) = eN σ.1 (bn σ.1) := by rw [hS.2.1]; exact eN_cg hS _
  refine xq_c0 hx (pk_le (bn σ.1) (bn σ.1) (fun _ => f1 (xq_c0 hx ⟨fun _ => xq_c8 hz (fun z2 hz2 => xq_c8 hx (fun x2 hx2 => ⟨fun _ => xq_c1 hz2 (xq_c1 hx2 ⟨fun _ => ⟨bn σ.1 + 1, again242 hz2 rfl hS P (bn σ.1) 0 σ x2 (by omega) ⟨hx2, hi, rfl⟩⟩, fun w => absurd (by rw [hl]) w⟩), fun w => absurd (by rw [he]) w⟩)), fun w => absurd rfl w⟩)) (fun w => absurd w (by omega)))
theorem again146 {z : XS} {v4 : Int32} (E : HA B → ∀ σ x, OnB B σ x → wl_L_again_146 z (nI 1) v4 Post 1 x (nI (bn B))) (P : ∀ σ x, OnB B σ x → Post (nI 1) x) : ∀ (d q : Nat) (σ : St) (x : XS), q + d = bn B → OnB B σ x → (∀ i, i < q → bS B i < 78 → bitn (bal B) (bS B i % 26) = 0) → wl_L_again_146 z (nI 1) v4 Post (d + 1) x (nI q) := by
  intro d
  induction d with
  | zero =>
    intro q σ x hq hB hA
    have e : q = bn B := by omega
    subst e
    exact E hA σ x hB
  | succ d ih =>
    intro q σ x hq hB hA
    obtain ⟨hx, hi, rfl⟩ := id hB
    have hn := hx.2.1.2.2.1
    have hq' : q < bn σ.1 := by omega
    have hSq := hx.2.1.2.2.2.1 q hq'
    refine xq_c0 hx (pk_le (bn σ.1) q (fun w => absurd w (by omega)) (fun _ => ?_))
    by_cases c : bS σ.1 q < 78
    · refine xq_q1a hx hq' c ⟨fun w => absurd w (nI_m5 (by omega)), fun _ => xq_q1a hx hq' c ?_⟩
      rw [cI_nI (by omega)]
      refine isOut_ok hx hi (by omega) (fun σ2 x2 k1 k2 k3 k4 => b_z (fun w => ?_) (fun w => ⟨Or.inr (by decide), P σ2 x2 ⟨k1, k2, k3⟩⟩) (by have := bitn_le (bal σ.1) (bS σ.1 q % 26); omega))
      rw [nI_add]
      refine ih (q + 1) σ2 x2 (by omega) ⟨k1, k2, k3⟩ (fun i hi2 h78 => ?_)
      by_cases e : i = q
      · rw [e]; exact w
      · exact hA i (by omega) h78
    · refine xq_q1b hx hq' (by omega) ⟨fun _ => ?_, fun w => absurd rfl w⟩
      rw [nI_add]
      refine ih (q + 1) σ x (by omega) hB (fun i hi2 h78 => ?_)
      by_cases e : i = q
      · rw [e] at h78; exact absurd h78 c
      · exact hA i (by omega) h78
theorem again129 {τ : St} {z : XS} (w : WB B) (hz : XOK τ z) (ha : bal τ.1 = bal B) (h0 : bn τ.1 = 0) (hn : 0 < bn B) (hl : (fT B (bn B)).1 ≤ 60) (ht : τ.2.2.2.2.2.1 = (fT B (bn B)).1) (ht2 : ∀ i, i < (fT B (bn B)).1 → τ.2.2.2.2.2.2 i = (fT B (bn B)).2 i) (P : ∀ σ x, OnB B σ x → Post (nI 1) x) (σ : St) (x : XS) (hB : OnB B σ x) : wj_L_again_129 x z (nI 1) Post := by
  obtain ⟨F1, F2, F3, p, W, hM⟩ := text_back (Bp := τ.1) w h0 hn hl
  have hw3 := w.2.2.1
  have hz2 := hz.text (g := (fT B (bn B)).2) (fun j hj => ht2 j (by omega))
  have W2 : WFt τ.2.2.2.2.2.1 (fT B (bn B)).2 (bal τ.1) (eN B (bn B)) F1 F2 F3 p := by
    rw [ht, ha]; exact W
  rw [← ha] at hM
  unfold wj_L_again_129
  refine f1 (xq_readFormula (σ := (τ.1, τ.2.1, τ.2.2.1, τ.2.2.2.1, τ.2.2.2.2.1, τ.2.2.2.2.2.1, (fT B (bn B)).2)) hz2 W2 (fun k1 k2 z2 hz3 => ⟨bn B + 1, again146 (fun hA σ x hB => ?_) P (bn B) 0 σ x (by omega) hB (fun i hi => absurd hi (Nat.not_lt_zero _))⟩) (fun k1 k2 z2 hz3 => ⟨bn B + 1, again146 (fun hA σ x hB => ?_) P (bn B) 0 σ x (by omega) hB (fun i hi => absurd hi (Nat.not_lt_zero _))⟩) (fun k1 e he z2 hz3 => ⟨bn B + 1, again146 (fun hA σ x hB => ?_) P (bn B) 0 σ x (by omega) hB (fun i hi => absurd hi (Nat.not_lt_zero _))⟩))
  · have hb := adB_bn (a := bal τ.1) (F1 := F1) (F2 := F2) (F3 := F3) (B := τ.1) (eN B (bn B))
    have hM2 := (hM hA).2
    have e1 : bn τ.1 + qnB (bal τ.1) F1 F2 (eN B (bn B)) = bn B := by rw [← hb.1]; exact hM2.1
    show wl_L_again_146 z2 (nI 1) (nI (bn τ.1 + qnB (bal τ.1) F1 F2 (eN B (bn B)))) Post 1 x (nI (bn B))
    rw [e1]
    exact again146e hz3 ⟨by show bal (adB (bal τ.1) F1 F2 F3 (eN B (bn B)) τ.1) = bal B; rw [hb.2.1]; exact ha, hM2⟩ P σ x hB
  · have hb := adB_bn (a := bal τ.1) (F1 := F1) (F2 := F2) (F3 := F3) (B := τ.1) (eN B (bn B))
    have hM2 := (hM hA).2
    have e1 : bn τ.1 + qnB (bal τ.1) F1 F2 (eN B (bn B)) = bn B := by rw [← hb.1]; exact hM2.1
    have k2 : 40 < bn τ.1 + qnB (bal τ.1) F1 F2 (eN B (bn B)) := k2
    omega
  · obtain ⟨i, hi1, hi2⟩ := k1
    exact absurd ((hM hA).1 i hi1) hi2
theorem again89 {β : BkA} (w : WB B) (ha : bal β = bal B) (h0 : bn β = 0) (hn : 0 < bn B) (hl : (fT B (bn B)).1 ≤ 60) (P : ∀ σ x, OnB B σ x → Post (nI 1) x) : ∀ (d k : Nat) (σ : St) (x : XS) (τ : St) (z : XS), k + d = (fT B (bn B)).1 → OnB B σ x → XOK τ z → τ.1 = β → τ.2.2.2.2.2.1 = k → (∀ i, i < k → τ.2.2.2.2.2.2 i = (fT B (bn B)).2 i) → wl_L_again_89 (nI (fT B (bn B)).1) Post (d + 1) x z (nI 1) (nI k) := by
  have hv := (fT_vt w (bn B) (Nat.le_refl _)).1
  intro d
  induction d with
  | zero =>
    intro k σ x τ z hk hB hz hβ ht ht2
    have e : k = (fT B (bn B)).1 := by omega
    subst hβ
    exact pk_le (fT B (bn B)).1 k (fun _ => again129 w hz ha h0 hn hl (by omega) (fun i hi => ht2 i (by omega)) P σ x hB) (fun w => absurd w (by omega))
  | succ d ih =>
    intro k σ x τ z hk hB hz hβ ht ht2
    obtain ⟨hx, hi, rfl⟩ := id hB
    have hk' : k < (fT σ.1 (bn σ.1)).1 := by omega
    have hc := hv k hk'
    unfold VC at hc
    refine pk_le (fT σ.1 (bn σ.1)).1 k (fun w => absurd w (by omega)) (fun _ => f1 (xq_formula hx (by omega) (fun w => absurd w (by omega)) (fun _ x2 hx2 => ?_)))
    rw [cI_nI (by omega)]
    refine xq_type hz (n := k) ht.symm (by omega) (by omega) (fun z2 hz2 => ⟨fun _ => ?_, fun w => absurd (nI_add k 1).symm w⟩)
    rw [nI_add]
    refine ih (k + 1) σ x2 _ z2 (by omega) ⟨hx2, hi, rfl⟩ hz2 hβ rfl (fun i hi2 => ?_)
    show insF τ.2.2.2.2.2.2 k ((fT σ.1 (bn σ.1)).2 k) i = (fT σ.1 (bn σ.1)).2 i
    unfold insF
    by_cases q : i < k
    · rw [if_pos q]; exact ht2 i q
    · have e : i = k := by omega
      rw [if_neg q, if_pos e, e]
def PI (B : BkA) (l : Nat) (τ : St) : Prop := bn τ.1 = 0 ∧ τ.2.2.2.2.2.1 = 0 ∧ ∀ i, i < 26 → bitn (bal τ.1) i = if i < l then bitn (bal B) i else bitn 6291968 i
theorem again33 (hlB : 1 ≤ lettersN (bal B)) {v1 : Int32} (E : ∀ σ x τ z, OnB B σ x → XOK τ z → PI B 26 τ → ∃ k, wl_L_again_89 v1 Post k x z (nI 1) (nI 0)) : ∀ (d l : Nat) (σ : St) (x : XS) (τ : St) (z : XS), l + d = 26 → OnB B σ x → XOK τ z → PI B l τ → wl_L_again_33 v1 Post (d + 1) x z (nI 1) (nI (65 + l)) := by
  intro d
  induction d with
  | zero =>
    intro l σ x τ z hl hB hz hP
    have e : l = 26 := by omega
    subst e
    exact pk_lt 90 (65 + 26) (fun _ => E σ x τ z hB hz hP) (fun w => absurd w (by omega))
  | succ d ih =>
    intro l σ x τ z hl hB hz hP
    obtain ⟨hx, hi, hσ⟩ := id hB
    have hl26 : l < 26 := by omega
    obtain ⟨p1, p2, p3⟩ := hP
    have hb := bitn_le (bal σ.1) l
    refine pk_lt 90 (65 + l) (fun w => absurd w (by omega)) (fun _ => f1 (isOut_ok hx hi hl26 (fun σ2 x2 k1 k2 k3 k4 => ?_)))
    have J : ∀ τ2 z2, XOK τ2 z2 → PI B (l + 1) τ2 → wj_L_again_70 x2 z2 v1 (nI (65 + l)) (fun q0 q1 q2 q3 => wl_L_again_33 v1 Post (d + 1) q0 q1 q2 q3) Post := by
      intro τ2 z2 h1 h2
      unfold wj_L_again_70 wj_L_again_75
      rintro _ rfl
      rw [nI_add, cI_nI (by omega)]
      exact ih (l + 1) σ2 x2 τ2 z2 (by omega) ⟨k1, k2, k3.trans hσ⟩ h1 h2
    have hbB : bitn (bal σ.1) l = bitn (bal B) l := by rw [hσ]
    refine xq_leaveOut hz hl26 hb (fun e => ⟨fun _ => J τ z hz ⟨p1, p2, fun i hi2 => ?_⟩, fun w => absurd rfl w⟩) (fun e1 e2 e3 => ?_) (fun e1 e2 z2 hz2 => ⟨fun w => absurd w (nI_m5 ?_), fun _ => ⟨fun w => absurd w (nI_nle ?_ ?_), fun _ => J _ z2 hz2 ⟨p1, p2, fun i hi2 => ?_⟩⟩⟩)
    · have h3 := p3 i hi2
      by_cases c : i = l
      · subst c
        rw [if_pos (by omega), e, hbB]
      · by_cases c2 : i < l
        · rw [if_pos c2] at h3; rw [if_pos (by omega), h3]
        · rw [if_neg c2] at h3; rw [if_neg (by omega), h3]
    · exfalso
      obtain ⟨m, hm, hm2⟩ := letters_ex hlB
      have h2 : ∃ j, j < 26 ∧ j ≠ l ∧ bitn (bal τ.1) j = 0 := by
        have hml : m ≠ l := fun z => by rw [z] at hm2; omega
        by_cases c : m < l
        · exact ⟨m, hm, hml, by rw [p3 m hm, if_pos c]; exact hm2⟩
        · exact ⟨25, by decide, by omega, by rw [p3 25 (by decide), if_neg (by omega)]; decide⟩
      obtain ⟨j, hj, hjl, hj0⟩ := h2
      have := sumF_two (f := fun i => 1 - bitn (bal τ.1) i) 26 hl26 hj (fun z => hjl z.symm)
      have h4 : lettersN (bal τ.1) = sumF (fun i => 1 - bitn (bal τ.1) i) 26 := rfl
      have h5 : (1 - bitn (bal τ.1) l) + (1 - bitn (bal τ.1) j) = 2 := by omega
      have this : (1 - bitn (bal τ.1) l) + (1 - bitn (bal τ.1) j) ≤ sumF (fun i => 1 - bitn (bal τ.1) i) 26 := this
      omega
    · have := letters_le (bal τ.1 ^^^ 2 ^ l); omega
    · have hx2 := letters_xor (a := bal τ.1) hl26
      have hbt := bitn_le (bal τ.1) l
      by_cases c : bitn (bal τ.1) l = 0
      · have hin := letters_in hl26 c
        have := hx2.1 c
        have := e2 (by omega)
        omega
      · have := hx2.2 (by omega)
        omega
    · have := letters_le (bal τ.1 ^^^ 2 ^ l); omega
    · show bitn (bal τ.1 ^^^ 2 ^ l) i = _
      rw [bitn_xor]
      have h3 := p3 i hi2
      by_cases c : i = l
      · subst c
        have hbt := bitn_le (bal τ.1) i
        rw [if_pos rfl, if_pos (by omega), ← hbB]
        omega
      · rw [if_neg c]
        by_cases c2 : i < l
        · rw [if_pos c2] at h3; rw [if_pos (by omega), h3]
        · rw [if_neg c2] at h3; rw [if_neg (by omega), h3]
end again
theorem again_ok {σ : St} {x : XS} {Post : Int32 → XS → Prop} (hx : XOK σ x) (hi : INV σ) (P : ∀ σ2 x2, XOK σ2 x2 → INV σ2 → σ2.1 = σ.1 → Post (nI 1) x2) : wp_L_again x Post := by
  have w := hx.2.1
  have hf := fT_len w (bn σ.1) (Nat.le_refl _)
  have hn := w.2.2.1
  have P' : ∀ σ2 x2, OnB σ.1 σ2 x2 → Post (nI 1) x2 := fun σ2 x2 h => P σ2 x2 h.1 h.2.1 h.2.2
  unfold wp_L_again
  refine xq_c7 hx (fun x2 hx2 => b_z (fun _ => P σ x2 hx2 hi rfl) (fun h0 => pk_le (fT σ.1 (bn σ.1)).1 60 (fun h60 => ⟨27, again33 (B := σ.1) hi.1.2 (fun σ2 x3 τ z hB hz hP => ?_) 26 0 σ x2 s00 x00 rfl ⟨hx2, hi, rfl⟩ xok0 ⟨rfl, rfl, fun i _ => by rw [if_neg (Nat.not_lt_zero _)]; rfl⟩⟩) (fun _ => P σ x2 hx2 hi rfl)))
  have hn0 : 0 < bn σ.1 := by
    by_cases c : bn σ.1 = 0
    · rw [c] at h0
      exact absurd rfl h0
    · omega
  obtain ⟨p1, p2, p3⟩ := hP
  have hbal : bal τ.1 = bal σ.1 := bits_eq hz.2.1.1 w.1 (fun i hi => by rw [p3 i hi, if_pos hi])
  exact ⟨(fT σ.1 (bn σ.1)).1 + 1, again89 (β := τ.1) w hbal p1 hn0 h60 P' (fT σ.1 (bn σ.1)).1 0 σ2 x3 τ z (by omega) hB hz rfl p2 (fun i hi => absurd hi (Nat.not_lt_zero _))⟩
