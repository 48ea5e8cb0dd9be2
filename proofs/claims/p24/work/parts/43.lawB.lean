set_option maxHeartbeats 400000
/-! the law's text of up to three entries -/
theorem SgAt.up {T U : TxA} {p s : Nat} (h : PreT T U) (g : SgAt T.1 T.2 p s) : SgAt U.1 U.2 p s := by
  have h1 := h.1
  have g1 := g.1
  exact ⟨by omega, fun k hk => by rw [h.2 _ (by omega)]; exact g.2 k hk⟩
theorem NmAt.up {T U : TxA} {p z : Nat} (h : PreT T U) (g : NmAt T.1 T.2 p z) : NmAt U.1 U.2 p z := by
  have h1 := h.1
  have hl := nmL_le z
  obtain ⟨g1, g2, g3⟩ := g
  refine ⟨by omega, fun c => ?_, fun c => ?_⟩
  · rw [h.2 _ (by omega)]; exact g2 c
  · have e : nmL z = 2 := if_neg (by omega)
    rw [h.2 _ (by omega), h.2 _ (by omega)]
    exact g3 c
theorem EnAt.up {T U : TxA} {p f z : Nat} (h : PreT T U) (g : EnAt T.1 T.2 p f f z) : EnAt U.1 U.2 p f f z := ⟨g.1.up h, fun _ => (g.2.1 rfl).up h, fun q => absurd rfl q⟩
def TW (T : TxA) (k : Nat) : Prop := T.1 ≤ 4 * k ∧ ∃ F F3 p : Nat → Nat, (0 < k → p 0 = 0) ∧ ∀ j, j < k → F j < 78 ∧ (1 ≤ F3 j ∧ F3 j ≤ 24) ∧ EnAt T.1 T.2 (p j) (F j) (F j) (F3 j)
  ∧ (j + 1 < k → p j + enL (F j) (F j) (F3 j) < T.1 ∧ T.2 (p j + enL (F j) (F j) (F3 j)) = 44 ∧ p (j + 1) = p j + enL (F j) (F j) (F3 j) + 1) ∧ (j + 1 = k → p j + enL (F j) (F j) (F3 j) = T.1)
theorem TW.step {T : TxA} {k s z : Nat} (h : TW T k) (hs : s < 52) (hz1 : 1 ≤ z) (hz2 : z ≤ 9) : TW (wNum z (wSg s (cmT k T))) (k + 1) := by
  obtain ⟨h1, F, F3, p, h2, h3⟩ := h
  have ht : tmS s ≤ 2 := by unfold tmS; rw [if_pos (by omega)]; omega
  have hnm : nmL z = 1 := if_pos (by omega)
  have l1 := wSg_len s (cmT k T)
  have l2 := nm_len z (wSg s (cmT k T))
  have l3 := cmT_len k T
  have p2 : PreT (wSg s (cmT k T)) (wNum z (wSg s (cmT k T))) := pre_wNum _ _
  have p1 : PreT (cmT k T) (wNum z (wSg s (cmT k T))) := (pre_wSg _ _).tr p2
  have p0 : PreT T (wNum z (wSg s (cmT k T))) := (pre_cmT k T).tr p1
  have t1 := tmS_pos (s := s)
  refine ⟨by omega, insF F k s, insF F3 k z, insF p k (cmT k T).1, fun _ => ?_, fun j hj => ?_⟩
  · by_cases c : k = 0
    · subst c
      rw [insF_at]
      show (cmT 0 T).1 = 0
      unfold cmT
      rw [if_pos rfl]
      omega
    · have e : insF p k (cmT k T).1 0 = p 0 := if_pos (by omega)
      rw [e]
      exact h2 (by omega)
  · by_cases c : j < k
    · have lo : ∀ (f : Nat → Nat) (v : Nat), insF f k v j = f j := fun f v => if_pos c
      rw [lo, lo, lo]
      obtain ⟨k1, k2, k3, k4, k5⟩ := h3 j c
      refine ⟨k1, k2, k3.up p0, fun _ => ?_, fun q => absurd q (by omega)⟩
      by_cases c2 : j + 1 < k
      · have lo2 : insF p k (cmT k T).1 (j + 1) = p (j + 1) := if_pos c2
        obtain ⟨q1, q2, q3⟩ := k4 c2
        rw [lo2]
        refine ⟨by have := p0.1; omega, ?_, q3⟩
        rw [p0.2 _ q1]
        exact q2
      · have e : j + 1 = k := by omega
        have e5 := k5 e
        have ec : cmT k T = ap T 44 := if_neg (by omega)
        rw [e5, e, insF_at]
        refine ⟨?_, ?_, ?_⟩
        · rw [l2, l1, ec]
          show T.1 < T.1 + 1 + _ + _
          omega
        · rw [ec] at p1
          rw [ec, p1.2 _ (Nat.lt_succ_self _), ap_at]
        · rw [ec]
          rfl
    · have e : j = k := by omega
      subst e
      rw [insF_at, insF_at, insF_at]
      refine ⟨by omega, ⟨hz1, by omega⟩, ⟨sg_at p2, fun _ => ?_, fun q => absurd rfl q⟩, fun q => absurd q (by omega), fun _ => ?_⟩
      · rw [← l1]
        exact nm_at (PreT.rf _)
      · unfold enL
        rw [if_pos rfl, l2, l1]
        omega
theorem adE_bpn {a f z : Nat} {B : BkA} (h : bpn B = 0) : ∀ k, bpn (adE a f z k B) = 0
  | 0 => h
  | k + 1 => by
    rw [adE]
    by_cases c : skp a (f + k) = 0
    · rw [if_pos c]
    · rw [if_neg c]; exact adE_bpn h k
theorem adB_bpn {a : Nat} {F1 F2 F3 : Nat → Nat} {B : BkA} (h : bpn B = 0) : ∀ j, bpn (adB a F1 F2 F3 j B) = 0
  | 0 => h
  | j + 1 => by
    rw [adB]
    exact adE_bpn (adB_bpn h j) _
theorem qnB_one {a : Nat} {F : Nat → Nat} : ∀ m, (∀ j, j < m → AOK a F j) → qnB a F F m = m
  | 0, _ => rfl
  | m + 1, h => by
    show qnB a F F m + qnE a (F m) (F m - F m + 1) = m + 1
    rw [qnB_one m (fun j hj => h j (by omega)), Nat.sub_self]
    show m + (0 + (1 - skp a (F m + 0))) = m + 1
    rw [Nat.add_zero (F m), skp_end (h m (Nat.lt_succ_self m))]
theorem fault_le {e : Nat} (h : e ≤ 60) : (-100) - nI e ≤ -100 := by
  have H : ∀ e, e < 61 → (-100) - nI e ≤ -100 := by decide
  exact H e (by omega)
section acts
variable {σ : St} {x : XS} {i : Nat} {K : XS → Int32 → Int32 → Prop} {K720 : XS → Int32 → Int32 → Prop}
def txt (σ : St) : TxA := (σ.2.2.2.2.2.1, σ.2.2.2.2.2.2)
theorem law806 {v3 v6 v24 t : Int32} {k c : Nat} (hx : XOK σ x) (hi : INV σ) (hc : c < 2 ^ 31) (hl : (txt σ).1 < 60) (J : ∀ σ2 x2 z, 1 ≤ z → z ≤ 9 → XOK σ2 x2 → INV σ2 → σ2.1 = σ.1 → txt σ2 = wNum z (txt σ) → K720 x2 (nI 1) (nI (k + 1))) : wj_L_law_806 x v3 v6 v24 (nI k) (nI c) t K K720 := by
  unfold wj_L_law_806
  rw [pk_div hc (by decide) (by decide), pk_rem (by omega) (by decide) (by decide), nI_add]
  have hz : c / 64 % 9 < 9 := Nat.mod_lt _ (by decide)
  generalize c / 64 % 9 = e at hz ⊢
  have hl : σ.2.2.2.2.2.1 < 60 := hl
  rw [cI_nI (by omega)]
  refine xq_type hx (n := σ.2.2.2.2.2.1) rfl hl (by omega) (fun x2 hx2 => ⟨fun q => absurd q (nI_nle (by omega) (by omega)), fun _ => ?_⟩)
  rw [nI_add]
  refine J _ x2 (1 + e) (by omega) (by omega) hx2 hi rfl ?_
  unfold wNum
  rw [if_pos (by omega), Nat.mod_eq_of_lt (by omega), show 48 + (1 + e) = 49 + e by omega]
  rfl
theorem law761 {v3 v6 v24 t : Int32} {k c : Nat} (hx : XOK σ x) (hi : INV σ) (hc : c < 2 ^ 31) (hl : (txt σ).1 + 2 < 60) (J : ∀ σ2 x2 s z, s < 52 → 1 ≤ z → z ≤ 9 → XOK σ2 x2 → INV σ2 → σ2.1 = σ.1 → txt σ2 = wNum z (wSg s (txt σ)) → K720 x2 (nI 1) (nI (k + 1))) : wj_L_law_761 x v3 v6 v24 (nI k) (nI c) t K K720 := by
  unfold wj_L_law_761
  have hz : c % 9 < 9 := Nat.mod_lt _ (by decide)
  rw [pk_rem hc (by decide) (by decide), nI_add, nI_add]
  generalize c % 9 = l at hz ⊢
  have hl : σ.2.2.2.2.2.1 + 2 < 60 := hl
  rw [cI_nI (v := 65 + l) (by omega), cI_nI (v := 97 + l) (by omega)]
  refine xq_type hx (n := σ.2.2.2.2.2.1) rfl (by omega) (by omega) (fun x2 hx2 => ⟨fun _ => ?_, fun _ => ?_⟩)
  · refine xq_type hx2 (n := σ.2.2.2.2.2.1 + 1) rfl (by omega) (by omega) (fun x3 hx3 => law806 hx3 hi hc (show σ.2.2.2.2.2.1 + 1 + 1 < 60 by omega) (fun σ4 x4 z h1 h2 h3 h4 h5 h6 => J σ4 x4 (26 + l) z (by omega) h1 h2 h3 h4 h5 (h6.trans ?_)))
    have e : wSg (26 + l) (txt σ) = ap (ap (txt σ) (65 + l)) (97 + l) := by
      unfold wSg
      rw [show tmS (26 + l) = 2 by unfold tmS; rw [if_pos (by omega)]; omega]
      show ap (ap (txt σ) (chS (26 + l) 0)) (chS (26 + l) 1) = _
      have c0 : chS (26 + l) 0 = 65 + l := by unfold chS; rw [if_pos (by omega), if_pos rfl]; omega
      have c1 : chS (26 + l) 1 = 97 + l := by unfold chS; rw [if_pos (by omega), if_neg (by decide)]; omega
      rw [c0, c1]
    rw [e]
    rfl
  · refine law806 hx2 hi hc (show σ.2.2.2.2.2.1 + 1 < 60 by omega) (fun σ4 x4 z h1 h2 h3 h4 h5 h6 => J σ4 x4 l z (by omega) h1 h2 h3 h4 h5 (h6.trans ?_))
    have e : wSg l (txt σ) = ap (txt σ) (65 + l) := by
      unfold wSg
      rw [show tmS l = 1 by unfold tmS; rw [if_pos (by omega)]; omega]
      show ap (txt σ) (chS l 0) = _
      have c0 : chS l 0 = 65 + l := by unfold chS; rw [if_pos (by omega), if_pos rfl]; omega
      rw [c0]
    rw [e]
    rfl
theorem law843 (k : KK K i) (hx : XOK σ x) (hi : INV σ) {m : Nat} (hm1 : 1 ≤ m) (hm2 : m ≤ 3) (h : TW (txt σ) m) : wj_L_law_843 x (nI 1) (nI i) (nI (bn σ.1)) (nI m) K := by
  obtain ⟨h1, F, F3, p, h2, h3⟩ := h
  have W : WFt σ.2.2.2.2.2.1 σ.2.2.2.2.2.2 (bal σ.1) m F F F3 p := ⟨hm1, by omega, h2 hm1, fun j hj => by
    obtain ⟨k1, k2, k3, k4, k5⟩ := h3 j hj
    exact ⟨⟨by omega, Nat.le_refl _⟩, fun q => absurd rfl q, k2, k3, k4, k5⟩⟩
  unfold wj_L_law_843
  refine xq_readFormula hx W (fun a1 a2 x2 hx2 => f1 ?_) (fun a1 a2 x2 hx2 => f1 ⟨fun _ => law883 k hx2 hi, fun _ => ⟨fun _ => law883 k hx2 hi, fun q => absurd rfl q⟩⟩) (fun a1 e he x2 hx2 => f1 ⟨fun _ => law883 k hx2 hi, fun q => absurd (fault_le he) q⟩)
  have hb := adB_bn (a := bal σ.1) (F1 := F) (F2 := F) (F3 := F3) (B := σ.1) m
  have hi2 : INV (actS σ (adB (bal σ.1) F F F3 m σ.1)) := hi.act hx.st4 ⟨adB_bpn hi.1.1 m, by rw [hb.2.1]; exact hi.1.2⟩
  rw [qnB_one m a1]
  exact ⟨fun _ => law883 k hx2 hi2, fun _ => ⟨fun _ => law883 k hx2 hi2, fun _ => ⟨fun _ => law883 k hx2 hi2, fun q => absurd (nI_add _ _).symm q⟩⟩⟩
theorem law720 (k : KK K i) (hi26 : i < 26) {m : Nat} (hm1 : 1 ≤ m) (hm2 : m ≤ 3) {B : BkA} : ∀ (d n : Nat) (σ : St) (x : XS), n + d = m → XOK σ x → INV σ → σ.1 = B → TW (txt σ) n → wl_L_law_720 (nI i) (nI (bn B)) (nI m) K (d + 1) x (nI 1) (nI n) := by
  intro d
  induction d with
  | zero =>
    intro n σ x hn hx hi hB hT
    have e : n = m := by omega
    subst e
    subst hB
    exact pk_le n n (fun _ => law843 k hx hi hm1 hm2 hT) (fun q => absurd q (by omega))
  | succ d ih =>
    intro n σ x hn hx hi hB hT
    have hl := hT.1
    have hl' : σ.2.2.2.2.2.1 ≤ 4 * n := hl
    refine pk_le m n (fun q => absurd q (by omega)) (fun _ => f1 ⟨⟨30 + 3 * i + n, by omega, by rw [pk_mul, nI_add, nI_add]⟩, fun c hc => ?_⟩)
    by_cases h0 : n = 0
    · subst h0
      refine ⟨fun _ => law761 hx hi hc (by omega) (fun σ2 x2 s z h1 h2 h3 h4 h5 h6 h7 => ih (0 + 1) σ2 x2 (by omega) h4 h5 (h6.trans hB) ?_), fun q => absurd (by decide) q⟩
      rw [h7]
      exact hT.step h1 h2 h3
    · refine ⟨fun q => absurd q (nI_nle (by omega) (by omega)), fun _ => xq_type hx (n := σ.2.2.2.2.2.1) rfl (by omega) (by decide) (fun x1 hx1 => law761 hx1 hi hc (show σ.2.2.2.2.2.1 + 1 + 2 < 60 by omega) (fun σ2 x2 s z h1 h2 h3 h4 h5 h6 h7 => ih (n + 1) σ2 x2 (by omega) h4 h5 (h6.trans hB) ?_))⟩
      rw [h7]
      have e : cmT n (txt σ) = ap (txt σ) 44 := if_neg h0
      have S := hT.step h1 h2 h3
      rw [e] at S
      exact S
theorem law13 (k : KK K i) (hx : XOK σ x) (hi : INV σ) (hi26 : i < 26) {v : Nat} (hv : v < 2 ^ 31) : wx_clearText x (fun r131 x133 => ((r131 < 0 → wj_L_law_708 x133 (nI i) (nI v) (nI (bn σ.1)) (nI 0) K) ∧ (¬ r131 < 0 → wj_L_law_708 x133 (nI i) (nI v) (nI (bn σ.1)) (nI 1) K))) := by
  have h60 := hx.txt.n60
  refine xq_clear hx (fun x2 hx2 => b_neg (n := σ.2.2.2.2.2.1) ?_)
  unfold wj_L_law_708
  rw [pk_rem hv (by decide) (by decide), nI_add]
  rintro _ rfl
  have hg : v % 3 < 3 := Nat.mod_lt _ (by decide)
  exact ⟨1 + v % 3 + 1, law720 (B := σ.1) k hi26 (by omega) (by omega) (1 + v % 3) 0 _ x2 (by omega) hx2 hi rfl ⟨Nat.zero_le _, fun _ => 0, fun _ => 0, fun _ => 0, fun q => absurd q (by decide), fun j hj => absurd hj (Nat.not_lt_zero _)⟩⟩
end acts
