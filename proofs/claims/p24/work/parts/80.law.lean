set_option maxHeartbeats 400000
/-! the law, all of it -/
section law
variable {σ : St} {x : XS}
theorem law1130 (hx : XOK σ x) (t : Int32) : wj_L_law_1130 x t t := by
  unfold wj_L_law_1130
  exact ⟨fun _ => xq_formula_neg hx ⟨fun _ => xq_c13 hx ⟨fun _ => xq_pneg hx ⟨fun _ => xq_piled2 hx ⟨fun _ => by decide, fun q => absurd rfl q⟩, fun q => absurd rfl q⟩, fun q => absurd rfl q⟩, fun q => absurd rfl q⟩, fun q => absurd rfl q⟩
theorem law1026 (hx : XOK σ x) (hi : INV σ) {n : Nat} (hn : n = bn σ.1) : wj_L_law_1026 x (nI n) := by
  subst hn
  have w := hx.2.1
  have hn := w.2.2.1
  unfold wj_L_law_1026
  refine xq_c0 hx ⟨fun _ => hangs_ok hx hi.1.1 (fun x2 hx2 => f1 ?_), fun q => absurd rfl q⟩
  rw [nI_add]
  refine xq_insert_out hx2 (q := bn σ.1 + 1) (Nat.lt_succ_self _) (by omega) ⟨fun _ => xq_insert_bad hx2 ⟨fun _ => xq_signNext_bad hx2 ⟨fun _ => xq_leaveOut_bad hx2 ⟨fun _ => xq_setSigning_bad hx2 ⟨fun _ => xq_lose_out hx2 (fun j hj e => nI_m1 (by have := w.lvs; omega) e.symm) ⟨fun _ => ?_, fun q => absurd rfl q⟩, fun q => absurd rfl q⟩, fun q => absurd rfl q⟩, fun q => absurd rfl q⟩, fun q => absurd rfl q⟩, fun q => absurd rfl q⟩
  by_cases c : bn σ.1 = 0
  · refine xq_qout hx2 (q := 0) (by omega) (by decide) ⟨fun _ => law1130 hx2 _, fun q => absurd ?_ q⟩
    rw [c]
    decide
  · exact xq_q7 hx2 (q := 0) (by omega) ⟨fun q => absurd q (nI_nle (by omega) (by omega)), fun _ => law1130 hx2 _⟩
theorem law975 (hx : XOK σ x) (hi : INV σ) : wj_L_law_975 x (nI 1) (nI (sumF (fun j => shN 4 (bZ σ.1 j)) (bn σ.1))) (nI (bn σ.1)) := by
  have w := hx.2.1
  have hn := w.2.2.1
  have hlv := w.lvs
  unfold wj_L_law_975
  refine f1 (xq_sheets4 hx ⟨fun _ => xq_sheets3 hx ⟨fun _ => pk_eq (bn σ.1) 40 (fun _ => law1026 hx hi rfl) (fun e => ?_), fun q => absurd rfl q⟩, fun q => absurd rfl q⟩)
  refine xq_insert hx (Nat.le_refl _) (by decide) (by decide) (by decide) (by decide) (fun q => absurd q e) (fun _ x2 hx2 => ⟨fun q => absurd q (nI_nle ?_ ?_), fun _ => ?_⟩)
  · show 0 < sumF (insF (bZ σ.1) (bn σ.1) 24) (bn σ.1 + 1)
    rw [sum_ins _ _ _ _ (Nat.le_refl _)]
    omega
  · show sumF (insF (bZ σ.1) (bn σ.1) 24) (bn σ.1 + 1) < 2 ^ 31
    rw [sum_ins _ _ _ _ (Nat.le_refl _)]
    have : lvs σ.1 = sumF (bZ σ.1) (bn σ.1) := rfl
    omega
  · exact xq_back hi hx.st4 hx2 (fun k σ2 x3 hk k1 k2 k3 k4 => b_neg (n := k) (law1026 k1 k2 (by rw [k3])))
theorem law928 : ∀ (d q : Nat) (σ : St) (x : XS), q + d = bn σ.1 → XOK σ x → INV σ → wl_L_law_928 (nI 1) (d + 1) x (nI (sumF (fun j => shN 4 (bZ σ.1 j)) q)) (nI q) := by
  intro d
  induction d with
  | zero =>
    intro q σ x hq hx hi
    have hn := hx.2.1.2.2.1
    have e : q = bn σ.1 := by omega
    refine xq_c0 hx (pk_le (bn σ.1) q (fun _ => ?_) (fun z => absurd z (by omega)))
    unfold wj_L_law_962
    rw [e]
    exact f1 (xq_c0 hx (law975 hx hi))
  | succ d ih =>
    intro q σ x hq hx hi
    have hn := hx.2.1.2.2.1
    have hz := hx.2.1.2.2.2.2.1 q (by omega)
    have ih2 := ih (q + 1) σ x (by omega) hx hi
    rw [sumF] at ih2
    refine xq_c0 hx (pk_le (bn σ.1) q (fun z => absurd z (by omega)) (fun _ => f1 (xq_q2 hx (q := q) (by omega) ?_)))
    rintro _ rfl
    rw [nI_add (bZ σ.1 q) 3, pk_div (by omega) (by decide) (by decide), nI_add, nI_add q 1]
    exact ih2
theorem law906 (hx : XOK σ x) (hi : INV σ) : wj_L_law_906 x (nI 1) := by
  unfold wj_L_law_906
  exact f1 (again_ok hx hi (fun σ2 x2 k1 k2 k3 => f1 ⟨bn σ2.1 + 1, law928 (bn σ2.1) 0 σ2 x2 (by omega) k1 k2⟩))
theorem law71 : ∀ (d i : Nat) (σ : St) (x : XS), i + d = 26 → XOK σ x → INV σ → wl_L_law_71 (d + 1) x (nI 1) (nI i) := by
  intro d
  induction d with
  | zero =>
    intro i σ x hd hx hi
    exact pk_le 26 i (fun _ => law906 hx hi) (fun q => absurd q (by omega))
  | succ d ih =>
    intro i σ x hd hx hi
    have k : KK (fun q0 q1 q2 => wl_L_law_71 (d + 1) q0 q1 q2) i := fun σ2 x2 h1 h2 => ih (i + 1) σ2 x2 (by omega) h1 h2
    refine pk_le 26 i (fun q => absurd q (by omega)) (fun _ => f1 ⟨⟨i, by omega, rfl⟩, fun c hc => ?_⟩)
    have hc : c < 2 ^ 31 := hc
    rintro _ rfl
    have hv : c / 16 < 2 ^ 31 := by omega
    rw [pk_div hc (by decide) (by decide)]
    generalize c / 16 = v at hv ⊢
    refine xq_c0 hx (xq_c1 hx ?_)
    rintro _ rfl
    rintro y ey
    clear ey
    have hz : v / 4 % 24 < 24 := Nat.mod_lt _ (by decide)
    rw [pk_div hv (by decide) (by decide), pk_rem (by omega) (by decide) (by decide), nI_add]
    have h192 := law192 k hx hi (z := 1 + v / 4 % 24) (by omega) (by omega)
    have h265 := law265 k hx hi (z := 1 + v / 4 % 24) (by omega) (by omega) hv
    have h406 := law406 k hx hi hv
    exact ⟨fun _ => h192, fun _ => ⟨fun _ => h192, fun _ => ⟨fun _ => h192, fun _ => ⟨fun _ => h192, fun _ => ⟨fun _ => h192, fun _ => ⟨fun _ => h265, fun _ => ⟨fun _ => h265, fun _ => ⟨fun _ => law7 k hx hi hv, fun _ => ⟨fun _ => h406, fun _ => ⟨fun _ => h406, fun _ => ⟨fun _ => h406, fun _ => ⟨fun _ => law11 k hx hi hv, fun _ => ⟨fun _ => law12 k hx hi hv, fun _ => law13 k hx hi (by omega) hv⟩⟩⟩⟩⟩⟩⟩⟩⟩⟩⟩⟩⟩
theorem wp_law : wp_L_law := by
  unfold wp_L_law
  refine xq_undo0 xok0 rfl ⟨fun _ => xq_restore0 xok0 rfl ⟨fun _ => xq_c4 xok0 ⟨fun _ => xq_c7 xok0 (fun x1 h1 => ⟨fun _ => xq_readFormula0 h1 rfl (fun x2 h2 => ⟨fun _ => xq_find0 h2 rfl (fun x3 h3 => ⟨fun _ => ⟨27, law71 26 0 s00 x3 rfl h3 inv00⟩, fun q => absurd rfl q⟩), fun q => absurd rfl q⟩), fun q => absurd nI_0 q⟩), fun q => absurd (by decide) q⟩, fun q => absurd rfl q⟩, fun q => absurd rfl q⟩
end law
