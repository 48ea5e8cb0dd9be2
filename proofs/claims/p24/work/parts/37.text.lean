set_option maxHeartbeats 400000
/-! what the formula's text is made of; the lapses in their order -/
theorem nI_m5 {n : Nat} (h : n < 2 ^ 31) : ¬ nI n = -5 := by
  intro q
  have h1 := congrArg Int32.toInt q
  rw [nI_toInt h] at h1
  have h2 : (-5 : Int32).toInt = -5 := by decide
  omega
def VC (c : Nat) : Prop := c = 44 ∨ c = 45 ∨ c = 42 ∨ (48 ≤ c ∧ c ≤ 57) ∨ (65 ≤ c ∧ c ≤ 90) ∨ (97 ≤ c ∧ c ≤ 122)
def VT (T : TxA) : Prop := ∀ j, j < T.1 → VC (T.2 j)
def cmI (v : Nat) : Nat := if v = 44 then 1 else 0
def cmN (T : TxA) (k : Nat) : Nat := sumF (fun j => cmI (T.2 j)) k
theorem ap_lt {T : TxA} {v j : Nat} (h : j < T.1) : (ap T v).2 j = T.2 j := if_pos h
theorem ap_at {T : TxA} {v : Nat} : (ap T v).2 T.1 = v := by
  show insF T.2 T.1 v T.1 = v
  unfold insF
  rw [if_neg (Nat.lt_irrefl _), if_pos rfl]
theorem VT.ap {T : TxA} {v : Nat} (h : VT T) (hv : VC v) : VT (ap T v) := by
  intro j hj
  have hj : j < T.1 + 1 := hj
  by_cases c : j < T.1
  · rw [ap_lt c]; exact h j c
  · rw [show j = T.1 by omega, ap_at]; exact hv
theorem cm_ap {T : TxA} {v : Nat} : cmN (ap T v) (ap T v).1 = cmN T T.1 + cmI v := by
  show sumF _ T.1 + cmI ((ap T v).2 T.1) = _
  rw [ap_at]
  unfold cmN
  rw [sumF_congr (f := fun j => cmI ((ap T v).2 j)) (g := fun j => cmI (T.2 j)) T.1 (fun j hj => by rw [ap_lt hj])]
theorem chS_vc (s k : Nat) : VC (chS s k) ∧ chS s k ≠ 44 := by
  unfold chS VC
  by_cases c : s < 78
  · rw [if_pos c]
    by_cases c2 : k = 0
    · rw [if_pos c2]; omega
    · rw [if_neg c2]; omega
  · rw [if_neg c]; omega
theorem cmI_0 {v : Nat} (h : v ≠ 44) : cmI v = 0 := if_neg h
theorem wU_vt {s : Nat} {T : TxA} (h : VT T) : ∀ k, VT (wU s k T) ∧ cmN (wU s k T) (wU s k T).1 = cmN T T.1
  | 0 => ⟨h, rfl⟩
  | k + 1 => by
    have ih := wU_vt (s := s) h k
    have hc := chS_vc s k
    refine ⟨ih.1.ap hc.1, ?_⟩
    show cmN (ap (wU s k T) (chS s k)) (ap (wU s k T) (chS s k)).1 = _
    rw [cm_ap, ih.2, cmI_0 hc.2]
    rfl
theorem wNum_vt {z : Nat} {T : TxA} (h : VT T) (hz : z < 100) : VT (wNum z T) ∧ cmN (wNum z T) (wNum z T).1 = cmN T T.1 := by
  unfold wNum
  by_cases c : z < 10
  · rw [if_pos c]
    refine ⟨h.ap (by unfold VC; omega), ?_⟩
    rw [cm_ap, cmI_0 (by omega)]
    rfl
  · rw [if_neg c]
    refine ⟨(h.ap (by unfold VC; omega)).ap (by unfold VC; omega), ?_⟩
    rw [cm_ap, cm_ap, cmI_0 (by omega), cmI_0 (by omega)]
    rfl
theorem fT_vt {B : BkA} (w : WB B) : ∀ q, q ≤ bn B → VT (fT B q) ∧ (1 ≤ q → cmN (fT B q) (fT B q).1 + 1 = eN B q)
  | 0, _ => ⟨fun j hj => absurd hj (Nat.not_lt_zero _), fun h => absurd h (by decide)⟩
  | q + 1, hq => by
    have ih := fT_vt w q (by omega)
    have hz := w.2.2.2.2.1 q (by omega)
    have H : VT (fH B q (fT B q)) ∧ cmN (fH B q (fT B q)) (fH B q (fT B q)).1 + 1 = eN B (q + 1) := by
      unfold fH eN
      by_cases g : goN B q = 0
      · rw [if_pos g, if_pos g]
        unfold cmT
        by_cases c : q = 0
        · rw [if_pos c]
          have h := wU_vt (s := bS B q) ih.1 (tmS (bS B q))
          refine ⟨h.1, ?_⟩
          show cmN (wU _ _ _) (wU _ _ _).1 + 1 = _
          rw [h.2]
          subst c
          rfl
        · rw [if_neg c]
          have h := wU_vt (s := bS B q) (ih.1.ap (v := 44) (Or.inl rfl)) (tmS (bS B q))
          refine ⟨h.1, ?_⟩
          show cmN (wU _ _ _) (wU _ _ _).1 + 1 = _
          rw [h.2, cm_ap]
          have := ih.2 (by omega)
          show cmN (fT B q) (fT B q).1 + 1 + 1 = _
          omega
      · rw [if_neg g, if_neg g]
        have hq0 : 1 ≤ q := by
          by_cases c : q = 0
          · exact absurd (by rw [c]; exact goN_0 B) g
          · omega
        have := ih.2 hq0
        by_cases g2 : goN B (q + 1) = 0
        · rw [if_pos g2]
          have h := wU_vt (s := bS B q) (ih.1.ap (v := 45) (Or.inr (Or.inl rfl))) (tmS (bS B q))
          refine ⟨h.1, ?_⟩
          show cmN (wU _ _ _) (wU _ _ _).1 + 1 = _
          rw [h.2, cm_ap]
          show cmN (fT B q) (fT B q).1 + 0 + 1 = _
          omega
        · rw [if_neg g2]
          exact ⟨ih.1, this⟩
    rw [fT]
    by_cases g : goN B (q + 1) = 0
    · rw [if_pos g]
      have h := wNum_vt (z := bZ B q) H.1 (by omega)
      exact ⟨h.1, fun _ => by rw [h.2]; exact H.2⟩
    · rw [if_neg g]
      exact ⟨H.1, fun _ => H.2⟩
/-- lapses -/
def lpI (B : BkA) (i : Nat) : Nat := if lapO B i = none then 0 else 1
theorem sumF_front (f : Nat → Nat) (d : Nat) : sumF f (d + 1) = f 0 + sumF (fun j => f (j + 1)) d := by
  rw [Nat.add_comm d 1, sumF_add]
  show 0 + f 0 + _ = _
  rw [Nat.zero_add]
  congr 1
  exact sumF_congr d (fun j _ => by rw [Nat.add_comm])
theorem lapF_has {B : BkA} : ∀ (d i m : Nat), (m < sumF (fun t => lpI B (i + t)) d → ∃ j, lapF B d i m = some j) ∧ (sumF (fun t => lpI B (i + t)) d ≤ m → lapF B d i m = none)
  | 0, i, m => ⟨fun h => absurd h (Nat.not_lt_zero _), fun _ => rfl⟩
  | d + 1, i, m => by
    have e : sumF (fun t => lpI B (i + t)) (d + 1) = lpI B i + sumF (fun t => lpI B (i + 1 + t)) d := by
      rw [sumF_front]
      congr 1
      exact sumF_congr d (fun j _ => by rw [show i + (j + 1) = i + 1 + j by omega])
    rw [e, lapF]
    unfold lpI at e ⊢
    by_cases c : lapO B i = none
    · rw [if_pos c, if_pos c]
      have ih := lapF_has (B := B) d (i + 1) m
      unfold lpI at ih
      rw [Nat.zero_add]
      exact ih
    · rw [if_neg c, if_neg c]
      by_cases hm : m = 0
      · rw [if_pos hm]
        exact ⟨fun _ => ⟨i, rfl⟩, fun h => absurd h (by omega)⟩
      · rw [if_neg hm]
        have ih := lapF_has (B := B) d (i + 1) (m - 1)
        unfold lpI at ih
        exact ⟨fun h => ih.1 (by omega), fun h => ih.2 (by omega)⟩
theorem lpN_eq (B : BkA) : lpN B = sumF (fun t => lpI B (0 + t)) (bn B) := sumF_congr (bn B) (fun j _ => by rw [Nat.zero_add]; rfl)
theorem lapF_ge {B : BkA} : ∀ {d i m j : Nat}, lapF B d i m = some j → i ≤ j
  | 0, i, m, j, h => by cases h
  | d + 1, i, m, j, h => by
    rw [lapF] at h
    by_cases c : lapO B i = none
    · rw [if_pos c] at h
      have := lapF_ge h
      omega
    · rw [if_neg c] at h
      by_cases hm : m = 0
      · rw [if_pos hm] at h
        cases h
        exact Nat.le_refl _
      · rw [if_neg hm] at h
        have := lapF_ge h
        omega
theorem lapF_up {B : BkA} : ∀ {d i m j j2 : Nat}, lapF B d i m = some j → lapF B d i (m + 1) = some j2 → j < j2
  | 0, i, m, j, j2, h, _ => by cases h
  | d + 1, i, m, j, j2, h, h2 => by
    rw [lapF] at h h2
    by_cases c : lapO B i = none
    · rw [if_pos c] at h h2
      exact lapF_up h h2
    · rw [if_neg c] at h h2
      rw [if_neg (by omega)] at h2
      by_cases hm : m = 0
      · rw [if_pos hm] at h
        cases h
        have := lapF_ge h2
        omega
      · rw [if_neg hm] at h
        rw [show m + 1 - 1 = m - 1 + 1 by omega] at h2
        exact lapF_up h h2
theorem lap0 (B : BkA) : lapO B 0 = none := by
  unfold lapO
  by_cases c : bS B 0 < 78
  · rw [if_pos c]; rfl
  · rw [if_neg c]
