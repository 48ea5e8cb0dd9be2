set_option maxHeartbeats 400000
def EOK (a md : Nat) (E1 E2 E3 : Nat → Nat) (c : Nat) : Prop := ∀ j, j < c → E1 j < 83 ∧ E2 j < 83 ∧ E1 j ≤ E2 j ∧ (E1 j ≠ E2 j → E2 j < 78) ∧ (md = 0 → E1 j = E2 j) ∧ tmS (E1 j) = tmS (E2 j) ∧ (E1 j < 78 → bitn a (E1 j % 26) = 0) ∧ (E2 j < 78 → bitn a (E2 j % 26) = 0) ∧ 1 ≤ E3 j ∧ E3 j ≤ 24
abbrev addS (B : BkA) (sn z : Nat) : BkA := (bal B, bsg B, bn B + 1, insF (bS B) (bn B) sn, insF (bZ B) (bn B) z, insF (bL B) (bn B) 0, 0, bP B)
def skp (a s : Nat) : Nat := if s < 78 then bitn a (s % 26) else 0
def adE (a f z : Nat) : Nat → BkA → BkA
  | 0, B => B
  | k + 1, B => if skp a (f + k) = 0 then addS (adE a f z k B) (f + k) z else adE a f z k B
def qnE (a f k : Nat) : Nat := sumF (fun i => 1 - skp a (f + i)) k
theorem skp_le (a s : Nat) : skp a s ≤ 1 := by
  have := bitn_le a (s % 26)
  unfold skp
  split <;> omega
theorem adE_bn {a f z : Nat} {B : BkA} : ∀ k, bn (adE a f z k B) = bn B + qnE a f k ∧ bal (adE a f z k B) = bal B ∧ bsg (adE a f z k B) = bsg B
  | 0 => ⟨rfl, rfl, rfl⟩
  | k + 1 => by
    have h := adE_bn (a := a) (f := f) (z := z) (B := B) k
    have h2 := skp_le a (f + k)
    have e : qnE a f (k + 1) = qnE a f k + (1 - skp a (f + k)) := rfl
    rw [adE, e]
    by_cases c : skp a (f + k) = 0
    · rw [if_pos c]
      refine ⟨?_, h.2.1, h.2.2⟩
      show bn (adE a f z k B) + 1 = _
      omega
    · rw [if_neg c]
      exact ⟨by omega, h.2.1, h.2.2⟩
theorem qnE_mono (a f : Nat) {j k : Nat} (h : j ≤ k) : qnE a f j ≤ qnE a f k := sumF_mono h
theorem wb_adE {a f z : Nat} {B : BkA} (w : WB B) (hz1 : 1 ≤ z) (hz2 : z ≤ 24) : ∀ k, f + k ≤ 83 → bn B + qnE a f k ≤ 40 → WB (adE a f z k B)
  | 0, _, _ => w
  | k + 1, h1, h2 => by
    have hm := qnE_mono a f (show k ≤ k + 1 by omega)
    have ih := wb_adE (a := a) (f := f) w hz1 hz2 k (by omega) (by omega)
    have hb := adE_bn (a := a) (f := f) (z := z) (B := B) k
    have e : qnE a f (k + 1) = qnE a f k + (1 - skp a (f + k)) := rfl
    rw [adE]
    by_cases c : skp a (f + k) = 0
    · rw [if_pos c]
      exact wb_ins ih (Nat.le_refl _) (by omega) (by omega) hz1 hz2
    · rw [if_neg c]; exact ih
def RB (B : BkA) (r1 r2 r3 r4 : RowT) : Prop := RowN 40 (bn B) (bS B) r1 ∧ RowN 40 (bn B) (bZ B) r2 ∧ RowN 40 (bn B) (bL B) r3 ∧ RowN 12 (bpn B) (bP B) r4
theorem x_addS {B : BkA} {r1 r2 r3 r4 : RowT} {sn z : Nat} {Post : RowT → RowT → RowT → RowT → Prop} (h : RB B r1 r2 r3 r4) (hn : bn B < 40) (P : ∀ u1 u2 u3 u4, RB (addS B sn z) u1 u2 u3 u4 → Post u1 u2 u3 u4) : wp_X1_addQuire r1 r2 r3 r4 (nI (bn B)) (nI sn) (nI z) Post :=
  x_addQuire (B := B) h.1 h.2.1 h.2.2.1 h.2.2.2 (Nat.le_refl _) hn (fun u1 u2 u3 u4 g1 g2 g3 g4 => P u1 u2 u3 u4 ⟨g1, g2, g3, g4⟩)
theorem xl_addEntry {a f l z : Nat} {B : BkA} {e1 e2 e3 : RowT} {Post : RowT → RowT → RowT → RowT → Prop} (ha : a < 2 ^ 26) (hf : f ≤ l) (hl : l < 83) (hl2 : f ≠ l → l < 78) (hn : bn B + qnE a f (l - f + 1) ≤ 40) (P : ∀ u1 u2 u3 u4, RB (adE a f z (l - f + 1) B) u1 u2 u3 u4 → Post u1 u2 u3 u4) :
    ∀ (d k : Nat) (r1 r2 r3 r4 : RowT), k + d = l - f + 1 → 1 ≤ k → RB (adE a f z k B) r1 r2 r3 r4 → wl_X8_addEntry_53 (nI a) e1 e2 e3 (nI l) (nI z) Post (d + 1) r1 r2 r3 r4 (nI (f + k)) := by
  intro d
  induction d with
  | zero =>
    intro k r1 r2 r3 r4 hk hk1 h
    refine pk_lt l (f + k) (fun _ => ?_) (fun c => absurd c (by omega))
    have e : k = l - f + 1 := by omega
    subst e
    exact P _ _ _ _ h
  | succ d ih =>
    intro k r1 r2 r3 r4 hk hk1 h
    have hm := qnE_mono a f (show k + 1 ≤ l - f + 1 by omega)
    have hb := adE_bn (a := a) (f := f) (z := z) (B := B) k
    have e : qnE a f (k + 1) = qnE a f k + (1 - skp a (f + k)) := rfl
    have hsk : skp a (f + k) = bitn a ((f + k) % 26) := if_pos (by omega)
    refine pk_lt l (f + k) (fun c => absurd c (by omega)) (fun _ => x_letter (by omega) (x_has (by omega) (by omega) (fun c => f1 (x_quires h.1 (x_addS h (by omega) (fun u1 u2 u3 u4 g => ?_)))) (fun c => f0 ?_)))
    · rw [nI_add (f + k) 1]
      refine ih (k + 1) u1 u2 u3 u4 (by omega) (by omega) ?_
      rw [adE, if_pos (by omega)]
      exact g
    · rw [nI_add (f + k) 1]
      refine ih (k + 1) r1 r2 r3 r4 (by omega) (by omega) ?_
      rw [adE, if_neg (by omega)]
      exact h
/-- the entries, one behind the other -/
def adB (a : Nat) (F1 F2 F3 : Nat → Nat) : Nat → BkA → BkA
  | 0, B => B
  | j + 1, B => adE a (F1 j) (F3 j) (F2 j - F1 j + 1) (adB a F1 F2 F3 j B)
def qnB (a : Nat) (F1 F2 : Nat → Nat) (j : Nat) : Nat := sumF (fun j => qnE a (F1 j) (F2 j - F1 j + 1)) j
theorem adB_bn {a : Nat} {F1 F2 F3 : Nat → Nat} {B : BkA} : ∀ j, bn (adB a F1 F2 F3 j B) = bn B + qnB a F1 F2 j ∧ bal (adB a F1 F2 F3 j B) = bal B ∧ bsg (adB a F1 F2 F3 j B) = bsg B
  | 0 => ⟨rfl, rfl, rfl⟩
  | j + 1 => by
    have h := adB_bn (a := a) (F1 := F1) (F2 := F2) (F3 := F3) (B := B) j
    have h2 := adE_bn (a := a) (f := F1 j) (z := F3 j) (B := adB a F1 F2 F3 j B) (F2 j - F1 j + 1)
    have e : qnB a F1 F2 (j + 1) = qnB a F1 F2 j + qnE a (F1 j) (F2 j - F1 j + 1) := rfl
    rw [adB, e]
    exact ⟨by omega, h2.2.1.trans h.2.1, h2.2.2.trans h.2.2⟩
theorem wb_adB {a : Nat} {F1 F2 F3 : Nat → Nat} {B : BkA} (w : WB B) : ∀ j, EOK a 1 F1 F2 F3 j → bn B + qnB a F1 F2 j ≤ 40 → WB (adB a F1 F2 F3 j B)
  | 0, _, _ => w
  | j + 1, hE, hq => by
    have e : qnB a F1 F2 (j + 1) = qnB a F1 F2 j + qnE a (F1 j) (F2 j - F1 j + 1) := rfl
    have hj := hE j (Nat.lt_succ_self j)
    have hb := adB_bn (a := a) (F1 := F1) (F2 := F2) (F3 := F3) (B := B) j
    exact wb_adE (wb_adB w j (fun i hi => hE i (by omega)) (by omega)) hj.2.2.2.2.2.2.2.2.1 hj.2.2.2.2.2.2.2.2.2 _ (by omega) (by omega)
theorem xl_rform {a c : Nat} {F1 F2 F3 : Nat → Nat} {B : BkA} {sg : Int32} {v : HistT} {t1 e1 e2 e3 : RowT} {p : Int32} {Post : Int32 → RowT → RowT → RowT → RowT → HistT → RowT → RowT → RowT → Int32 → Prop} (ha : a < 2 ^ 26) (hc : c ≤ 20) (hE : EOK a 1 F1 F2 F3 c) (k1 : RowN 20 c F1 e1) (k2 : RowN 20 c F2 e2) (k3 : RowN 20 c F3 e3) (hn : bn B + qnB a F1 F2 c ≤ 40)
    (P : ∀ u1 u2 u3 u4, RB (adB a F1 F2 F3 c B) u1 u2 u3 u4 → Post (nI (bn (adB a F1 F2 F3 c B))) u1 u2 u3 u4 v e1 e2 e3 p) : ∀ (d j : Nat) (r1 r2 r3 r4 : RowT), j + d = c → RB (adB a F1 F2 F3 j B) r1 r2 r3 r4 → wl_X8_readFormula_58 (nI a) sg v t1 e1 e2 e3 p Post (d + 1) r1 r2 r3 r4 (nI j) := by
  intro d
  induction d with
  | zero =>
    intro j r1 r2 r3 r4 hj h
    have e : j = c := by omega
    subst e
    exact s_length k3 (pk_le j j (fun _ => x_quires h.1 (P _ _ _ _ h)) (fun z => absurd z (by omega)))
  | succ d ih =>
    intro j r1 r2 r3 r4 hj h
    obtain ⟨q1, q2, q3, q4, q5, q6, q7, q8, q9, q10⟩ := hE j (by omega)
    have hb := adB_bn (a := a) (F1 := F1) (F2 := F2) (F3 := F3) (B := B) j
    have hm : qnB a F1 F2 (j + 1) ≤ qnB a F1 F2 c := sumF_mono (by omega)
    have e : qnB a F1 F2 (j + 1) = qnB a F1 F2 j + qnE a (F1 j) (F2 j - F1 j + 1) := rfl
    have hsk : skp a (F1 j) = 0 := by
      unfold skp
      by_cases c : F1 j < 78
      · rw [if_pos c]; exact q7 c
      · rw [if_neg c]
    have h1 : qnE a (F1 j) 1 = 1 := by
      show 0 + (1 - skp a (F1 j + 0)) = 1
      rw [Nat.add_zero, hsk]
    have hm1 := qnE_mono a (F1 j) (show 1 ≤ F2 j - F1 j + 1 by omega)
    refine s_length k3 (pk_le c j (fun z => absurd z (by omega)) (fun _ => ?_))
    unfold wp_X8_addEntry
    refine s_at k2 j (by omega) (s_at k3 j (by omega) (x_quires h.1 (s_at k1 j (by omega) (x_addS h (by omega) (fun u1 u2 u3 u4 g => s_at k1 j (by omega) ?_)))))
    rintro _ rfl
    rw [nI_add (F1 j) 1, nI_add j 1]
    refine ⟨F2 j - F1 j + 1, xl_addEntry (B := adB a F1 F2 F3 j B) ha q3 q2 q4 (by omega) (fun u1 u2 u3 u4 g => ih (j + 1) u1 u2 u3 u4 (by omega) g) (F2 j - F1 j) 1 u1 u2 u3 u4 (by omega) (Nat.le_refl _) ?_⟩
    rw [adE, adE, if_pos (by rw [Nat.add_zero]; exact hsk), Nat.add_zero]
    exact g
/-- how many they will be (QuireSigns) -/
theorem qnE_ends {a f l : Nat} (hf : f < l) (h1 : skp a f = 0) (h2 : skp a l = 0) (hl : l < 78) : qnE a f (l - f + 1) = btwN a f l + 2 := by
  obtain ⟨m, rfl⟩ : ∃ m, l = f + 1 + m := ⟨l - (f + 1), by omega⟩
  have e1 : ∀ m, f + 1 + m ≤ 78 → sumF (fun i => 1 - skp a (f + i)) (m + 1) = 1 + sumF (fun i => 1 - bitn a ((f + 1 + i) % 26)) m := by
    intro m
    induction m with
    | zero =>
      intro _
      show 0 + (1 - skp a (f + 0)) = 1 + 0
      rw [Nat.add_zero, h1]
    | succ m ih =>
      intro hm
      have := ih (by omega)
      rw [sumF, this]
      have e : skp a (f + (m + 1)) = bitn a ((f + 1 + m) % 26) := by
        unfold skp
        rw [if_pos (by omega), show f + (m + 1) = f + 1 + m by omega]
      show _ + (1 - skp a (f + (m + 1))) = 1 + (_ + (1 - bitn a ((f + 1 + m) % 26)))
      rw [e]
      omega
  have e2 : f + 1 + m - f + 1 = m + 1 + 1 := by omega
  have e3 : f + 1 + m - (f + 1) = m := by omega
  unfold qnE btwN
  rw [e2, sumF, e1 m (by omega), e3, show f + (m + 1) = f + 1 + m by omega, h2]
  omega
theorem skp_end {a s : Nat} (h : s < 78 → bitn a (s % 26) = 0) : skp a s = 0 := by
  unfold skp
  by_cases c : s < 78
  · rw [if_pos c]; exact h c
  · rw [if_neg c]
theorem xl_qtext {a c : Nat} {F1 F2 F3 : Nat → Nat} {e1 e2 e3 : RowT} {Post : Int32 → Prop} (ha : a < 2 ^ 26) (hc : c ≤ 20) (hE : EOK a 1 F1 F2 F3 c) (k1 : RowN 20 c F1 e1) (k2 : RowN 20 c F2 e2) (k3 : RowN 20 c F3 e3) (P : Post (nI (qnB a F1 F2 c))) : ∀ (d j : Nat), j + d = c → wl_X8_quiresOfText_4 (nI a) e1 e2 e3 Post (d + 1) (nI (qnB a F1 F2 j)) (nI j) := by
  intro d
  induction d with
  | zero =>
    intro j hj
    have e : j = c := by omega
    subst e
    exact s_length k3 (pk_le j j (fun _ => P) (fun z => absurd z (by omega)))
  | succ d ih =>
    intro j hj
    obtain ⟨q1, q2, q3, q4, q5, q6, q7, q8, q9, q10⟩ := hE j (by omega)
    have e : qnB a F1 F2 (j + 1) = qnB a F1 F2 j + qnE a (F1 j) (F2 j - F1 j + 1) := rfl
    have := ih (j + 1) (by omega)
    rw [e] at this
    refine s_length k3 (pk_le c j (fun z => absurd z (by omega)) (fun _ => s_at k1 j (by omega) (s_at k2 j (by omega) (pk_eq (F1 j) (F2 j) (fun e1 => ?_) (fun e1 => x_signsBetween (by omega) (by omega) (by have := q4 e1; omega) ?_)))))
    · rintro _ rfl
      rw [nI_add _ 1, nI_add j 1]
      have e2 : qnE a (F1 j) (F2 j - F1 j + 1) = 1 := by
        rw [show F2 j - F1 j + 1 = 1 by omega]
        show 0 + (1 - skp a (F1 j + 0)) = 1
        rw [Nat.add_zero, skp_end q7]
      rw [e2] at this
      exact this
    · rintro _ rfl
      rw [nI_add _ 2, nI_add, nI_add j 1]
      rw [qnE_ends (by omega) (skp_end q7) (skp_end q8) (q4 e1)] at this
      exact this

