set_option maxHeartbeats 400000
/-! the quires of a text, by the reference -/
/-- the k-th sign of an entry: its letter, as the reference counts them -/
def lvV (f k : Nat) : Int32 := if f < 78 then nI (f % 26 + k) else (if k = 0 then -1 else nI (k - 1))
theorem lvV_0 (f : Nat) : lvV f 0 = ltS f := by
  unfold lvV ltS
  by_cases c : f < 78
  · rw [if_pos c, if_pos c, Nat.add_zero]
  · rw [if_neg c, if_neg c, if_pos rfl]
theorem lvV_s (f k : Nat) : lvV f k + nI 1 = lvV f (k + 1) := by
  unfold lvV
  by_cases c : f < 78
  · rw [if_pos c, if_pos c, nI_add, Nat.add_assoc]
  · rw [if_neg c, if_neg c, if_neg (show ¬ k + 1 = 0 by omega)]
    by_cases e : k = 0
    · rw [if_pos e, e]; exact m1_add
    · rw [if_neg e, nI_add, show k - 1 + 1 = k + 1 - 1 by omega]
/-- what one step over an entry's signs sees -/
theorem ent_step {a f l k : Nat} (hf : f ≤ l) (hl : l < 83) (hl2 : f ≠ l → l < 78) (ht : tmS f = tmS l) (hk : k ≤ l - f) :
    ¬ ltS l < lvV f k ∧ ((78 ≤ f ∧ k = 0 ∧ l = f ∧ lvV f k = -1) ∨ (l < 78 ∧ lvV f k = nI ((f + k) % 26) ∧ (f + k) % 26 < 26 ∧ ltS (f + k) = nI ((f + k) % 26) ∧ tmS (f + k) = tmS f)) := by
  by_cases c : l < 78
  · have e1 : tmS f = f / 26 + 1 := if_pos (by omega)
    have e2 : tmS l = l / 26 + 1 := if_pos c
    have e3 : (f + k) % 26 = f % 26 + k := by omega
    have e4 : ltS l = nI (l % 26) := if_pos c
    have e5 : lvV f k = nI (f % 26 + k) := if_pos (by omega)
    have e6 : tmS (f + k) = (f + k) / 26 + 1 := if_pos (by omega)
    have e7 : ltS (f + k) = nI ((f + k) % 26) := if_pos (by omega)
    refine ⟨?_, Or.inr ⟨c, by rw [e5, e3], by omega, e7, by omega⟩⟩
    rw [e4, e5]
    exact fun z => absurd ((nI_ltI (by omega) (by omega)).mp z) (by omega)
  · have e : f = l := by
      by_cases q : f = l
      · exact q
      · exact absurd (hl2 q) c
    subst e
    have e0 : k = 0 := by omega
    subst e0
    have e4 : ltS f = -1 := if_neg c
    rw [lvV_0, e4]
    exact ⟨by decide, Or.inl ⟨by omega, rfl, rfl, rfl⟩⟩
theorem ent_end {f l : Nat} (hf : f ≤ l) (hl : l < 83) (hl2 : f ≠ l → l < 78) (ht : tmS f = tmS l) : ltS l < lvV f (l - f + 1) := by
  by_cases c : l < 78
  · have e1 : tmS f = f / 26 + 1 := if_pos (by omega)
    have e2 : tmS l = l / 26 + 1 := if_pos c
    have e4 : ltS l = nI (l % 26) := if_pos c
    have e5 : lvV f (l - f + 1) = nI (f % 26 + (l - f + 1)) := if_pos (by omega)
    rw [e4, e5]
    exact (nI_ltI (by omega) (by omega)).mpr (by omega)
  · have e : f = l := by
      by_cases q : f = l
      · exact q
      · exact absurd (hl2 q) c
    subst e
    have e4 : ltS f = -1 := if_neg c
    have e5 : lvV f (f - f + 1) = nI (f - f + 1 - 1) := by
      unfold lvV
      rw [if_neg c, if_neg (by omega)]
    rw [e4, e5, Nat.sub_self]
    decide
section rf
variable {s g t : Nat → Int32} {B : BkA} {c : Nat} {F1 F2 F3 : Nat → Nat}
theorem rl_cnt {st ty at1 ri tm lt it : Int32} {j q0 : Nat} {K : Int32 → Int32 → Prop} {Post : Int32 → (Nat → Int32) → (Nat → Int32) → Int32 → Int32 → Int32 → Int32 → Int32 → Int32 → Prop} (h : MB s B) (w : WB B) (hj : j < 30) (t2 : t (4 * j + 2) = ltS (F2 j)) (hf : F1 j ≤ F2 j) (hl : F2 j < 83) (hl2 : F1 j ≠ F2 j → F2 j < 78) (ht : tmS (F1 j) = tmS (F2 j))
    (P : K (nI (q0 + qnE (bal B) (F1 j) (F2 j - F1 j + 1))) (nI (j + 1))) : ∀ (d k : Nat), k + d = F2 j - F1 j + 1 → wl_X9_readFormula_39 s g t st ty at1 ri tm lt it (nI j) K Post (d + 1) (nI (q0 + qnE (bal B) (F1 j) k)) (lvV (F1 j) k) := by
  intro d
  induction d with
  | zero =>
    intro k hk
    have e : k = F2 j - F1 j + 1 := by omega
    subst e
    unfold wl_X9_readFormula_39
    rw [pk_mul, nI_add (4 * j) 2, nI_add j 1]
    refine rd2 (N := 160) (Q := fun v => (v < lvV (F1 j) (F2 j - F1 j + 1) → _) ∧ (¬ v < lvV (F1 j) (F2 j - F1 j + 1) → _)) t2 (by omega) (by decide) ⟨fun _ => P, fun z => absurd (ent_end hf hl hl2 ht) z⟩
  | succ d ih =>
    intro k hk
    have e : qnE (bal B) (F1 j) (k + 1) = qnE (bal B) (F1 j) k + (1 - skp (bal B) (F1 j + k)) := rfl
    have ih2 := ih (k + 1) (by omega)
    rw [e] at ih2
    obtain ⟨s1, s2⟩ := ent_step (a := bal B) (k := k) hf hl hl2 ht (by omega)
    unfold wl_X9_readFormula_39
    rw [pk_mul, nI_add (4 * j) 2, nI_add j 1, lvV_s]
    refine rd2 (N := 160) (Q := fun v => (v < lvV (F1 j) k → _) ∧ (¬ v < lvV (F1 j) k → _)) t2 (by omega) (by decide) ⟨fun z => absurd z s1, fun _ => ?_⟩
    rcases s2 with ⟨a1, a2, a3, a4⟩ | ⟨a1, a2, a3, a4, a5⟩
    · refine ⟨fun _ => ?_, fun z => absurd (by rw [a4]; decide) z⟩
      rintro _ rfl
      rw [nI_add]
      have e0 : skp (bal B) (F1 j + k) = 0 := if_neg (by omega)
      rw [e0] at ih2
      exact ih2
    · have hsk : skp (bal B) (F1 j + k) = bitn (bal B) ((F1 j + k) % 26) := if_pos (by omega)
      have hb := bitn_le (bal B) ((F1 j + k) % 26)
      rw [hsk] at ih2
      refine ⟨fun z => absurd z (by rw [a2]; exact nI_pos (by omega)), fun _ => ?_⟩
      rw [a2]
      refine r_isOut h w (by omega) (b_z (fun z => ?_) (fun z => ?_))
      · rintro _ rfl
        rw [nI_add]
        rw [z] at ih2
        exact ih2
      · rintro _ rfl
        rw [nI_add]
        rw [show bitn (bal B) ((F1 j + k) % 26) = 1 by omega] at ih2
        exact ih2
end rf
