set_option maxHeartbeats 400000
/-! the law's acts, one lemma each -/
theorem nI_m4 {n : Nat} (h : n < 2 ^ 31) : ¬ nI n = -4 := by
  intro q
  have h1 := congrArg Int32.toInt q
  rw [nI_toInt h] at h1
  have h2 : (-4 : Int32).toInt = -4 := by decide
  omega
theorem insF_at (f : Nat → Nat) (q v : Nat) : insF f q v q = v := by
  unfold insF
  rw [if_neg (Nat.lt_irrefl _), if_pos rfl]
theorem sum_ins (f : Nat → Nat) (v : Nat) : ∀ n q, q ≤ n → sumF (insF f q v) (n + 1) = sumF f n + v
  | 0, q, h => by
    have e : q = 0 := by omega
    subst e
    show sumF _ 0 + insF f 0 v 0 = _
    rw [insF_at]
    rfl
  | n + 1, q, h => by
    show sumF (insF f q v) (n + 1) + insF f q v (n + 1) = sumF f n + f n + v
    by_cases c : q = n + 1
    · subst c
      rw [insF_at]
      have : sumF (insF f (n + 1) v) (n + 1) = sumF f (n + 1) := sumF_congr (n + 1) (fun j hj => if_pos hj)
      rw [this, sumF]
    · rw [sum_ins f v n q (by omega)]
      have : insF f q v (n + 1) = f n := by
        unfold insF
        rw [if_neg (by omega), if_neg (by omega)]
        rfl
      rw [this]
      omega
theorem sum_drop (f : Nat → Nat) : ∀ n q, q ≤ n → sumF (dropF f q) n + f q = sumF f (n + 1)
  | 0, q, h => by
    have e : q = 0 := by omega
    subst e
    rfl
  | n + 1, q, h => by
    show sumF (dropF f q) n + dropF f q n + f q = sumF f (n + 1) + f (n + 1)
    by_cases c : q = n + 1
    · subst c
      have : sumF (dropF f (n + 1)) (n + 1) = sumF f (n + 1) := sumF_congr (n + 1) (fun j hj => by unfold dropF; rw [if_pos hj])
      show sumF (dropF f (n + 1)) (n + 1) + f (n + 1) = _
      rw [this]
    · have ih := sum_drop f n q (by omega)
      have : dropF f q n = f (n + 1) := by
        unfold dropF
        rw [if_neg (by omega)]
      rw [this]
      omega
section acts
variable {σ : St} {x : XS} {i : Nat} {K : XS → Int32 → Int32 → Prop}
def KK (K : XS → Int32 → Int32 → Prop) (i : Nat) : Prop := ∀ σ x, XOK σ x → INV σ → K x (nI 1) (nI (i + 1))
theorem law883 (k : KK K i) (hx : XOK σ x) (hi : INV σ) : wj_L_law_883 x (nI 1) (nI i) K := by
  unfold wj_L_law_883
  refine f1 (hangs_ok hx hi.1.1 (fun x2 hx2 => f1 ?_))
  rw [nI_add]
  exact k σ x2 hx2 hi
theorem law256 (k : KK K i) (hx : XOK σ x) (hi : INV σ) : wj_L_law_256 x (nI i) K := law883 k hx hi
theorem law192 (k : KK K i) (hx : XOK σ x) (hi : INV σ) {z : Nat} (hz1 : 1 ≤ z) (hz2 : z ≤ 24) : wj_L_law_192 x (nI i) (nI (bn σ.1)) (nI (lvs σ.1)) (nI z) K := by
  have w := hx.2.1
  have hn := w.2.2.1
  have hlv := w.lvs
  unfold wj_L_law_192
  refine xq_signNext hx hz1 hz2 (fun e => pk_eq (bn σ.1) 40 (fun _ => ?_) (fun q => absurd e q)) ?_ (fun h s hs x2 hx2 => pk_eq (bn σ.1) 40 (fun q => absurd q (by omega)) (fun _ => ?_))
  · exact ⟨fun _ => ⟨fun _ => law256 k hx hi, fun q => absurd (by decide) q⟩, fun q => absurd rfl q⟩
  · have G : ∀ t, wj_L_law_216 x (nI i) (nI (lvs σ.1)) (nI z) (-4) (-4) t K := fun t => ⟨fun _ => ⟨fun _ => law256 k hx hi, fun q => absurd (by decide) q⟩, fun _ => ⟨fun _ => law256 k hx hi, fun q => absurd rfl q⟩⟩
    exact ⟨fun _ => G _, fun _ => G _⟩
  · have hi2 : INV (actS σ (bal σ.1, bsg σ.1, bn σ.1 + 1, insF (bS σ.1) (bn σ.1) s, insF (bZ σ.1) (bn σ.1) z, insF (bL σ.1) (bn σ.1) 0, 0, bP σ.1)) := hi.act hx.st4 ⟨rfl, hi.1.2⟩
    refine ⟨fun _ => b_neg (xq_q2 hx2 (q := bn σ.1) (Nat.lt_succ_self _) ⟨fun _ => xq_c1 hx2 ⟨fun _ => law256 k hx2 hi2, fun q => absurd ?_ q⟩, fun q => absurd ?_ q⟩), fun q => absurd rfl q⟩
    · show nI (sumF (insF (bZ σ.1) (bn σ.1) z) (bn σ.1 + 1)) = nI (lvs σ.1) + nI z
      rw [sum_ins _ _ _ _ (Nat.le_refl _), nI_add]
    · show nI (insF (bZ σ.1) (bn σ.1) z (bn σ.1)) = nI z
      rw [insF_at]
theorem law265 (k : KK K i) (hx : XOK σ x) (hi : INV σ) {z v : Nat} (hz1 : 1 ≤ z) (hz2 : z ≤ 24) (hv : v < 2 ^ 31) : wj_L_law_265 x (nI i) (nI v) (nI (bn σ.1)) (nI (lvs σ.1)) (nI z) K := by
  have w := hx.2.1
  have hn := w.2.2.1
  have hlv := w.lvs
  unfold wj_L_law_265
  refine ⟨fun q => absurd ((nI_z (n := bn σ.1 + 1) (by omega)).mp (by rw [← nI_add]; exact q)) (by omega), ?_⟩
  have hd : v / 128 < 2 ^ 31 := by omega
  rw [pk_div hv (by decide) (by decide), nI_add, pk_rem hd (by omega) (by omega), pk_rem hv (by decide) (by decide), nI_add]
  rintro _ rfl
  have hpl : v / 128 % (bn σ.1 + 1) ≤ bn σ.1 := Nat.le_of_lt_succ (Nat.mod_lt _ (by omega))
  generalize v / 128 % (bn σ.1 + 1) = pl at hpl ⊢
  have R5 : (nI 1 + (nI v - nI v / nI 5 * nI 5)) = nI (1 + v % 5) := by rw [pk_rem hv (by decide) (by decide), nI_add]
  refine xq_insert hx hpl (by omega) (by omega) hz1 hz2 (fun e => pk_eq (bn σ.1) 40 (fun _ => ?_) (fun q => absurd e q)) (fun h x2 hx2 => pk_eq (bn σ.1) 40 (fun q => absurd q (by omega)) (fun _ => ?_))
  · unfold wj_L_law_309
    exact ⟨fun _ => pk_eq (bn σ.1) 40 (fun _ => law883 k hx hi) (fun q => absurd e q), fun q => absurd rfl q⟩
  · have hi2 : INV (actS σ (bal σ.1, bsg σ.1, bn σ.1 + 1, insF (bS σ.1) pl (77 + (1 + v % 5)), insF (bZ σ.1) pl z, insF (bL σ.1) pl 0, 0, bP σ.1)) := hi.act hx.st4 ⟨rfl, hi.1.2⟩
    have hs : insF (bS σ.1) pl (77 + (1 + v % 5)) pl = 77 + (1 + v % 5) := insF_at _ _ _
    unfold wj_L_law_309
    rw [R5]
    refine ⟨fun _ => pk_eq (bn σ.1) 40 (fun q => absurd q (by omega)) (fun _ => xq_q1b hx2 (q := pl) (show pl < bn σ.1 + 1 by omega) (by show 78 ≤ insF _ _ _ _; rw [hs]; omega) ⟨fun _ => xq_q0 hx2 (q := pl) (show pl < bn σ.1 + 1 by omega) ⟨fun _ => law883 k hx2 hi2, fun q => absurd ?_ q⟩, fun q => absurd rfl q⟩), fun q => absurd ?_ q⟩
    · show nI (tmS (insF (bS σ.1) pl (77 + (1 + v % 5)) pl)) = nI (1 + v % 5)
      rw [hs]
      unfold tmS
      rw [if_neg (by omega)]
      congr 1
      omega
    · show nI (sumF (insF (bZ σ.1) pl z) (bn σ.1 + 1)) = nI (lvs σ.1) + nI z
      rw [sum_ins _ _ _ _ hpl, nI_add]
theorem law7 (k : KK K i) (hx : XOK σ x) (hi : INV σ) {v : Nat} (hv : v < 2 ^ 31) : ∀ y112 : Int32, y112 = nI v - nI v / nI 8 * nI 8 → wx_quire x y112 (nI 2) (fun r113 _ => wx_remove x y112 (fun r114 x116 => ((nI (bn σ.1) ≤ y112 → wj_L_law_394 x116 (nI i) r114 (-1) K) ∧ (¬ nI (bn σ.1) ≤ y112 → wj_L_law_394 x116 (nI i) r114 (nI (lvs σ.1) - r113) K)))) := by
  have w := hx.2.1
  have hn := w.2.2.1
  have hlv := w.lvs
  rintro _ rfl
  rw [pk_rem hv (by decide) (by decide)]
  have hg : v % 8 < 8 := Nat.mod_lt _ (by decide)
  generalize v % 8 = g at hg ⊢
  by_cases c : g < bn σ.1
  · refine xq_q2 hx c (xq_remove hx (by omega) (fun q => absurd q (by omega)) (fun _ x2 hx2 => pk_le (bn σ.1) g (fun q => absurd q (by omega)) (fun _ => ⟨fun _ => law883 k hx2 (hi.act hx.st4 ⟨rfl, hi.1.2⟩), fun q => absurd ?_ q⟩)))
    show nI (sumF (dropF (bZ σ.1) g) (bn σ.1 - 1)) = nI (lvs σ.1) - nI (bZ σ.1 g)
    have h := sum_drop (bZ σ.1) (bn σ.1 - 1) g (by omega)
    rw [show bn σ.1 - 1 + 1 = bn σ.1 by omega] at h
    have hl : lvs σ.1 = sumF (bZ σ.1) (bn σ.1) := rfl
    rw [pk_sub (by omega)]
    congr 1
    omega
  · exact xq_qout hx (by omega) (by omega) (xq_remove hx (by omega) (fun _ => pk_le (bn σ.1) g (fun _ => ⟨fun _ => law883 k hx hi, fun q => absurd rfl q⟩) (fun q => absurd q (by omega))) (fun q => absurd q c))
/-- a leaf is turned -/
theorem fr_turn {m t l : Nat} (hl : l < t) : (bitn m l = 0 → fr (m ^^^ 2 ^ l) t + 1 = fr m t) ∧ (bitn m l = 1 → fr (m ^^^ 2 ^ l) t = fr m t + 1) := by
  have h := sumF_one (f := fun i => 1 - bitn m i) (g := fun i => 1 - bitn (m ^^^ 2 ^ l) i) (l := l) t hl (fun i _ hne => by
    show 1 - bitn (m ^^^ 2 ^ l) i = 1 - bitn m i
    rw [bitn_xor, if_neg hne])
  have e : bitn (m ^^^ 2 ^ l) l = 1 - bitn m l := by rw [bitn_xor, if_pos rfl]
  have h : fr (m ^^^ 2 ^ l) t + (1 - bitn m l) = fr m t + (1 - bitn (m ^^^ 2 ^ l) l) := h
  rw [e] at h
  refine ⟨fun z => ?_, fun z => ?_⟩
  · rw [z] at h; omega
  · rw [z] at h; omega
theorem law501 (k : KK K i) (hx : XOK σ x) (hi : INV σ) {q j b : Nat} (hq : InQ σ.1 q j) (hb : b ≤ 1) (hbit : bitn (bL σ.1 q) (j - sumF (bZ σ.1) q) = b) (t : Int32) : wj_L_law_501 x (nI i) (nI (lvs σ.1)) (nI j) (nI b) t t K := by
  have w := hx.2.1
  have hlv := w.lvs
  obtain ⟨k1, k2, k3⟩ := inQ_lt w hq
  unfold wj_L_law_501
  refine ⟨fun _ => pk_le (lvs σ.1) j (fun z => absurd z (by omega)) (fun _ => xq_l4 hx hq (b_z (fun z => ⟨fun _ => law883 k hx hi, fun e => absurd ?_ e⟩) (fun z => ⟨fun _ => law883 k hx hi, fun e => absurd ?_ e⟩))), fun e => absurd rfl e⟩
  · rw [hbit, z]
  · rw [hbit, show b = 1 by omega]
theorem law428 (k : KK K i) (hx : XOK σ x) (hi : INV σ) {j b : Nat} (hj : j < 1000) (hb : b ≤ 1) : wj_L_law_428 x (nI i) (nI (lvs σ.1)) (nI j) (nI b) K := by
  have w := hx.2.1
  have hn := w.2.2.1
  have hlv := w.lvs
  unfold wj_L_law_428
  by_cases c : j < lvs σ.1
  · obtain ⟨q, hq⟩ := inQ_ex (bn σ.1) (Nat.le_refl _) j c
    obtain ⟨k1, k2, k3⟩ := inQ_lt w hq
    have hbt := bitn_le (bL σ.1 q) (j - sumF (bZ σ.1) q)
    refine xq_l4 hx hq (xq_c2 hx (fun ht => ?_))
    rintro _ rfl
    rw [pk_sub (by omega), show lvs σ.1 - (lvs σ.1 - tA σ.1 (lvs σ.1)) = tA σ.1 (lvs σ.1) by omega]
    refine xq_lose hx hq hb (fun e => pk_lt j (lvs σ.1) (fun _ => ?_) (fun z => absurd z (by omega))) (fun e w' x2 hx2 => pk_lt j (lvs σ.1) (fun _ => ?_) (fun z => absurd z (by omega)))
    · have L := law501 k hx hi hq hb e (-5)
      rw [e]
      refine b_z (fun z => ?_) (fun z => ?_)
      · rw [z] at L ⊢
        exact ⟨fun _ => L, fun z2 => absurd rfl z2⟩
      · rw [show b = 1 by omega] at L ⊢
        exact ⟨fun _ => L, fun z2 => absurd rfl z2⟩
    · have hi2 : INV (actS σ (bal σ.1, bsg σ.1, bn σ.1, bS σ.1, bZ σ.1, updN (bL σ.1) q (bL σ.1 q ^^^ 2 ^ (j - sumF (bZ σ.1) q)), 0, bP σ.1)) := hi.act hx.st4 ⟨rfl, hi.1.2⟩
      have hu : updN (bL σ.1) q (bL σ.1 q ^^^ 2 ^ (j - sumF (bZ σ.1) q)) q = bL σ.1 q ^^^ 2 ^ (j - sumF (bZ σ.1) q) := if_pos rfl
      have hbit : bitn (updN (bL σ.1) q (bL σ.1 q ^^^ 2 ^ (j - sumF (bZ σ.1) q)) q) (j - sumF (bZ σ.1) q) = b := by
        rw [hu, bitn_xor, if_pos rfl]
        omega
      have L := fun t => law501 k hx2 hi2 (q := q) (j := j) (b := b) hq hb hbit t
      have L : ∀ t, wj_L_law_501 x2 (nI i) (nI (lvs σ.1)) (nI j) (nI b) t t K := L
      -- the leaves that are there
      have T1 : tA σ.1 (lvs σ.1) = sumF (fun q => fr (bL σ.1 q) (bZ σ.1 q)) (bn σ.1) := tA_all
      have T2 : tA (bal σ.1, bsg σ.1, bn σ.1, bS σ.1, bZ σ.1, updN (bL σ.1) q (bL σ.1 q ^^^ 2 ^ (j - sumF (bZ σ.1) q)), 0, bP σ.1) (lvs σ.1) = sumF (fun p => fr (updN (bL σ.1) q (bL σ.1 q ^^^ 2 ^ (j - sumF (bZ σ.1) q)) p) (bZ σ.1 p)) (bn σ.1) := tA_all (B := (bal σ.1, bsg σ.1, bn σ.1, bS σ.1, bZ σ.1, updN (bL σ.1) q (bL σ.1 q ^^^ 2 ^ (j - sumF (bZ σ.1) q)), 0, bP σ.1))
      have S1 := sumF_one (f := fun p => fr (bL σ.1 p) (bZ σ.1 p)) (g := fun p => fr (updN (bL σ.1) q (bL σ.1 q ^^^ 2 ^ (j - sumF (bZ σ.1) q)) p) (bZ σ.1 p)) (l := q) (bn σ.1) hq.1 (fun p _ hne => by
        show fr (updN _ _ _ p) _ = _
        unfold updN
        rw [if_neg hne])
      have FT := fr_turn (m := bL σ.1 q) (t := bZ σ.1 q) k1
      have S1 : sumF (fun p => fr (updN (bL σ.1) q (bL σ.1 q ^^^ 2 ^ (j - sumF (bZ σ.1) q)) p) (bZ σ.1 p)) (bn σ.1) + fr (bL σ.1 q) (bZ σ.1 q) = sumF (fun p => fr (bL σ.1 p) (bZ σ.1 p)) (bn σ.1) + fr (updN (bL σ.1) q (bL σ.1 q ^^^ 2 ^ (j - sumF (bZ σ.1) q)) q) (bZ σ.1 q) := S1
      rw [hu, ← T1, ← T2] at S1
      generalize tA (bal σ.1, bsg σ.1, bn σ.1, bS σ.1, bZ σ.1, updN (bL σ.1) q (bL σ.1 q ^^^ 2 ^ (j - sumF (bZ σ.1) q)), 0, bP σ.1) (lvs σ.1) = N at S1 ⊢
      generalize tA σ.1 (lvs σ.1) = M at S1 ⊢
      have ne : ∀ c2 : Nat, c2 ≤ 1 → c2 = b → ¬ nI (bitn (bL σ.1 q) (j - sumF (bZ σ.1) q)) = nI c2 := fun c2 h1 h2 h3 => e (((nI_eq (by omega) (by omega)).mp h3).trans h2)
      refine b_z (fun z => ?_) (fun z => ?_)
      · have hN : N = M + 1 := by have := FT.2 (by omega); omega
        have L2 := L (nI N)
        subst hN
        unfold wj_L_law_480
        rw [z] at L2 ⊢
        refine ⟨fun h3 => absurd h3 (ne 0 (by decide) z.symm), fun _ => f0 ?_⟩
        unfold wj_L_law_500
        rw [nI_add]
        exact L2
      · have hN : M = N + 1 := by have := FT.1 (by omega); omega
        have L2 := L (nI N)
        subst hN
        unfold wj_L_law_480
        rw [show b = 1 by omega] at L2 ⊢
        refine ⟨fun h3 => absurd h3 (ne 1 (by decide) (by omega)), fun _ => f1 ?_⟩
        unfold wj_L_law_500
        rw [pk_m1]
        exact L2
  · refine xq_lout hx (by omega) (by omega) (xq_c2 hx (fun ht => ?_))
    rintro _ rfl
    refine xq_lose_out hx (fun p hp e => absurd ((nI_eq (by omega) (by omega)).mp e) (by omega)) (pk_lt j (lvs σ.1) (fun z => absurd z c) (fun _ => ⟨fun _ => pk_le (lvs σ.1) j (fun _ => law883 k hx hi) (fun z => absurd z (by omega)), fun z => absurd rfl z⟩))
theorem law406 (k : KK K i) (hx : XOK σ x) (hi : INV σ) {v : Nat} (hv : v < 2 ^ 31) : wj_L_law_406 x (nI i) (nI v) (nI (lvs σ.1)) K := by
  unfold wj_L_law_406
  rintro _ rfl
  have hj : v % 60 < 60 := Nat.mod_lt _ (by decide)
  rw [pk_rem hv (by decide) (by decide)]
  exact ⟨fun _ => law428 k hx hi (by omega) (by decide), fun _ => law428 k hx hi (by omega) (by decide)⟩
theorem law581 (k : KK K i) (hx : XOK σ x) (hi : INV σ) {n : Nat} (h : n = bsg σ.1) (t : Int32) : wj_L_law_581 x (nI i) (nI n) t t K := by
  unfold wj_L_law_581
  refine ⟨fun _ => xq_c10 hx ⟨fun _ => law883 k hx hi, fun q => absurd (by rw [h]) q⟩, fun q => absurd rfl q⟩
theorem law11 (k : KK K i) (hx : XOK σ x) (hi : INV σ) {v : Nat} (hv : v < 2 ^ 31) : ∀ y117 : Int32, y117 = nI v - nI v / nI 3 * nI 3 → wx_count x (nI 10) (fun r118 x120 => wx_setSigning x120 y117 (fun r121 x123 => ((r118 = y117 → wj_L_law_581 x123 (nI i) y117 r121 (-5) K) ∧ (¬ r118 = y117 → wx_count x123 (nI 3) (fun r124 x126 => wj_L_law_581 x126 (nI i) y117 r121 r124 K))))) := by
  have w2 := hx.2.1.2.1
  rintro _ rfl
  rw [pk_rem hv (by decide) (by decide)]
  have hg : v % 3 < 3 := Nat.mod_lt _ (by decide)
  generalize v % 3 = g at hg ⊢
  refine xq_c10 hx (xq_setSigning hx (by omega) (fun e => ⟨fun _ => law581 k hx hi e _, fun q => absurd (by rw [e]) q⟩) (fun e x2 hx2 => pk_eq (bsg σ.1) g (fun q => absurd q.symm e) (fun _ => ?_)))
  exact xq_c3 hx2 (law581 (σ := actS σ (bal σ.1, g, σ.1.2.2)) k hx2 (hi.act hx.st4 ⟨hi.1.1, hi.1.2⟩) rfl _)
theorem law637 (k : KK K i) (hx : XOK σ x) (hi : INV σ) {l b : Nat} (hl : l < 26) (hb : b ≤ 1) : wj_L_law_637 x (nI i) (nI (65 + l)) (nI (lettersN (bal σ.1))) (nI b) K := by
  have hle := letters_le (bal σ.1)
  have hle2 := letters_le (bal σ.1 ^^^ 2 ^ l)
  have hbt := bitn_le (bal σ.1) l
  have lx := letters_xor (a := bal σ.1) hl
  unfold wj_L_law_637
  refine xq_leaveOut hx hl hb (fun e => ⟨fun _ => law883 k hx hi, fun q => absurd rfl q⟩) (fun e1 e2 e3 => ⟨fun _ => law883 k hx hi, fun _ => ⟨fun _ => ⟨fun _ => law883 k hx hi, fun q => absurd (by rw [e3]) q⟩, fun q => absurd rfl q⟩⟩) (fun e1 e2 x2 hx2 => ⟨fun _ => ?_, fun _ => ⟨fun q => absurd q (nI_m4 (by omega)), fun _ => ?_⟩⟩)
  · refine law883 k hx2 (hi.act hx.st4 ⟨hi.1.1, ?_⟩)
    show 1 ≤ lettersN (bal σ.1 ^^^ 2 ^ l)
    have h1 := hi.1.2
    by_cases c : bitn (bal σ.1) l = 0
    · have := lx.1 c
      have := e2 (by omega)
      omega
    · have := lx.2 (by omega)
      omega
  · have hi2 : INV (actS σ (bal σ.1 ^^^ 2 ^ l, σ.1.2)) := hi.act hx.st4 ⟨hi.1.1, by
      show 1 ≤ lettersN (bal σ.1 ^^^ 2 ^ l)
      have h1 := hi.1.2
      by_cases c : bitn (bal σ.1) l = 0
      · have := lx.1 c
        have := e2 (by omega)
        omega
      · have := lx.2 (by omega)
        omega⟩
    unfold wj_L_law_669
    refine b_z (fun z => ?_) (fun z => ?_)
    · unfold wj_L_law_683
      rw [nI_add, lx.2 (by omega)]
      exact ⟨fun _ => law883 k hx2 hi2, fun q => absurd rfl q⟩
    · unfold wj_L_law_683
      rw [← lx.1 (by omega), pk_m1]
      exact ⟨fun _ => law883 k hx2 hi2, fun q => absurd rfl q⟩
theorem law12 (k : KK K i) (hx : XOK σ x) (hi : INV σ) {v : Nat} (hv : v < 2 ^ 31) : ∀ y127 : Int32, y127 = cI ((nI 65) + (nI v - nI v / (nI 26) * (nI 26))) → wx_count x (nI 4) (fun r128 x130 => ((((nI v / (nI 32)) - (nI v / (nI 32)) / (nI 2) * (nI 2)) = 0 → wj_L_law_637 x130 (nI i) y127 r128 (nI 1) K) ∧ (¬ ((nI v / (nI 32)) - (nI v / (nI 32)) / (nI 2) * (nI 2)) = 0 → wj_L_law_637 x130 (nI i) y127 r128 (nI 0) K))) := by
  rintro _ rfl
  have hg : v % 26 < 26 := Nat.mod_lt _ (by decide)
  rw [pk_rem hv (by decide) (by decide), nI_add, cI_nI (by omega)]
  exact xq_c4 hx ⟨fun _ => law637 k hx hi hg (by decide), fun _ => law637 k hx hi hg (by decide)⟩
end acts
