def XOK (σ : Nat) (x : XS) : Prop := x.1 = x.1
def MOK (σ : Nat) (x : MS) : Prop := x.2.1 = x.2.1
def s00 : Nat := 0
theorem xok0 : XOK s00 x00 := sorry
theorem mok0 : MOK s00 m00 := sorry
theorem op_leaveOut (σ : Nat) (x : XS) (y : MS) (hx : XOK σ x) (hm : MOK σ y) (p1 : Int32) (p2 : Int32) (hz2 : p2 = nI 0 ∨ p2 = nI 1) : ∃ (r : Int32) (σ2 : Nat), wx_leaveOut x (cI p1) p2 (fun r2 x2 => r2 = r ∧ XOK σ2 x2) ∧ wm_leaveOut y (cI p1) p2 (fun r2 y2 => r2 = r ∧ MOK σ2 y2) := sorry
theorem op_setSigning (σ : Nat) (x : XS) (y : MS) (hx : XOK σ x) (hm : MOK σ y) (p1 : Int32) : ∃ (r : Int32) (σ2 : Nat), wx_setSigning x p1 (fun r2 x2 => r2 = r ∧ XOK σ2 x2) ∧ wm_setSigning y p1 (fun r2 y2 => r2 = r ∧ MOK σ2 y2) := sorry
theorem op_readFormula (σ : Nat) (x : XS) (y : MS) (hx : XOK σ x) (hm : MOK σ y) : ∃ (r : Int32) (σ2 : Nat), wx_readFormula x (fun r2 x2 => r2 = r ∧ XOK σ2 x2) ∧ wm_readFormula y (fun r2 y2 => r2 = r ∧ MOK σ2 y2) := sorry
theorem op_signNext (σ : Nat) (x : XS) (y : MS) (hx : XOK σ x) (hm : MOK σ y) (p1 : Int32) : ∃ (r : Int32) (σ2 : Nat), wx_signNext x p1 (fun r2 x2 => r2 = r ∧ XOK σ2 x2) ∧ wm_signNext y p1 (fun r2 y2 => r2 = r ∧ MOK σ2 y2) := sorry
theorem op_insert (σ : Nat) (x : XS) (y : MS) (hx : XOK σ x) (hm : MOK σ y) (p1 : Int32) (p2 : Int32) (p3 : Int32) : ∃ (r : Int32) (σ2 : Nat), wx_insert x p1 p2 p3 (fun r2 x2 => r2 = r ∧ XOK σ2 x2) ∧ wm_insert y p1 p2 p3 (fun r2 y2 => r2 = r ∧ MOK σ2 y2) := sorry
theorem op_remove (σ : Nat) (x : XS) (y : MS) (hx : XOK σ x) (hm : MOK σ y) (p1 : Int32) : ∃ (r : Int32) (σ2 : Nat), wx_remove x p1 (fun r2 x2 => r2 = r ∧ XOK σ2 x2) ∧ wm_remove y p1 (fun r2 y2 => r2 = r ∧ MOK σ2 y2) := sorry
theorem op_lose (σ : Nat) (x : XS) (y : MS) (hx : XOK σ x) (hm : MOK σ y) (p1 : Int32) (p2 : Int32) (hz2 : p2 = nI 0 ∨ p2 = nI 1) : ∃ (r : Int32) (σ2 : Nat), wx_lose x p1 p2 (fun r2 x2 => r2 = r ∧ XOK σ2 x2) ∧ wm_lose y p1 p2 (fun r2 y2 => r2 = r ∧ MOK σ2 y2) := sorry
theorem op_readPile (σ : Nat) (x : XS) (y : MS) (hx : XOK σ x) (hm : MOK σ y) : ∃ (r : Int32) (σ2 : Nat), wx_readPile x (fun r2 x2 => r2 = r ∧ XOK σ2 x2) ∧ wm_readPile y (fun r2 y2 => r2 = r ∧ MOK σ2 y2) := sorry
theorem op_type (σ : Nat) (x : XS) (y : MS) (hx : XOK σ x) (hm : MOK σ y) (p1 : Int32) : ∃ (r : Int32) (σ2 : Nat), wx_type x (cI p1) (fun r2 x2 => r2 = r ∧ XOK σ2 x2) ∧ wm_type y (cI p1) (fun r2 y2 => r2 = r ∧ MOK σ2 y2) := sorry
theorem op_clearText (σ : Nat) (x : XS) (y : MS) (hx : XOK σ x) (hm : MOK σ y) : ∃ (r : Int32) (σ2 : Nat), wx_clearText x (fun r2 x2 => r2 = r ∧ XOK σ2 x2) ∧ wm_clearText y (fun r2 y2 => r2 = r ∧ MOK σ2 y2) := sorry
theorem op_undo (σ : Nat) (x : XS) (y : MS) (hx : XOK σ x) (hm : MOK σ y) : ∃ (r : Int32) (σ2 : Nat), wx_undo x (fun r2 x2 => r2 = r ∧ XOK σ2 x2) ∧ wm_undo y (fun r2 y2 => r2 = r ∧ MOK σ2 y2) := sorry
theorem op_keep (σ : Nat) (x : XS) (y : MS) (hx : XOK σ x) (hm : MOK σ y) : ∃ (r : Int32) (σ2 : Nat), wx_keep x (fun r2 x2 => r2 = r ∧ XOK σ2 x2) ∧ wm_keep y (fun r2 y2 => r2 = r ∧ MOK σ2 y2) := sorry
theorem op_restore (σ : Nat) (x : XS) (y : MS) (hx : XOK σ x) (hm : MOK σ y) : ∃ (r : Int32) (σ2 : Nat), wx_restore x (fun r2 x2 => r2 = r ∧ XOK σ2 x2) ∧ wm_restore y (fun r2 y2 => r2 = r ∧ MOK σ2 y2) := sorry
theorem op_quire (σ : Nat) (x : XS) (y : MS) (hx : XOK σ x) (hm : MOK σ y) (p1 : Int32) (p2 : Int32) : ∃ (r : Int32) (σ2 : Nat), wx_quire x p1 p2 (fun r2 x2 => r2 = r ∧ XOK σ2 x2) ∧ wm_quire y p1 p2 (fun r2 y2 => r2 = r ∧ MOK σ2 y2) := sorry
theorem op_leaf (σ : Nat) (x : XS) (y : MS) (hx : XOK σ x) (hm : MOK σ y) (p1 : Int32) (p2 : Int32) : ∃ (r : Int32) (σ2 : Nat), wx_leaf x p1 p2 (fun r2 x2 => r2 = r ∧ XOK σ2 x2) ∧ wm_leaf y p1 p2 (fun r2 y2 => r2 = r ∧ MOK σ2 y2) := sorry
theorem op_find (σ : Nat) (x : XS) (y : MS) (hx : XOK σ x) (hm : MOK σ y) : ∃ (r : Int32) (σ2 : Nat), wx_find x (fun r2 x2 => r2 = r ∧ XOK σ2 x2) ∧ wm_find y (fun r2 y2 => r2 = r ∧ MOK σ2 y2) := sorry
theorem op_lapse (σ : Nat) (x : XS) (y : MS) (hx : XOK σ x) (hm : MOK σ y) (p1 : Int32) (p2 : Int32) : ∃ (r : Int32) (σ2 : Nat), wx_lapse x p1 p2 (fun r2 x2 => r2 = r ∧ XOK σ2 x2) ∧ wm_lapse y p1 p2 (fun r2 y2 => r2 = r ∧ MOK σ2 y2) := sorry
theorem op_piled (σ : Nat) (x : XS) (y : MS) (hx : XOK σ x) (hm : MOK σ y) (p1 : Int32) (p2 : Int32) : ∃ (r : Int32) (σ2 : Nat), wx_piled x p1 p2 (fun r2 x2 => r2 = r ∧ XOK σ2 x2) ∧ wm_piled y p1 p2 (fun r2 y2 => r2 = r ∧ MOK σ2 y2) := sorry
theorem op_sheets (σ : Nat) (x : XS) (y : MS) (hx : XOK σ x) (hm : MOK σ y) (p1 : Int32) : ∃ (r : Int32) (σ2 : Nat), wx_sheets x p1 (fun r2 x2 => r2 = r ∧ XOK σ2 x2) ∧ wm_sheets y p1 (fun r2 y2 => r2 = r ∧ MOK σ2 y2) := sorry
theorem op_formula (σ : Nat) (x : XS) (y : MS) (hx : XOK σ x) (hm : MOK σ y) (p1 : Int32) : ∃ (r : Int32) (σ2 : Nat), wx_formula x p1 (fun r2 x2 => r2 = r ∧ XOK σ2 x2) ∧ wm_formula y p1 (fun r2 y2 => r2 = r ∧ MOK σ2 y2) := sorry
theorem op_count (σ : Nat) (x : XS) (y : MS) (hx : XOK σ x) (hm : MOK σ y) (p1 : Int32) : ∃ (r : Int32) (σ2 : Nat), wx_count x p1 (fun r2 x2 => r2 = r ∧ XOK σ2 x2) ∧ wm_count y p1 (fun r2 y2 => r2 = r ∧ MOK σ2 y2) := sorry
