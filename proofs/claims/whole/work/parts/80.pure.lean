/-! the static rows: 0 the BODIES, 1 the script -/
def xb_list : List Int32 := [10, 11, 12, 13, 20, 0, 0, 21, 0, 30, 0, 0, 0, 0, 40, 0, 50, 0, 51, 0, 0, 60, 0, 0, 70, 71, 0, 0]
def xb_st (L : Nat) (xs : Nat → Int32) : xT := fun w => if w = 0 then some (28, fun i => xb_list.getD i 0) else if w = 1 then some (L, xs) else none
theorem law_pure (L : Nat) (hL : L ≤ 3072) (xs : Nat → Int32) : ∃ H' : qx_H, fm_L_law (xb_st L xs) [] = some (1, H') ∧ H'.length ≤ 600000 ∧ qx_wt H' ≤ 7302250 := sorry
