/-! THE HEAP BEHIND BOTH CONSTRUCTORS -/
def xh_fill (g : Nat → Nat) (x : Int32) (f : Nat → Int32) : Nat → Nat → Int32
  | 0 => f
  | n + 1 => upd (xh_fill g x f n) (g n) x
def xh_s0 : Nat → Int32 := xh_fill (fun t => 88 + 3 * t) 1 (xh_fill (fun k => 9 + 4 * k) 5 (xh_fill (fun i => 5 + i) 5 (upd (upd (fun _ => 0) 4 1) 1 100) 3) 20) 31
def xh_m0 : xM2 := (fun a => if a = 4 ∨ a = 22 ∨ a = 39 ∨ a = 53 then xh_fill (fun k => k) 5 (fun _ => 0) 20 else if a = 16 ∨ a = 34 then xh_fill (fun k => k) 5 (fun _ => 0) 3 else if a = 90 then xh_s0 else fun _ => 0,
  fun o k => if (o = 1 ∨ o = 19) ∧ k = 6 then 100 else if (o = 1 ∨ o = 19) ∧ k = 7 then 1 else if o = 65 ∧ k = 4 then 1 else 0)
set_option maxRecDepth 100000 in
set_option maxHeartbeats 4000000 in
theorem xh_init (st : xT) : fm_L_law st [] = fm_L_law_b18 st 5000 0 89 0 (mk xh_m0) := by rfl
