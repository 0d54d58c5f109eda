/-! THE OPERATIONS -/
def hp_get (H : qx_H) (o ci k : Nat) : Option Value := match H[o]? with
  | some (.inr (c, fs)) => if c = ci then fs[k]? else none
  | _ => none
def hp_gI (H : qx_H) (o ci k : Nat) : Option Int32 := match hp_get H o ci k with
  | some (.int x) => some x
  | _ => none
def hp_gR (H : qx_H) (o ci k : Nat) : Option Nat := match hp_get H o ci k with
  | some (.ref x) => some x
  | _ => none
def hp_put (H : qx_H) (o ci k : Nat) (v : Value) : Option qx_H := match H[o]? with
  | some (.inr (c, fs)) => if c = ci ∧ k < fs.length then some (H.set o (.inr (c, fs.set k v))) else none
  | _ => none
def hp_ald (H : qx_H) (a : Nat) (i : Int32) : Option Int32 := match H[a]? with
  | some (.inl (n, .inl f)) => if i < 0 ∨ n ≤ i.toNatClampNeg then none else some (f i.toNatClampNeg)
  | _ => none
def hp_ast (H : qx_H) (a : Nat) (i x : Int32) : Option qx_H := match H[a]? with
  | some (.inl (n, .inl f)) => if i < 0 ∨ n ≤ i.toNatClampNeg then none else some (H.set a (.inl (n, .inl (upd f i.toNatClampNeg x))))
  | _ => none
def hp_len (H : qx_H) (a : Nat) : Option Int32 := match H[a]? with
  | some (.inl (n, .inl _)) => some (Int32.ofNat n)
  | _ => none
def hp_ra (H : qx_H) (a : Nat) (i : Int32) : Option Nat := match H[a]? with
  | some (.inl (n, .inr (.inr (.inr (.inr f))))) => if i < 0 ∨ n ≤ i.toNatClampNeg then none else f i.toNatClampNeg
  | _ => none
def hp_rast (H : qx_H) (a : Nat) (i : Int32) (ci v : Nat) : Option qx_H := match H[a]?, H[v]? with
  | some (.inl (n, .inr (.inr (.inr (.inr f))))), some (.inr (c, _)) => if i < 0 ∨ n ≤ i.toNatClampNeg ∨ ¬ c = ci then none else some (H.set a (.inl (n, .inr (.inr (.inr (.inr (va_up f i.toNatClampNeg (some v))))))))
  | _, _ => none
def hp_cpy (H : qx_H) (a : Nat) (i : Int32) (b : Nat) (j n : Int32) : Option qx_H := match H[a]?, H[b]? with
  | some (.inl (n0, .inl f)), some (.inl (n1, .inl g)) => if i < 0 ∨ j < 0 ∨ n < 0 ∨ n0 < i.toNatClampNeg + n.toNatClampNeg ∨ n1 < j.toNatClampNeg + n.toNatClampNeg then none else some (H.set b (.inl (n1, .inl (va_cpy f g i.toNatClampNeg j.toNatClampNeg n.toNatClampNeg))))
  | _, _ => none
def qx_no : qx_O := fun _ => none
def qx_push (n : Nat) (v : Value) : qx_O := fun σ => some (.inl (σ.1 + n, σ.2.1, v :: σ.2.2.1, σ.2.2.2))
def qx_iload (n i : Nat) : qx_O := fun (pc, ls, stk, H) => match ls[i]? with
  | some (some (.int x)) => some (.inl (pc + n, ls, .int x :: stk, H))
  | _ => none
def qx_lload (n i : Nat) : qx_O := fun (pc, ls, stk, H) => match ls[i]? with
  | some (some (.long x)) => some (.inl (pc + n, ls, .long x :: stk, H))
  | _ => none
def qx_aload (n i : Nat) : qx_O := fun (pc, ls, stk, H) => match ls[i]? with
  | some (some (.ref x)) => some (.inl (pc + n, ls, .ref x :: stk, H))
  | some (some (.float x)) => some (.inl (pc + n, ls, .float x :: stk, H))
  | _ => none
def qx_istore (n i : Nat) : qx_O := fun (pc, ls, stk, H) => match stk with
  | .int x :: r => if i < ls.length then some (.inl (pc + n, qx_st ls i (.int x), r, H)) else none
  | _ => none
def qx_astore (n i : Nat) : qx_O := fun (pc, ls, stk, H) => match stk with
  | .ref x :: r => if i < ls.length then some (.inl (pc + n, qx_st ls i (.ref x), r, H)) else none
  | _ => none
def qx_lstore (n i : Nat) : qx_O := fun (pc, ls, stk, H) => match stk with
  | .long x :: r => if i + 1 < ls.length then some (.inl (pc + n, qx_st2 ls i (.long x), r, H)) else none
  | _ => none
def qx_iinc (i : Nat) (v : Int32) : qx_O := fun (pc, ls, stk, H) => match ls[i]? with
  | some (some (.int x)) => some (.inl (pc + 3, qx_st ls i (.int (x + v)), stk, H))
  | _ => none
def qx_bin (f : Int32 → Int32 → Int32) : qx_O := fun (pc, ls, stk, H) => match stk with
  | .int y :: .int x :: r => some (.inl (pc + 1, ls, .int (f x y) :: r, H))
  | _ => none
def qx_bin3 (f : Int32 → Int32 → Int32) : qx_O := fun (pc, ls, stk, H) => match stk with
  | .int y :: .int x :: r => if (r.map fun v => v.category).sum ≤ 8 then some (.inl (pc + 3, ls, .int (f x y) :: r, H)) else none
  | _ => none
def qx_neg : qx_O := fun (pc, ls, stk, H) => match stk with
  | .int x :: r => some (.inl (pc + 1, ls, .int (-x) :: r, H))
  | _ => none
def qx_div (f : Int32 → Int32 → Int32) : qx_O := fun (pc, ls, stk, H) => match stk with
  | .int y :: .int x :: r => if y = 0 then none else some (.inl (pc + 1, ls, .int (f x y) :: r, H))
  | _ => none
def qx_i2l : qx_O := fun (pc, ls, stk, H) => match stk with
  | .int x :: r => some (.inl (pc + 1, ls, .long x.toInt64 :: r, H))
  | _ => none
def qx_l2i : qx_O := fun (pc, ls, stk, H) => match stk with
  | .long x :: r => some (.inl (pc + 1, ls, .int x.toInt32 :: r, H))
  | _ => none
def qx_lbin (f : Int64 → Int64 → Int64) : qx_O := fun (pc, ls, stk, H) => match stk with
  | .long y :: .long x :: r => some (.inl (pc + 1, ls, .long (f x y) :: r, H))
  | _ => none
def qx_lsh (f : Int64 → Int32 → Int64) : qx_O := fun (pc, ls, stk, H) => match stk with
  | .int y :: .long x :: r => some (.inl (pc + 1, ls, .long (f x y) :: r, H))
  | _ => none
def qx_lcmp : qx_O := fun (pc, ls, stk, H) => match stk with
  | .long y :: .long x :: r => some (.inl (pc + 1, ls, .int (lg_cmp x y) :: r, H))
  | _ => none
def qx_dup : qx_O := fun (pc, ls, stk, H) => match stk with
  | v :: r => if v.category = 1 then some (.inl (pc + 1, ls, v :: v :: r, H)) else none
  | _ => none
def qx_dup2 : qx_O := fun (pc, ls, stk, H) => match stk with
  | v :: u :: r => if v.category = 1 ∧ u.category = 1 then some (.inl (pc + 1, ls, v :: u :: v :: u :: r, H)) else none
  | _ => none
def qx_goto (tgt : Nat) : qx_O := fun (_, ls, stk, H) => some (.inl (tgt, ls, stk, H))
def qx_swt (x : Int32) (dflt : Nat) : List (Int32 × Nat) → Nat
  | [] => dflt
  | (c, t) :: r => if x = c then t else qx_swt x dflt r
def qx_sw (dflt : Nat) (tb : List (Int32 × Nat)) : qx_O := fun (_, ls, stk, H) => match stk with
  | .int x :: r => some (.inl (qx_swt x dflt tb, ls, r, H))
  | _ => none
def qx_get (ci k : Nat) : qx_O := fun (pc, ls, stk, H) => match stk with
  | .ref o :: r => match hp_get H o ci k with
    | some v => some (.inl (pc + 3, ls, v :: r, H))
    | none => none
  | _ => none
def qx_put (ci k : Nat) : qx_O := fun (pc, ls, stk, H) => match stk with
  | v :: .ref o :: r => match hp_put H o ci k v with
    | some H' => some (.inl (pc + 3, ls, r, H'))
    | none => none
  | _ => none
def qx_putI (ci k : Nat) : qx_O := fun (pc, ls, stk, H) => match stk with
  | .int v :: .ref o :: r => qx_put ci k (pc, ls, .int v :: .ref o :: r, H)
  | _ => none
def qx_putR (ci k : Nat) : qx_O := fun (pc, ls, stk, H) => match stk with
  | .ref v :: .ref o :: r => qx_put ci k (pc, ls, .ref v :: .ref o :: r, H)
  | _ => none
def qx_putZ (ci k : Nat) : qx_O := fun (pc, ls, stk, H) => match stk with
  | .int v :: .ref o :: r => if v = 0 ∨ v = 1 then qx_put ci k (pc, ls, .int v :: .ref o :: r, H) else none
  | _ => none
def qx_gst : qx_O := fun (pc, ls, stk, H) => some (.inl (pc + 3, ls, .float 0 :: stk, H))
def qx_iald (st : UInt32 → Option (Nat × (Nat → Int32))) : qx_O := fun (pc, ls, stk, H) => match stk with
  | .int i :: .ref a :: r => match hp_ald H a i with
    | some x => some (.inl (pc + 1, ls, .int x :: r, H))
    | none => none
  | .int i :: .float a :: r => match st a with
    | some (n, f) => if i < 0 ∨ n ≤ i.toNatClampNeg then none else some (.inl (pc + 1, ls, .int (f i.toNatClampNeg) :: r, H))
    | none => none
  | _ => none
def qx_alen (st : UInt32 → Option (Nat × (Nat → Int32))) : qx_O := fun (pc, ls, stk, H) => match stk with
  | .ref a :: r => match hp_len H a with
    | some x => some (.inl (pc + 1, ls, .int x :: r, H))
    | none => none
  | .float a :: r => match st a with
    | some (n, _) => some (.inl (pc + 1, ls, .int (Int32.ofNat n) :: r, H))
    | none => none
  | _ => none
def qx_iast : qx_O := fun (pc, ls, stk, H) => match stk with
  | .int x :: .int i :: .ref a :: r => match hp_ast H a i x with
    | some H' => some (.inl (pc + 1, ls, r, H'))
    | none => none
  | _ => none
def qx_aald : qx_O := fun (pc, ls, stk, H) => match stk with
  | .int i :: .ref a :: r => match hp_ra H a i with
    | some x => some (.inl (pc + 1, ls, .ref x :: r, H))
    | none => none
  | _ => none
def qx_aast (ci : Nat) : qx_O := fun (pc, ls, stk, H) => match stk with
  | .ref v :: .int i :: .ref a :: r => match hp_rast H a i ci v with
    | some H' => some (.inl (pc + 1, ls, r, H'))
    | none => none
  | _ => none
def qx_newa : qx_O := fun (pc, ls, stk, H) => match stk with
  | .int n :: r => if n < 0 ∨ 100000 < n.toNatClampNeg then none else if qx_ok ls r H = true then some (.inl (pc + 2, ls, .ref H.length :: r, H ++ [.inl (n.toNatClampNeg, .inl fun _ => 0)])) else none
  | _ => none
def qx_newq : qx_O := fun (pc, ls, stk, H) => match stk with
  | .int n :: r => if n < 0 ∨ 100000 < n.toNatClampNeg then none else if qx_ok ls r H = true then some (.inl (pc + 3, ls, .ref H.length :: r, H ++ [.inl (n.toNatClampNeg, .inr (.inr (.inr (.inr fun _ => none))))])) else none
  | _ => none
def qx_new (ci : Nat) (fs : List Value) : qx_O := fun (pc, ls, stk, H) =>
  if qx_ok ls stk H = true then some (.inl (pc + 3, ls, .ref H.length :: stk, H ++ [.inr (ci, fs)])) else none
def qx_oinit : qx_O := fun (pc, ls, stk, H) => match stk with
  | .ref _ :: r => if (r.map fun v => v.category).sum ≤ 8 then some (.inl (pc + 3, ls, r, H)) else none
  | _ => none
def qx_cpy : qx_O := fun (pc, ls, stk, H) => match stk with
  | .int n :: .int j :: .ref b :: .int i :: .ref a :: r => if (r.map fun v => v.category).sum ≤ 8 then (match hp_cpy H a i b j n with
    | some H' => some (.inl (pc + 3, ls, r, H'))
    | none => none) else none
  | _ => none
/-- behind a call: on, if nothing was made, or nothing in this frame points to what was made -/
def qx_ct (pc : Nat) (ls : List (Option Value)) (r : List Value) (n : Nat) : Option Value → qx_H → Option qx_S := fun v H' =>
  if H'.length = n then some (pc + 3, ls, v.toList ++ r, H') else if qx_okl n ls r = true then some (pc + 3, ls, v.toList ++ r, H') else none
def qx_call (k n : Nat) : qx_O := fun (pc, ls, stk, H) =>
  if n ≤ stk.length ∧ ((stk.drop n).map fun v => v.category).sum ≤ 8 then some (.inr (.inr (k, (stk.take n).reverse, H, qx_ct pc ls (stk.drop n) H.length))) else none
def qx_reti : qx_O := fun (_, _, stk, H) => match stk with
  | [.int x] => some (.inr (.inl (some (.int x), H)))
  | _ => none
def qx_retz : qx_O := fun (_, _, stk, H) => match stk with
  | [.int x] => if x = 0 ∨ x = 1 then some (.inr (.inl (some (.int x), H))) else none
  | _ => none
def qx_retl : qx_O := fun (_, _, stk, H) => match stk with
  | [.long x] => some (.inr (.inl (some (.long x), H)))
  | _ => none
def qx_reta : qx_O := fun (_, _, stk, H) => match stk with
  | [.ref x] => some (.inr (.inl (some (.ref x), H)))
  | _ => none
def qx_ret0 : qx_O := fun (_, _, stk, H) => match stk with
  | [] => some (.inr (.inl (none, H)))
  | _ => none
def qx_if_eq (tgt : Nat) : qx_O := fun (pc, ls, stk, H) => match stk with
  | .int x :: r => some (.inl (if x = 0 then (tgt, ls, r, H) else (pc + 3, ls, r, H)))
  | _ => none
def qx_ic_eq (tgt : Nat) : qx_O := fun (pc, ls, stk, H) => match stk with
  | .int y :: .int x :: r => some (.inl (if x = y then (tgt, ls, r, H) else (pc + 3, ls, r, H)))
  | _ => none
def qx_if_ne (tgt : Nat) : qx_O := fun (pc, ls, stk, H) => match stk with
  | .int x :: r => some (.inl (if x = 0 then (pc + 3, ls, r, H) else (tgt, ls, r, H)))
  | _ => none
def qx_ic_ne (tgt : Nat) : qx_O := fun (pc, ls, stk, H) => match stk with
  | .int y :: .int x :: r => some (.inl (if x = y then (pc + 3, ls, r, H) else (tgt, ls, r, H)))
  | _ => none
def qx_if_lt (tgt : Nat) : qx_O := fun (pc, ls, stk, H) => match stk with
  | .int x :: r => some (.inl (if x < 0 then (tgt, ls, r, H) else (pc + 3, ls, r, H)))
  | _ => none
def qx_ic_lt (tgt : Nat) : qx_O := fun (pc, ls, stk, H) => match stk with
  | .int y :: .int x :: r => some (.inl (if x < y then (tgt, ls, r, H) else (pc + 3, ls, r, H)))
  | _ => none
def qx_if_ge (tgt : Nat) : qx_O := fun (pc, ls, stk, H) => match stk with
  | .int x :: r => some (.inl (if 0 ≤ x then (tgt, ls, r, H) else (pc + 3, ls, r, H)))
  | _ => none
def qx_ic_ge (tgt : Nat) : qx_O := fun (pc, ls, stk, H) => match stk with
  | .int y :: .int x :: r => some (.inl (if y ≤ x then (tgt, ls, r, H) else (pc + 3, ls, r, H)))
  | _ => none
def qx_if_gt (tgt : Nat) : qx_O := fun (pc, ls, stk, H) => match stk with
  | .int x :: r => some (.inl (if 0 < x then (tgt, ls, r, H) else (pc + 3, ls, r, H)))
  | _ => none
def qx_ic_gt (tgt : Nat) : qx_O := fun (pc, ls, stk, H) => match stk with
  | .int y :: .int x :: r => some (.inl (if y < x then (tgt, ls, r, H) else (pc + 3, ls, r, H)))
  | _ => none
def qx_if_le (tgt : Nat) : qx_O := fun (pc, ls, stk, H) => match stk with
  | .int x :: r => some (.inl (if x ≤ 0 then (tgt, ls, r, H) else (pc + 3, ls, r, H)))
  | _ => none
def qx_ic_le (tgt : Nat) : qx_O := fun (pc, ls, stk, H) => match stk with
  | .int y :: .int x :: r => some (.inl (if x ≤ y then (tgt, ls, r, H) else (pc + 3, ls, r, H)))
  | _ => none
