/-! STEPS: how a run is walked, with the heap's readings as hypotheses -/
section QV
variable {C : qx_K} {R : Option Value → qx_H → Prop} {cd : List qx_O} {pc : Nat} {ls : List (Option Value)} {stk r : List Value} {H : qx_H}
def qx_run : Nat → List qx_O → qx_S → Option qx_S
  | 0, _, σ => some σ
  | n + 1, cd, σ => match qx_nth cd σ.1 with
    | some f => match f σ with
      | some (.inl σ') => qx_run n cd σ'
      | _ => none
    | none => none
theorem qv_run {σ : qx_S} : ∀ (n : Nat) {σ0 : qx_S} (_ : qx_run n cd σ0 = some σ) (_ : qx_V C R cd σ), qx_V C R cd σ0
  | 0, σ0, e, k => by
    have : σ0 = σ := Option.some.inj e
    rw [this]
    exact k
  | n + 1, σ0, e, k => by
    simp only [qx_run] at e
    split at e
    · rename_i f hf
      split at e
      · rename_i σ' hσ
        apply qx_V.step
        unfold qx_step
        rw [← qx_nth_eq, hf]
        dsimp only
        rw [hσ]
        exact qv_run n e k
      · cases e
    · cases e
theorem qv_op {f : qx_O} {σ σ' : qx_S} (hf : qx_nth cd σ.1 = some f) (h : f σ = some (.inl σ')) (k : qx_V C R cd σ') : qx_V C R cd σ := by
  apply qx_V.step
  unfold qx_step
  rw [← qx_nth_eq, hf]
  dsimp only
  rw [h]
  exact k
theorem qv_br {c : Prop} [Decidable c] {σ a b : qx_S} (n : Nat) (e : qx_run n cd σ = some (if c then a else b)) (ha : c → qx_V C R cd a) (hb : ¬ c → qx_V C R cd b) : qx_V C R cd σ := by
  refine qv_run n e ?_
  by_cases h : c
  · rw [if_pos h]
    exact ha h
  · rw [if_neg h]
    exact hb h
theorem qv_swt {x c : Int32} {D t : Nat} {tb : List (Int32 × Nat)} (ha : x = c → qx_V C R cd (t, ls, stk, H)) (hb : ¬ x = c → qx_V C R cd (qx_swt x D tb, ls, stk, H)) : qx_V C R cd (qx_swt x D ((c, t) :: tb), ls, stk, H) := by
  by_cases h : x = c
  · simp only [qx_swt, if_pos h]
    exact ha h
  · simp only [qx_swt, if_neg h]
    exact hb h
theorem qv_sw0 {x : Int32} {D : Nat} (k : qx_V C R cd (D, ls, stk, H)) : qx_V C R cd (qx_swt x D [], ls, stk, H) := k
theorem qv_pos {α : Type} {c : Prop} [Decidable c] {a b z : α} (hc : c) (h : (if c then a else b) = z) : a = z := by rw [if_pos hc] at h; exact h
theorem qv_neg {α : Type} {c : Prop} [Decidable c] {a b z : α} (hc : ¬ c) (h : (if c then a else b) = z) : b = z := by rw [if_neg hc] at h; exact h
theorem qv_bind {α β : Type} {o : Option α} {f : α → Option β} {z : β} (h : o.bind f = some z) : ∃ x, o = some x ∧ f x = some z := by
  cases o with
  | none => cases h
  | some x => exact ⟨x, rfl, h⟩
def ob2 {α β γ : Type} (o : Option (α × β)) (f : α → β → Option γ) : Option γ := match o with
  | some (a, b) => f a b
  | none => none
theorem ob2_some {α β γ : Type} {a : α} {b : β} {f : α → β → Option γ} : ob2 (some (a, b)) f = f a b := rfl
theorem qv_bind2 {α β γ : Type} {o : Option (α × β)} {f : α → β → Option γ} {z : γ} (h : ob2 o f = some z) : ∃ a b, o = some (a, b) ∧ f a b = some z := by
  match o, h with
  | some (a, b), h => exact ⟨a, b, rfl, h⟩
theorem qv_pair {α β : Type} {a c : α} {b d : β} (h : some (a, b) = some (c, d)) : a = c ∧ b = d := by
  cases h
  exact ⟨rfl, rfl⟩
theorem qv_guard {α : Type} {c : Prop} [Decidable c] {a : Option α} {z : α} (h : (if c then a else none) = some z) : c ∧ a = some z := by
  by_cases hc : c
  · rw [if_pos hc] at h
    exact ⟨hc, h⟩
  · rw [if_neg hc] at h
    cases h
theorem hp_gI_get {o ci k : Nat} {x : Int32} (h : hp_gI H o ci k = some x) : hp_get H o ci k = some (.int x) := by
  unfold hp_gI at h
  split at h
  · rename_i y e
    cases h
    exact e
  · cases h
theorem hp_gR_get {o ci k : Nat} {x : Nat} (h : hp_gR H o ci k = some x) : hp_get H o ci k = some (.ref x) := by
  unfold hp_gR at h
  split at h
  · rename_i y e
    cases h
    exact e
  · cases h
theorem qv_getI {o ci k : Nat} {x : Int32} (hf : qx_nth cd pc = some (qx_get ci k)) (hx : hp_gI H o ci k = some x) (kk : qx_V C R cd (pc + 3, ls, .int x :: r, H)) : qx_V C R cd (pc, ls, .ref o :: r, H) :=
  qv_op (σ := (pc, ls, .ref o :: r, H)) hf (by simp only [qx_get, hp_gI_get hx]) kk
theorem qv_getR {o ci k : Nat} {x : Nat} (hf : qx_nth cd pc = some (qx_get ci k)) (hx : hp_gR H o ci k = some x) (kk : qx_V C R cd (pc + 3, ls, .ref x :: r, H)) : qx_V C R cd (pc, ls, .ref o :: r, H) :=
  qv_op (σ := (pc, ls, .ref o :: r, H)) hf (by simp only [qx_get, hp_gR_get hx]) kk
theorem qv_putI {o ci k : Nat} {v : Int32} {H' : qx_H} (hf : qx_nth cd pc = some (qx_putI ci k)) (hx : hp_put H o ci k (.int v) = some H') (kk : qx_V C R cd (pc + 3, ls, r, H')) : qx_V C R cd (pc, ls, .int v :: .ref o :: r, H) :=
  qv_op (σ := (pc, ls, .int v :: .ref o :: r, H)) hf (by simp only [qx_putI, qx_put, hx]) kk
theorem qv_putR {o ci k v : Nat} {H' : qx_H} (hf : qx_nth cd pc = some (qx_putR ci k)) (hx : hp_put H o ci k (.ref v) = some H') (kk : qx_V C R cd (pc + 3, ls, r, H')) : qx_V C R cd (pc, ls, .ref v :: .ref o :: r, H) :=
  qv_op (σ := (pc, ls, .ref v :: .ref o :: r, H)) hf (by simp only [qx_putR, qx_put, hx]) kk
theorem qv_putZ {o ci k : Nat} {v : Int32} {H' : qx_H} (hf : qx_nth cd pc = some (qx_putZ ci k)) (hv : v = 0 ∨ v = 1) (hx : hp_put H o ci k (.int v) = some H') (kk : qx_V C R cd (pc + 3, ls, r, H')) : qx_V C R cd (pc, ls, .int v :: .ref o :: r, H) :=
  qv_op (σ := (pc, ls, .int v :: .ref o :: r, H)) hf (by simp only [qx_putZ, qx_put, hx, if_pos hv]) kk
theorem qv_ald {st : UInt32 → Option (Nat × (Nat → Int32))} {a : Nat} {i x : Int32} (hf : qx_nth cd pc = some (qx_iald st)) (hx : hp_ald H a i = some x) (kk : qx_V C R cd (pc + 1, ls, .int x :: r, H)) : qx_V C R cd (pc, ls, .int i :: .ref a :: r, H) :=
  qv_op (σ := (pc, ls, .int i :: .ref a :: r, H)) hf (by simp only [qx_iald, hx]) kk
/-- a static row's number at a place -/
def hp_sld (st : UInt32 → Option (Nat × (Nat → Int32))) (w : UInt32) (i : Int32) : Option Int32 := match st w with
  | some (n, f) => if i < 0 ∨ n ≤ i.toNatClampNeg then none else some (f i.toNatClampNeg)
  | none => none
def hp_sln (st : UInt32 → Option (Nat × (Nat → Int32))) (w : UInt32) : Option Int32 := match st w with
  | some (n, _) => some (Int32.ofNat n)
  | none => none
theorem qv_sld {st : UInt32 → Option (Nat × (Nat → Int32))} {w : UInt32} {i x : Int32} (hf : qx_nth cd pc = some (qx_iald st)) (hx : hp_sld st w i = some x) (kk : qx_V C R cd (pc + 1, ls, .int x :: r, H)) : qx_V C R cd (pc, ls, .int i :: .float w :: r, H) := by
  refine qv_op (σ := (pc, ls, .int i :: .float w :: r, H)) hf ?_ kk
  unfold hp_sld at hx
  simp only [qx_iald]
  split at hx
  · rename_i n f e
    split at hx
    · cases hx
    · rename_i q
      cases hx
      rw [e]
      simp only [if_neg q]
  · cases hx
theorem qv_sln {st : UInt32 → Option (Nat × (Nat → Int32))} {w : UInt32} {x : Int32} (hf : qx_nth cd pc = some (qx_alen st)) (hx : hp_sln st w = some x) (kk : qx_V C R cd (pc + 1, ls, .int x :: r, H)) : qx_V C R cd (pc, ls, .float w :: r, H) := by
  refine qv_op (σ := (pc, ls, .float w :: r, H)) hf ?_ kk
  unfold hp_sln at hx
  simp only [qx_alen]
  split at hx
  · rename_i n f e
    cases hx
    rw [e]
  · cases hx
theorem qv_len {st : UInt32 → Option (Nat × (Nat → Int32))} {a : Nat} {x : Int32} (hf : qx_nth cd pc = some (qx_alen st)) (hx : hp_len H a = some x) (kk : qx_V C R cd (pc + 1, ls, .int x :: r, H)) : qx_V C R cd (pc, ls, .ref a :: r, H) :=
  qv_op (σ := (pc, ls, .ref a :: r, H)) hf (by simp only [qx_alen, hx]) kk
theorem qv_ast {a : Nat} {i x : Int32} {H' : qx_H} (hf : qx_nth cd pc = some qx_iast) (hx : hp_ast H a i x = some H') (kk : qx_V C R cd (pc + 1, ls, r, H')) : qx_V C R cd (pc, ls, .int x :: .int i :: .ref a :: r, H) :=
  qv_op (σ := (pc, ls, .int x :: .int i :: .ref a :: r, H)) hf (by simp only [qx_iast, hx]) kk
theorem qv_ra {a x : Nat} {i : Int32} (hf : qx_nth cd pc = some qx_aald) (hx : hp_ra H a i = some x) (kk : qx_V C R cd (pc + 1, ls, .ref x :: r, H)) : qx_V C R cd (pc, ls, .int i :: .ref a :: r, H) :=
  qv_op (σ := (pc, ls, .int i :: .ref a :: r, H)) hf (by simp only [qx_aald, hx]) kk
theorem qv_rast {a v ci : Nat} {i : Int32} {H' : qx_H} (hf : qx_nth cd pc = some (qx_aast ci)) (hx : hp_rast H a i ci v = some H') (kk : qx_V C R cd (pc + 1, ls, r, H')) : qx_V C R cd (pc, ls, .ref v :: .int i :: .ref a :: r, H) :=
  qv_op (σ := (pc, ls, .ref v :: .int i :: .ref a :: r, H)) hf (by simp only [qx_aast, hx]) kk
theorem qv_cpy {a b : Nat} {i j n : Int32} {H' : qx_H} (hf : qx_nth cd pc = some qx_cpy) (hs : (r.map fun v => v.category).sum ≤ 8) (hx : hp_cpy H a i b j n = some H') (kk : qx_V C R cd (pc + 3, ls, r, H')) : qx_V C R cd (pc, ls, .int n :: .int j :: .ref b :: .int i :: .ref a :: r, H) :=
  qv_op (σ := (pc, ls, .int n :: .int j :: .ref b :: .int i :: .ref a :: r, H)) hf (by simp only [qx_cpy, hx, if_pos hs]) kk
theorem qv_div {f : Int32 → Int32 → Int32} {x y : Int32} (hf : qx_nth cd pc = some (qx_div f)) (hy : ¬ y = 0) (kk : qx_V C R cd (pc + 1, ls, .int (f x y) :: r, H)) : qx_V C R cd (pc, ls, .int y :: .int x :: r, H) :=
  qv_op (σ := (pc, ls, .int y :: .int x :: r, H)) hf (by simp only [qx_div, if_neg hy]) kk
theorem qv_reti {x : Int32} (hf : qx_nth cd pc = some qx_reti) (h : R (some (.int x)) H) : qx_V C R cd (pc, ls, [.int x], H) := by
  apply qx_V.step
  unfold qx_step
  rw [← qx_nth_eq, hf]
  exact h
theorem qv_retz {x : Int32} (hf : qx_nth cd pc = some qx_retz) (hx : x = 0 ∨ x = 1) (h : R (some (.int x)) H) : qx_V C R cd (pc, ls, [.int x], H) := by
  apply qx_V.step
  unfold qx_step
  rw [← qx_nth_eq, hf]
  simp only [qx_retz, if_pos hx]
  exact h
theorem qv_retl {x : Int64} (hf : qx_nth cd pc = some qx_retl) (h : R (some (.long x)) H) : qx_V C R cd (pc, ls, [.long x], H) := by
  apply qx_V.step
  unfold qx_step
  rw [← qx_nth_eq, hf]
  exact h
theorem qv_reta {x : Nat} (hf : qx_nth cd pc = some qx_reta) (h : R (some (.ref x)) H) : qx_V C R cd (pc, ls, [.ref x], H) := by
  apply qx_V.step
  unfold qx_step
  rw [← qx_nth_eq, hf]
  exact h
theorem qv_ret0 (hf : qx_nth cd pc = some qx_ret0) (h : R none H) : qx_V C R cd (pc, ls, [], H) := by
  apply qx_V.step
  unfold qx_step
  rw [← qx_nth_eq, hf]
  exact h
theorem qv_call {k n : Nat} {H' : qx_H} {v : Option Value} (as : List Value) (hf : qx_nth cd pc = some (qx_call k n)) (hs : stk = as.reverse ++ r) (hn : as.length = n) (hc : (r.map fun v => v.category).sum ≤ 8) (hC : C k as H v H') (hl : H'.length = H.length) (kk : qx_V C R cd (pc + 3, ls, v.toList ++ r, H')) : qx_V C R cd (pc, ls, stk, H) := by
  apply qx_V.step
  unfold qx_step
  rw [← qx_nth_eq, hf]
  have e1 : stk.take n = as.reverse := by rw [hs, ← hn, List.take_append_of_le_length (by simp), List.take_of_length_le (by simp)]
  have e2 : stk.drop n = r := by rw [hs, ← hn, List.drop_append_of_le_length (by simp), List.drop_of_length_le (by simp)]; rfl
  have e3 : n ≤ stk.length := by rw [hs, ← hn]; simp
  simp only [qx_call, e1, e2, List.reverse_reverse]
  rw [if_pos ⟨e3, hc⟩]
  refine ⟨v, H', (pc + 3, ls, v.toList ++ r, H'), hC, ?_, kk⟩
  unfold qx_ct
  rw [if_pos hl]
theorem qv_callV {k n ci o : Nat} {H' : qx_H} {v : Option Value} (as : List Value) (hf : qx_nth cd pc = some (qx_callV k n ci)) (hs : stk = as.reverse ++ .ref o :: r) (hn : as.length + 1 = n) (hc : (r.map fun v => v.category).sum ≤ 8) (his : hp_is H o ci = true) (hC : C k (.ref o :: as) H v H') (hl : H'.length = H.length) (kk : qx_V C R cd (pc + 3, ls, v.toList ++ r, H')) : qx_V C R cd (pc, ls, stk, H) := by
  apply qx_V.step
  unfold qx_step
  rw [← qx_nth_eq, hf]
  have e0 : stk = (.ref o :: as).reverse ++ r := by rw [hs]; simp
  have e1 : stk.take n = (.ref o :: as).reverse := by rw [e0, ← hn, List.take_append_of_le_length (by simp), List.take_of_length_le (by simp)]
  have e2 : stk.drop n = r := by rw [e0, ← hn, List.drop_append_of_le_length (by simp), List.drop_of_length_le (by simp)]; rfl
  have e3 : n ≤ stk.length := by rw [e0, ← hn]; simp
  have e4 : stk.drop (n - 1) = .ref o :: r := by rw [hs, ← hn, Nat.add_sub_cancel, List.drop_append_of_le_length (by simp), List.drop_of_length_le (by simp)]; rfl
  simp only [qx_callV, e4, if_pos his, qx_call, e1, e2, List.reverse_reverse]
  rw [if_pos ⟨e3, hc⟩]
  refine ⟨v, H', (pc + 3, ls, v.toList ++ r, H'), hC, ?_, kk⟩
  unfold qx_ct
  rw [if_pos hl]
/-- a call that makes cells -/
theorem qv_callA {k n ci o : Nat} {H' : qx_H} {v : Option Value} (as : List Value) (hf : qx_nth cd pc = some (qx_callV k n ci)) (hs : stk = as.reverse ++ .ref o :: r) (hn : as.length + 1 = n) (hc : (r.map fun v => v.category).sum ≤ 8) (his : hp_is H o ci = true) (hC : C k (.ref o :: as) H v H') (hl : qx_okl H.length ls r = true) (kk : qx_V C R cd (pc + 3, ls, v.toList ++ r, H')) : qx_V C R cd (pc, ls, stk, H) := by
  apply qx_V.step
  unfold qx_step
  rw [← qx_nth_eq, hf]
  have e0 : stk = (.ref o :: as).reverse ++ r := by rw [hs]; simp
  have e1 : stk.take n = (.ref o :: as).reverse := by rw [e0, ← hn, List.take_append_of_le_length (by simp), List.take_of_length_le (by simp)]
  have e2 : stk.drop n = r := by rw [e0, ← hn, List.drop_append_of_le_length (by simp), List.drop_of_length_le (by simp)]; rfl
  have e3 : n ≤ stk.length := by rw [e0, ← hn]; simp
  have e4 : stk.drop (n - 1) = .ref o :: r := by rw [hs, ← hn, Nat.add_sub_cancel, List.drop_append_of_le_length (by simp), List.drop_of_length_le (by simp)]; rfl
  simp only [qx_callV, e4, if_pos his, qx_call, e1, e2, List.reverse_reverse]
  rw [if_pos ⟨e3, hc⟩]
  refine ⟨v, H', (pc + 3, ls, v.toList ++ r, H'), hC, ?_, kk⟩
  unfold qx_ct
  by_cases h : H'.length = H.length
  · rw [if_pos h]
  · rw [if_neg h, if_pos hl]
theorem qv_newa {n : Int32} (hf : qx_nth cd pc = some qx_newa) (hn : ¬ (n < 0 ∨ 100000 < n.toNatClampNeg)) (hok : qx_ok ls r H = true) (kk : qx_V C R cd (pc + 2, ls, .ref H.length :: r, H ++ [.inl (n.toNatClampNeg, .inl fun _ => 0)])) : qx_V C R cd (pc, ls, .int n :: r, H) :=
  qv_op (σ := (pc, ls, .int n :: r, H)) hf (by simp only [qx_newa, if_neg hn, if_pos hok]) kk
theorem qv_newq {n : Int32} (hf : qx_nth cd pc = some qx_newq) (hn : ¬ (n < 0 ∨ 100000 < n.toNatClampNeg)) (hok : qx_ok ls r H = true) (kk : qx_V C R cd (pc + 3, ls, .ref H.length :: r, H ++ [.inl (n.toNatClampNeg, .inr (.inr (.inr (.inr fun _ => none))))])) : qx_V C R cd (pc, ls, .int n :: r, H) :=
  qv_op (σ := (pc, ls, .int n :: r, H)) hf (by simp only [qx_newq, if_neg hn, if_pos hok]) kk
theorem qv_new {ci : Nat} {fs : List Value} (hf : qx_nth cd pc = some (qx_new ci fs)) (hok : qx_ok ls r H = true) (kk : qx_V C R cd (pc + 3, ls, .ref H.length :: r, H ++ [.inr (ci, fs)])) : qx_V C R cd (pc, ls, r, H) :=
  qv_op (σ := (pc, ls, r, H)) hf (by simp only [qx_new, if_pos hok]) kk
theorem hp_put_len {H' : qx_H} {o ci k : Nat} {v : Value} (h : hp_put H o ci k v = some H') : H'.length = H.length := by
  obtain ⟨fs, -, -, rfl⟩ := hp_put_set h
  simp
theorem hp_ast_len {H' : qx_H} {a : Nat} {i x : Int32} (h : hp_ast H a i x = some H') : H'.length = H.length := by
  obtain ⟨n, f, -, -, rfl⟩ := hp_ast_set h
  simp
theorem hp_rast_len {H' : qx_H} {a ci v : Nat} {i : Int32} (h : hp_rast H a i ci v = some H') : H'.length = H.length := by
  obtain ⟨n, f, fs, -, -, -, rfl⟩ := hp_rast_set h
  simp
theorem hp_cpy_len {H' : qx_H} {a b : Nat} {i j n : Int32} (h : hp_cpy H a i b j n = some H') : H'.length = H.length := by
  obtain ⟨n0, n1, f, g, -, -, -, -, -, -, -, rfl⟩ := hp_cpy_set h
  simp
end QV
/-- a method of the table, d frames deep -/
abbrev xE (st : xT) (d : Nat) : qx_K := qx_Ev (xm_cd st) xm_nL d
theorem xE_of {st : xT} {d k : Nat} {as : List Value} {H H' : qx_H} {v : Option Value} {cd : List qx_O} {nL : Nat} {ls : List (Option Value)} (hcd : xm_cd st k = cd) (hnL : xm_nL k = nL) (hl : (qx_ls0 as).length ≤ nL) (hls : qx_ls nL as = ls) (h : qx_V (xE st d) (fun v1 H1 => v1 = v ∧ H1 = H') cd (0, ls, [], H)) : xE st (d + 1) k as H v H' := by
  subst hcd hnL hls
  exact ⟨hl, h⟩
theorem xE_le {st : xT} {d d' k : Nat} {as : List Value} {H H' : qx_H} {v : Option Value} (hd : d ≤ d') (h : xE st d k as H v H') : xE st d' k as H v H' := qx_Ev.le hd h
/-- int arithmetic as the machine does it -/
def ji_shl (x y : Int32) : Int32 := x <<< (y &&& 31)
def ji_shr (x y : Int32) : Int32 := x >>> (y &&& 31)
def ji_ushr (x y : Int32) : Int32 := (x.toUInt32 >>> (y.toUInt32 &&& Int32.toUInt32 31)).toInt32
def ji_rem (x y : Int32) : Int32 := x - x / y * y
def ji_max (x y : Int32) : Int32 := if x < y then y else x
def ji_min (x y : Int32) : Int32 := if y < x then y else x
def jl_shl (x : Int64) (y : Int32) : Int64 := x <<< (y.toInt64 &&& 63)
def jl_shr (x : Int64) (y : Int32) : Int64 := x >>> (y.toInt64 &&& 63)
def jl_ushr (x : Int64) (y : Int32) : Int64 := (x.toUInt64 >>> (y.toInt64.toUInt64 &&& Int64.toUInt64 63)).toInt64
