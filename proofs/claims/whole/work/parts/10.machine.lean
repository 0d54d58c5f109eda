/-! AN INTERPRETER OF THE BYTECODE OVER A PURE HEAP. A cell is an array or an object whose references are the places of cells in the heap; an operation is a function of a configuration (pc, locals, stack, heap). -/
abbrev qx_C : Type := vp_A ⊕ (Nat × List Value)
abbrev qx_H : Type := List qx_C
abbrev qx_S : Type := Nat × List (Option Value) × List Value × qx_H
abbrev qx_R : Type := qx_S ⊕ ((Option Value × qx_H) ⊕ (Nat × List Value × qx_H × (Option Value → qx_H → Option qx_S)))
abbrev qx_O : Type := qx_S → Option qx_R
abbrev qx_K : Type := Nat → List Value → qx_H → Option Value → qx_H → Prop
/-- what the result of an operation leads to: on (K), back (R), or into a method (C) and on -/
def qx_app (C : qx_K) (R : Option Value → qx_H → Prop) (K : qx_S → Prop) : Option qx_R → Prop
  | none => False
  | some (.inl σ) => K σ
  | some (.inr (.inl (v, H))) => R v H
  | some (.inr (.inr (k, as, H, ct))) => ∃ v H' σ, C k as H v H' ∧ ct v H' = some σ ∧ K σ
def qx_step (cd : List qx_O) (σ : qx_S) : Option qx_R := match cd[σ.1]? with
  | some f => f σ
  | none => none
/-- the run from a configuration comes to its end: the least such predicate -/
def qx_V (C : qx_K) (R : Option Value → qx_H → Prop) (cd : List qx_O) (σ : qx_S) : Prop :=
  ∀ P : qx_S → Prop, (∀ σ, qx_app C R P (qx_step cd σ) → P σ) → P σ
theorem qx_app_mono {C : qx_K} {R : Option Value → qx_H → Prop} {K K' : qx_S → Prop} (h : ∀ σ, K σ → K' σ) : ∀ r, qx_app C R K r → qx_app C R K' r
  | none, q => q
  | some (.inl σ), q => h σ q
  | some (.inr (.inl (v, H))), q => q
  | some (.inr (.inr (k, as, H, ct))), q => by
    obtain ⟨v, H', σ, a, b, d⟩ := q
    exact ⟨v, H', σ, a, b, h σ d⟩
theorem qx_appC_mono {C C' : qx_K} {R : Option Value → qx_H → Prop} {K : qx_S → Prop} (h : ∀ k as H v H', C k as H v H' → C' k as H v H') : ∀ r, qx_app C R K r → qx_app C' R K r
  | none, q => q
  | some (.inl σ), q => q
  | some (.inr (.inl (v, H))), q => q
  | some (.inr (.inr (k, as, H, ct))), q => by
    obtain ⟨v, H', σ, a, b, d⟩ := q
    exact ⟨v, H', σ, h _ _ _ _ _ a, b, d⟩
theorem qx_V.step {C : qx_K} {R : Option Value → qx_H → Prop} {cd : List qx_O} {σ : qx_S} (h : qx_app C R (qx_V C R cd) (qx_step cd σ)) : qx_V C R cd σ :=
  fun P hP => hP σ (qx_app_mono (fun σ' q => q P hP) _ h)
theorem qx_V.monoC {C C' : qx_K} {R : Option Value → qx_H → Prop} {cd : List qx_O} {σ : qx_S} (h : ∀ k as H v H', C k as H v H' → C' k as H v H') (q : qx_V C R cd σ) : qx_V C' R cd σ :=
  fun P hP => q P (fun σ' k => hP σ' (qx_appC_mono h _ k))
/-- locals at a method's entry -/
def qx_ls0 : List Value → List (Option Value)
  | [] => []
  | v :: vs => if v.category = 2 then some v :: none :: qx_ls0 vs else some v :: qx_ls0 vs
def qx_ls (n : Nat) (as : List Value) : List (Option Value) := qx_ls0 as ++ List.replicate (n - (qx_ls0 as).length) none
/-- a method comes back: at most d frames deep -/
def qx_Ev (cds : Nat → List qx_O) (nLs : Nat → Nat) : Nat → qx_K
  | 0 => fun _ _ _ _ _ => False
  | d + 1 => fun k as H v H' => (qx_ls0 as).length ≤ nLs k ∧ qx_V (qx_Ev cds nLs d) (fun v1 H1 => v1 = v ∧ H1 = H') (cds k) (0, qx_ls (nLs k) as, [], H)
theorem qx_Ev.up {cds : Nat → List qx_O} {nLs : Nat → Nat} : ∀ {d : Nat} {k : Nat} {as : List Value} {H : qx_H} {v : Option Value} {H' : qx_H}, qx_Ev cds nLs d k as H v H' → qx_Ev cds nLs (d + 1) k as H v H'
  | 0, _, _, _, _, _, h => h.elim
  | _ + 1, _, _, _, _, _, h => ⟨h.1, qx_V.monoC (fun _ _ _ _ _ q => qx_Ev.up q) h.2⟩
theorem qx_Ev.le {cds : Nat → List qx_O} {nLs : Nat → Nat} {d d' k : Nat} {as : List Value} {H : qx_H} {v : Option Value} {H' : qx_H} (hd : d ≤ d') (h : qx_Ev cds nLs d k as H v H') : qx_Ev cds nLs d' k as H v H' := by
  induction hd with
  | refl => exact h
  | step _ ih => exact ih.up
/-! the machine's values and cells for the pure ones: ad, cs: a cell's address and class; sd: the static arrays' addresses ('.float w' stands for the w-th) -/
def qx_v (sd : UInt32 → Nat) (ad : Nat → Nat) : Value → Value
  | .ref i => .ref (ad i)
  | .float w => .ref (sd w)
  | v => v
def qx_ra (ad : Nat → Nat) (n : Nat) (f : Nat → Option Nat) : Nat → Option Nat := fun j => if j < n then (f j).map ad else none
def qx_ce (sd : UInt32 → Nat) (ad : Nat → Nat) (cA : ClassId) : qx_C → va_E
  | .inl (n, .inr (.inr (.inr (.inr f)))) => .inl (cA, n, .inr (.inr (.inr (.inr (qx_ra ad n f)))))
  | .inl a => .inl (cA, a)
  | .inr (ci, fs) => .inr (ci, fs.map (qx_v sd ad))
def qx_ws (sd : UInt32 → Nat) (ad : Nat → Nat) (cs : Nat → ClassId) (H : qx_H) : va_W := H.mapIdx (fun i c => (ad i, qx_ce sd ad (cs i) c))
theorem qx_ws_get {sd : UInt32 → Nat} {ad : Nat → Nat} {cs : Nat → ClassId} {H : qx_H} {i : Nat} {c : qx_C} (h : H[i]? = some c) : (qx_ws sd ad cs H)[i]? = some (ad i, qx_ce sd ad (cs i) c) := by
  simp [qx_ws, h]
theorem qx_ws_inv {sd : UInt32 → Nat} {ad : Nat → Nat} {cs : Nat → ClassId} {H : qx_H} {i : Nat} {q : Nat × va_E} (h : (qx_ws sd ad cs H)[i]? = some q) : ∃ c, H[i]? = some c ∧ q = (ad i, qx_ce sd ad (cs i) c) := by
  simp only [qx_ws, List.getElem?_mapIdx, Option.map_eq_some_iff] at h
  obtain ⟨c, h1, h2⟩ := h
  exact ⟨c, h1, h2.symm⟩
theorem qx_ws_set {sd : UInt32 → Nat} {ad : Nat → Nat} {cs : Nat → ClassId} {H : qx_H} {i : Nat} {c : qx_C} : (qx_ws sd ad cs H).set i (ad i, qx_ce sd ad (cs i) c) = qx_ws sd ad cs (H.set i c) := by
  apply List.ext_getElem?
  intro j
  simp only [qx_ws, List.getElem?_set, List.getElem?_mapIdx, List.length_mapIdx]
  by_cases h : i = j
  · subst h
    by_cases h2 : i < H.length <;> simp [h2]
  · simp [h]
theorem qx_ws_push {sd : UInt32 → Nat} {ad : Nat → Nat} {cs : Nat → ClassId} {H : qx_H} {c : qx_C} : qx_ws sd ad cs (H ++ [c]) = qx_ws sd ad cs H ++ [(ad H.length, qx_ce sd ad (cs H.length) c)] := by
  simp [qx_ws, List.mapIdx_append]
def qx_sz : qx_C → Nat
  | .inl a => a.1
  | .inr o => o.2.length
def qx_wt (H : qx_H) : Nat := (H.map qx_sz).sum
theorem qx_wt_push {H : qx_H} {c : qx_C} : qx_wt (H ++ [c]) = qx_wt H + qx_sz c := by simp [qx_wt]
theorem qx_wt_set : ∀ {H : qx_H} {i : Nat} {c c0 : qx_C}, H[i]? = some c0 → qx_sz c = qx_sz c0 → qx_wt (H.set i c) = qx_wt H
  | [], _, _, _, h, _ => by simp at h
  | a :: l, 0, c, c0, h, hs => by
    simp at h
    subst h
    simp [qx_wt, hs]
  | a :: l, i + 1, c, c0, h, hs => by
    have ih := qx_wt_set (H := l) (i := i) (c := c) (c0 := c0) (by simpa using h) hs
    simp only [qx_wt] at ih
    simp only [qx_wt, List.set_cons_succ, List.map_cons, List.sum_cons, ih]
def qx_ty (shC : String) : qx_C → Option FieldType
  | .inl (_, .inl _) => some .int
  | .inl (_, .inr (.inr (.inr (.inr _)))) => some (.object shC)
  | _ => none
/-- references that stand in a value, a cell, a heap, below n -/
def qx_okv (n : Nat) : Value → Bool
  | .ref i => Nat.blt i n
  | _ => true
def qx_oko (n : Nat) : Option Value → Bool
  | some v => qx_okv n v
  | none => true
def qx_okc (n : Nat) : qx_C → Bool
  | .inl (k, .inr (.inr (.inr (.inr f)))) => (List.range k).all fun j => match f j with
    | some i => Nat.blt i n
    | none => true
  | .inl _ => true
  | .inr (_, fs) => fs.all (qx_okv n)
def qx_okl (n : Nat) (ls : List (Option Value)) (stk : List Value) : Bool := ls.all (qx_oko n) && stk.all (qx_okv n)
def qx_ok (ls : List (Option Value)) (stk : List Value) (H : qx_H) : Bool := qx_okl H.length ls stk && H.all (qx_okc H.length)
theorem qx_okv_eq {sd : UInt32 → Nat} {ad ad' : Nat → Nat} {n : Nat} {v : Value} (h : qx_okv n v = true) (ha : ∀ i, i < n → ad' i = ad i) : qx_v sd ad' v = qx_v sd ad v := by
  cases v with
  | ref i => exact congrArg Value.ref (ha i (Nat.le_of_ble_eq_true h))
  | _ => rfl
theorem qx_okc_eq {sd : UInt32 → Nat} {ad ad' : Nat → Nat} {n : Nat} {cA : ClassId} {c : qx_C} (h : qx_okc n c = true) (ha : ∀ i, i < n → ad' i = ad i) : qx_ce sd ad' cA c = qx_ce sd ad cA c := by
  match c, h with
  | .inr (ci, fs), h =>
    simp only [qx_okc, List.all_eq_true] at h
    simp only [qx_ce, Sum.inr.injEq, Prod.mk.injEq, true_and]
    exact List.map_congr_left fun v hv => qx_okv_eq (h v hv) ha
  | .inl (k, .inr (.inr (.inr (.inr f)))), h =>
    simp only [qx_okc, List.all_eq_true, List.mem_range] at h
    have e : qx_ra ad' k f = qx_ra ad k f := by
      funext j
      simp only [qx_ra]
      by_cases hj : j < k
      · rw [if_pos hj, if_pos hj]
        have h1 := h j hj
        cases hf : f j with
        | none => rfl
        | some i =>
          rw [hf] at h1
          exact congrArg some (ha i (Nat.le_of_ble_eq_true h1))
      · rw [if_neg hj, if_neg hj]
    simp only [qx_ce, e]
  | .inl (k, .inl f), h => rfl
  | .inl (k, .inr (.inl f)), h => rfl
  | .inl (k, .inr (.inr (.inl f))), h => rfl
  | .inl (k, .inr (.inr (.inr (.inl f)))), h => rfl
theorem qx_ok_ws {sd : UInt32 → Nat} {ad ad' : Nat → Nat} {cs cs' : Nat → ClassId} {H : qx_H} (h : H.all (qx_okc H.length) = true) (ha : ∀ i, i < H.length → ad' i = ad i) (hc : ∀ i, i < H.length → cs' i = cs i) : qx_ws sd ad' cs' H = qx_ws sd ad cs H := by
  apply List.ext_getElem?
  intro j
  simp only [qx_ws, List.getElem?_mapIdx]
  cases hj : H[j]? with
  | none => rfl
  | some c =>
    have hl : j < H.length := (List.getElem?_eq_some_iff.mp hj).1
    have h1 := List.all_eq_true.mp h c (List.mem_of_getElem? hj)
    simp only [Option.map_some, ha j hl, hc j hl, qx_okc_eq h1 ha]
theorem qx_okl_stk {sd : UInt32 → Nat} {ad ad' : Nat → Nat} {n : Nat} {stk : List Value} (h : stk.all (qx_okv n) = true) (ha : ∀ i, i < n → ad' i = ad i) : stk.map (qx_v sd ad') = stk.map (qx_v sd ad) :=
  List.map_congr_left fun v hv => qx_okv_eq (List.all_eq_true.mp h v hv) ha
/-! locals -/
def qx_L (sd : UInt32 → Nat) (ad : Nat → Nat) (arr : Array Slot) (nL : Nat) (ls : List (Option Value)) : Prop := arr.size = nL ∧ ls.length = nL ∧ lv_wf arr ∧ ∀ (i : Nat) (v : Value), ls[i]? = some (some v) → arr[i]? = some (.val (qx_v sd ad v))
theorem qx_okl_L {sd : UInt32 → Nat} {ad ad' : Nat → Nat} {n : Nat} {arr : Array Slot} {nL : Nat} {ls : List (Option Value)} (h : ls.all (qx_oko n) = true) (ha : ∀ i, i < n → ad' i = ad i) (hL : qx_L sd ad arr nL ls) : qx_L sd ad' arr nL ls := by
  refine ⟨hL.1, hL.2.1, hL.2.2.1, fun i v hi => ?_⟩
  have h1 : qx_okv n v = true := List.all_eq_true.mp h (some v) (List.mem_of_getElem? hi)
  rw [qx_okv_eq h1 ha]
  exact hL.2.2.2 i v hi
def qx_lv (sd : UInt32 → Nat) (ad : Nat → Nat) (ls : List (Option Value)) : List (Nat × Value) := (ls.mapIdx fun i o => (i, o)).filterMap (fun q => q.2.map fun v => (q.1, qx_v sd ad v))
theorem qx_lv_mem {sd : UInt32 → Nat} {ad : Nat → Nat} {ls : List (Option Value)} {i : Nat} {x : Value} : (i, x) ∈ qx_lv sd ad ls ↔ ∃ v, ls[i]? = some (some v) ∧ x = qx_v sd ad v := by
  simp only [qx_lv, List.mem_filterMap]
  constructor
  · rintro ⟨⟨j, o⟩, hq, hx⟩
    obtain ⟨k, hk⟩ := List.mem_iff_getElem?.mp hq
    simp only [List.getElem?_mapIdx, Option.map_eq_some_iff, Prod.mk.injEq] at hk
    obtain ⟨o', h1, rfl, rfl⟩ := hk
    simp only [Option.map_eq_some_iff, Prod.mk.injEq] at hx
    obtain ⟨v, rfl, rfl, rfl⟩ := hx
    exact ⟨v, h1, rfl⟩
  · rintro ⟨v, h1, rfl⟩
    refine ⟨(i, some v), List.mem_iff_getElem?.mpr ⟨i, ?_⟩, rfl⟩
    simp [h1]
theorem qx_L.has {sd : UInt32 → Nat} {ad : Nat → Nat} {arr : Array Slot} {nL : Nat} {ls : List (Option Value)} (h : qx_L sd ad arr nL ls) : lv_has arr nL (qx_lv sd ad ls) :=
  ⟨h.1, h.2.2.1, fun q hq => by
    obtain ⟨v, h1, h2⟩ := qx_lv_mem.mp (show (q.1, q.2) ∈ _ from hq)
    rw [h2]
    exact h.2.2.2 _ v h1⟩
def qx_kl (ls : List (Option Value)) : Nat → List (Option Value)
  | 0 => ls
  | j + 1 => match ls[j]? with
    | some (some (.long _)) => ls.set j none
    | some (some (.double _)) => ls.set j none
    | _ => ls
def qx_st (ls : List (Option Value)) (i : Nat) (v : Value) : List (Option Value) := (qx_kl ls i).set i (some v)
def qx_st2 (ls : List (Option Value)) (i : Nat) (v : Value) : List (Option Value) := (qx_st ls i v).set (i + 1) none
theorem qx_cat {sd : UInt32 → Nat} {ad : Nat → Nat} {v : Value} : (qx_v sd ad v).category = v.category := by cases v <;> rfl
theorem qx_cats {sd : UInt32 → Nat} {ad : Nat → Nat} {stk : List Value} : (stk.map (qx_v sd ad)).map (fun v => v.category) = stk.map (fun v => v.category) := by
  rw [List.map_map]
  exact List.map_congr_left fun v _ => qx_cat
theorem qx_kl_len {ls : List (Option Value)} {i : Nat} : (qx_kl ls i).length = ls.length := by
  cases i with
  | zero => rfl
  | succ j =>
    simp only [qx_kl]
    split <;> simp
theorem qx_kl_get {ls : List (Option Value)} {i j : Nat} {v : Value} (h : (qx_kl ls i)[j]? = some (some v)) : ls[j]? = some (some v) ∧ ¬ (j + 1 = i ∧ v.category = 2) := by
  cases i with
  | zero => exact ⟨h, fun q => by omega⟩
  | succ k =>
    simp only [qx_kl] at h
    split at h
    · rw [List.getElem?_set] at h
      by_cases hk : k = j
      · subst hk
        simp only [if_true] at h
        split at h <;> simp at h
      · rw [if_neg hk] at h
        exact ⟨h, fun q => hk (by omega)⟩
    · rw [List.getElem?_set] at h
      by_cases hk : k = j
      · subst hk
        simp only [if_true] at h
        split at h <;> simp at h
      · rw [if_neg hk] at h
        exact ⟨h, fun q => hk (by omega)⟩
    · rename_i h1 h2
      refine ⟨h, fun q => ?_⟩
      obtain ⟨q1, q2⟩ := q
      have e : k = j := by omega
      subst e
      cases v with
      | long x => exact h1 x h
      | double x => exact h2 x h
      | _ => simp [Value.category] at q2
theorem qx_L.store {sd : UInt32 → Nat} {ad : Nat → Nat} {arr' : Array Slot} {nL i : Nat} {ls : List (Option Value)} {v : Value} (hn : ls.length = nL) (h : lv_has arr' nL ((i, qx_v sd ad v) :: (qx_lv sd ad ls).filter (fun q => !(q.1 == i) && !(q.1 + 1 == i && q.2.category == 2)))) : qx_L sd ad arr' nL (qx_st ls i v) := by
  refine ⟨h.1, by simp [qx_st, qx_kl_len, hn], h.2.1, fun j w hj => ?_⟩
  simp only [qx_st, List.getElem?_set] at hj
  by_cases e : i = j
  · subst e
    simp only [if_true] at hj
    split at hj
    · simp at hj
      subst hj
      exact h.2.2 _ List.mem_cons_self
    · simp at hj
  · rw [if_neg e] at hj
    obtain ⟨h1, h2⟩ := qx_kl_get hj
    refine h.2.2 (j, qx_v sd ad w) (List.mem_cons_of_mem _ (List.mem_filter.mpr ⟨qx_lv_mem.mpr ⟨w, h1, rfl⟩, ?_⟩))
    simp only [qx_cat]
    have e2 : ¬ j = i := fun q => e q.symm
    by_cases c1 : j + 1 = i
    · have : ¬ w.category = 2 := fun q => h2 ⟨c1, q⟩
      simp [e2, this]
    · simp [e2, c1]
theorem qx_L.store2 {sd : UInt32 → Nat} {ad : Nat → Nat} {arr' : Array Slot} {nL i : Nat} {ls : List (Option Value)} {v : Value} (hn : ls.length = nL) (h : lv_has arr' nL ((i, qx_v sd ad v) :: (qx_lv sd ad ls).filter (fun q => !(q.1 == i) && (!(q.1 == i + 1) && !(q.1 + 1 == i && q.2.category == 2))))) : qx_L sd ad arr' nL (qx_st2 ls i v) := by
  refine ⟨h.1, by simp [qx_st2, qx_st, qx_kl_len, hn], h.2.1, fun j w hj => ?_⟩
  simp only [qx_st2, List.getElem?_set] at hj
  by_cases e0 : i + 1 = j
  · subst e0
    simp only [if_true] at hj
    split at hj <;> simp at hj
  · rw [if_neg e0] at hj
    simp only [qx_st, List.getElem?_set] at hj
    by_cases e : i = j
    · subst e
      simp only [if_true] at hj
      split at hj
      · simp at hj
        subst hj
        exact h.2.2 _ List.mem_cons_self
      · simp at hj
    · rw [if_neg e] at hj
      obtain ⟨h1, h2⟩ := qx_kl_get hj
      refine h.2.2 (j, qx_v sd ad w) (List.mem_cons_of_mem _ (List.mem_filter.mpr ⟨qx_lv_mem.mpr ⟨w, h1, rfl⟩, ?_⟩))
      simp only [qx_cat]
      have e2 : ¬ j = i := fun q => e q.symm
      have e3 : ¬ j = i + 1 := fun q => e0 q.symm
      by_cases c1 : j + 1 = i
      · have : ¬ w.category = 2 := fun q => h2 ⟨c1, q⟩
        simp [e2, e3, this]
      · simp [e2, e3, c1]
theorem qx_L.entry {sd : UInt32 → Nat} {ad : Nat → Nat} {as : List Value} {n : Nat} (h : (qx_ls0 as).length ≤ n) : qx_L sd ad ((lg_sl (as.map (qx_v sd ad)) ++ List.replicate (n - (lg_sl (as.map (qx_v sd ad))).length) Slot.unset).toArray) n (qx_ls n as) := by
  have len : ∀ as : List Value, (lg_sl (as.map (qx_v sd ad))).length = (qx_ls0 as).length := by
    intro as
    induction as with
    | nil => rfl
    | cons v vs ih =>
      simp only [lg_sl, List.map_cons, List.flatMap_cons, List.length_append, qx_ls0, qx_cat] at ih ⊢
      rw [ih]
      by_cases c : v.category = 2 <;> simp [c] <;> omega
  have he := lv_entry (as.map (qx_v sd ad)) (n := n) (by rw [len]; exact h)
  refine ⟨he.1, ?_, he.2.1, fun i v hi => ?_⟩
  · simp only [qx_ls, List.length_append, List.length_replicate]
    omega
  · have key : ∀ (as : List Value) (i : Nat) (v : Value), (qx_ls0 as)[i]? = some (some v) → (lg_sl (as.map (qx_v sd ad)))[i]? = some (.val (qx_v sd ad v)) := by
      intro as
      induction as with
      | nil => intro i v h; simp [qx_ls0] at h
      | cons w ws ih =>
        intro i v h
        simp only [lg_sl, List.map_cons, List.flatMap_cons, qx_ls0, qx_cat] at h ⊢
        by_cases c : w.category = 2
        · simp only [c, if_true] at h ⊢
          match i, h with
          | 0, h => simp at h; subst h; rfl
          | 1, h => simp at h
          | i + 2, h => exact ih i v (by simpa using h)
        · simp only [c, if_false] at h ⊢
          match i, h with
          | 0, h => simp at h; subst h; rfl
          | i + 1, h => exact ih i v (by simpa using h)
    have hl : i < (qx_ls0 as).length := by
      rcases Nat.lt_or_ge i (qx_ls0 as).length with q | q
      · exact q
      · simp only [qx_ls, List.getElem?_append_right q, List.getElem?_replicate] at hi
        split at hi <;> simp at hi
    simp only [qx_ls, List.getElem?_append_left hl] at hi
    have h1 := key as i v hi
    rw [List.getElem?_toArray, List.getElem?_append_left (by rw [len]; exact hl)]
    exact h1
