/-! FRAMES: what a configuration's run is on the machine -/
section QX
variable (cl : List vw_C) (shC vC vN vD : String) (st : UInt32 → Option (Nat × (Nat → Int32))) (ALL : List Cond) (mi : Nat → MethodName × ByteArray × Nat × Option FieldType)
def qx_W (D : va_G) (sd : UInt32 → Nat) (ad : Nat → Nat) (cs : Nat → ClassId) (H : qx_H) (A : Nat → Prop) (s : State) (HH : Heap) : Prop :=
  va_P D cl (qx_ws sd ad cs H) HH ∧ va_D A (qx_ws sd ad cs H) ∧ ∀ (i : Nat) (c : qx_C) (ty : FieldType), H[i]? = some c → qx_ty shC c = some ty → ArrOfT s (cs i) ty ∧ va_RA s (cs i) ty
def qx_KC (D : va_G) (s : State) : Prop := ∀ (c : Nat) (q : vw_C), cl[c]? = some q → u_Kn s q.1 q.2.1 q.2.2 (D.1 c) (D.2 c)
def qx_SF (sd : UInt32 → Nat) (A : Nat → Prop) (s : State) (HH : Heap) : Prop :=
  (∀ (w n : _) (f : Nat → Int32), st w = some (n, f) → va_T .int (sd w) n (fun i => .int (f i)) A s HH) ∧ va_Z vC vN vD (.ref (sd 0)) A s HH
def qx_Pre (D : va_G) (sd : UInt32 → Nat) (ad : Nat → Nat) (cs : Nat → ClassId) (as : List Value) (H : qx_H) (sz : Nat) : Array Value → State → Prop :=
  va_Pc (as.map (qx_v sd ad)) (fun U => U.heap.size = sz ∧ qx_W cl shC D sd ad cs H (fun _ => True) U U.heap ∧ qx_KC cl D U ∧ qx_SF vC vN vD st sd (va_A (qx_ws sd ad cs H) sz) U U.heap)
def qx_Post (D : va_G) (sd : UInt32 → Nat) (ad : Nat → Nat) (cs : Nat → ClassId) (H : qx_H) (sz : Nat) (v : Option Value) (H' : qx_H) : Array Value → State → Outcome → State → Prop := fun _ st0 o t =>
  (∃ (ad' : Nat → Nat) (cs' : Nat → ClassId), (∀ i, i < H.length → ad' i = ad i ∧ cs' i = cs i) ∧ (H'.length = H.length → ad' = ad ∧ cs' = cs) ∧ o = .returned (v.map (qx_v sd ad')) ∧ qx_W cl shC D sd ad' cs' H' (va_A (qx_ws sd ad cs H) sz) t t.heap) ∧ va_F (va_A (qx_ws sd ad cs H) sz) st0 t
def qx_w1 (q : MethodName × ByteArray × Nat × Option FieldType) : List Cond := .code q.1 q.2.1 q.2.2.1 q.2.2.2 :: ALL
def qx_rm (d mc ms : Nat) : Room := { frames := d, cells := mc, slots := ms, locals := 40 * d }
def qx_Ok (C : qx_K) (d : Nat) : Prop := ∀ (k : Nat) (as : List Value) (H : qx_H) (v : Option Value) (H' : qx_H), C k as H v H' → (H.length ≤ H'.length ∧ qx_wt H ≤ qx_wt H') ∧
  ∀ (l : Launch) (D : va_G) (sd : UInt32 → Nat) (ad : Nat → Nat) (cs : Nat → ClassId) (sz : Nat), Met l (mi k).1 (qx_w1 ALL (mi k)) (qx_rm d (H'.length - H.length) (qx_wt H' - qx_wt H)) (qx_Pre cl shC vC vN vD st D sd ad cs as H sz) (qx_Post cl shC D sd ad cs H sz v H') (H'.length - H.length) (qx_wt H' - qx_wt H) (va_A (qx_ws sd ad cs H) sz)
/-- a frame: its method, its words, its room -/
def qx_F (own : String) (isI : Bool) (cc : ByteArray) (nL d : Nat) (Ts : List Cond) (D : va_G) (sd : UInt32 → Nat) (A : Nat → Prop) (p : Program) (R : Room) (s : State) (m : MethodId) (args : Array Value) (meth : Method) (c : Code) (n0 w0 n1 w1 : Nat) : Prop :=
  CallFix p m c cc nL s args Ts own ∧ (∀ w ∈ ALL, w ∈ Ts) ∧ qx_KC cl D s ∧ qx_SF vC vN vD st sd A s s.heap ∧ (isI = true → meth.name = "<init>") ∧ d + 1 ≤ R.frames ∧ 40 * (d + 1) ≤ R.locals ∧ n1 - n0 ≤ R.cells ∧ w1 - w0 ≤ R.slots ∧ ∀ q, s.heap.size ≤ q → A q
def qx_I (D : va_G) (sd : UInt32 → Nat) (A : Nat → Prop) (s : State) (n0 w0 : Nat) (ad0 : Nat → Nat) (cs0 : Nat → ClassId) (H : qx_H) (ad : Nat → Nat) (cs : Nat → ClassId) (HH : Heap) (locs : List Loc) : Prop :=
  (n0 ≤ H.length ∧ w0 ≤ qx_wt H ∧ (∀ i, i < n0 → ad i = ad0 i ∧ cs i = cs0 i) ∧ (H.length = n0 → ad = ad0 ∧ cs = cs0)) ∧ qx_W cl shC D sd ad cs H A s HH ∧ va_S A s.heap HH locs
def qx_P (D : va_G) (sd : UInt32 → Nat) (A : Nat → Prop) (p : Program) (l : Launch) (e : Env) (R : Room) (s : State) (m : MethodId) (args : Array Value) (below : List Frame) (meth : Method) (c : Code) (nL n0 w0 n1 w1 : Nat) (ad0 : Nat → Nat) (cs0 : Nat → ClassId) (Q : State → Prop) (σ : qx_S) : Prop :=
  (σ.2.2.2.length ≤ n1 ∧ qx_wt σ.2.2.2 ≤ w1) ∧ ∀ (ad : Nat → Nat) (cs : Nat → ClassId) (HH : Heap) (locs : List Loc) (arr : Array Slot), qx_I cl shC D sd A s n0 w0 ad0 cs0 σ.2.2.2 ad cs HH locs → qx_L sd ad arr nL σ.2.1 →
    W p l e R s m args below meth c HH locs (σ.2.2.2.length - n0) (qx_wt σ.2.2.2 - w0) Q (F0 m σ.1 arr (σ.2.2.1.map (qx_v sd ad)))
def qx_isRet (cc : ByteArray) (rt : Option FieldType) (sd : UInt32 → Nat) (ad : Nat → Nat) (pc : Nat) (v : Option Value) (stk : List Value) : Prop := match v with
  | some x => stk = [qx_v sd ad x] ∧ ((decode cc pc = .ok (.ireturn, 1) ∧ ∃ i ty, x = .int i ∧ rt = some ty ∧ narrow ty (.int i) = .int i) ∨ (decode cc pc = .ok (.lreturn, 1) ∧ ∃ i, x = .long i ∧ rt = some .long) ∨ (decode cc pc = .ok (.areturn, 1) ∧ ∃ a C, x = .ref a ∧ rt = some (.object C)))
  | none => stk = [] ∧ decode cc pc = .ok (.return_, 1) ∧ rt = none
def qx_Rt (cc : ByteArray) (rt : Option FieldType) (D : va_G) (sd : UInt32 → Nat) (A : Nat → Prop) (p : Program) (l : Launch) (e : Env) (R : Room) (s : State) (m : MethodId) (args : Array Value) (below : List Frame) (meth : Method) (c : Code) (n0 w0 : Nat) (ad0 : Nat → Nat) (cs0 : Nat → ClassId) (Q : State → Prop) (ρ : Option Value → qx_H → Prop) : Prop :=
  ∀ (v : Option Value) (H' : qx_H), ρ v H' → ∀ (ad : Nat → Nat) (cs : Nat → ClassId) (HH : Heap) (locs : List Loc) (arr : Array Slot) (pc : Nat) (stk : List Value), qx_I cl shC D sd A s n0 w0 ad0 cs0 H' ad cs HH locs → qx_isRet cc rt sd ad pc v stk →
    W p l e R s m args below meth c HH locs (H'.length - n0) (qx_wt H' - w0) Q (F0 m pc arr stk)
/-- an operation is sound for the instruction at a place of a method's code -/
def qx_Sw (own : String) (isI : Bool) (cc : ByteArray) (nL : Nat) (rt : Option FieldType) (pc : Nat) (op : qx_O) : Prop :=
  ∀ (C : qx_K) (d : Nat) (Ts : List Cond) (D : va_G) (sd : UInt32 → Nat) (A : Nat → Prop) (p : Program) (l : Launch) (e : Env) (R : Room) (s : State) (m : MethodId) (args : Array Value) (below : List Frame) (meth : Method) (c : Code) (n0 w0 n1 w1 : Nat) (ad0 : Nat → Nat) (cs0 : Nat → ClassId) (Q : State → Prop),
    qx_Ok cl shC vC vN vD st ALL mi C d → qx_F cl vC vN vD st ALL own isI cc nL d Ts D sd A p R s m args meth c n0 w0 n1 w1 →
    ∀ (ρ : Option Value → qx_H → Prop) (ls : List (Option Value)) (stk : List Value) (H : qx_H), qx_Rt cl shC cc rt D sd A p l e R s m args below meth c n0 w0 ad0 cs0 Q ρ →
    qx_app C ρ (qx_P cl shC D sd A p l e R s m args below meth c nL n0 w0 n1 w1 ad0 cs0 Q) (op (pc, ls, stk, H)) →
    ∀ (ad : Nat → Nat) (cs : Nat → ClassId) (HH : Heap) (locs : List Loc) (arr : Array Slot), qx_I cl shC D sd A s n0 w0 ad0 cs0 H ad cs HH locs → qx_L sd ad arr nL ls →
      W p l e R s m args below meth c HH locs (H.length - n0) (qx_wt H - w0) Q (F0 m pc arr (stk.map (qx_v sd ad)))
end QX
/-- an operation never makes the heap smaller -/
def qx_mn (H : qx_H) : Option qx_R → Prop
  | none => True
  | some (.inl σ) => H.length ≤ σ.2.2.2.length ∧ qx_wt H ≤ qx_wt σ.2.2.2
  | some (.inr (.inl (_, H'))) => H' = H
  | some (.inr (.inr (_, _, H0, ct))) => H0 = H ∧ ∀ v H' σ', ct v H' = some σ' → σ'.2.2.2 = H'
def qx_Mn (op : qx_O) : Prop := ∀ (pc : Nat) (ls : List (Option Value)) (stk : List Value) (H : qx_H), qx_mn H (op (pc, ls, stk, H))
theorem qx_mn_same {H : qx_H} {pc : Nat} {ls : List (Option Value)} {stk : List Value} : qx_mn H (some (.inl (pc, ls, stk, H))) := ⟨Nat.le_refl _, Nat.le_refl _⟩
theorem qx_mn_set {H : qx_H} {pc i : Nat} {ls : List (Option Value)} {stk : List Value} {c c0 : qx_C} (h : H[i]? = some c0) (hs : qx_sz c = qx_sz c0) : qx_mn H (some (.inl (pc, ls, stk, H.set i c))) :=
  ⟨Nat.le_of_eq (by simp), Nat.le_of_eq (qx_wt_set h hs).symm⟩
theorem qx_mn_push {H : qx_H} {pc : Nat} {ls : List (Option Value)} {stk : List Value} {c : qx_C} : qx_mn H (some (.inl (pc, ls, stk, H ++ [c]))) :=
  ⟨by simp, by rw [qx_wt_push]; omega⟩
theorem hp_put_set {H H' : qx_H} {o ci k : Nat} {v : Value} (h : hp_put H o ci k v = some H') : ∃ fs, H[o]? = some (.inr (ci, fs)) ∧ k < fs.length ∧ H' = H.set o (.inr (ci, fs.set k v)) := by
  unfold hp_put at h
  split at h
  · rename_i c fs heq
    split at h
    · rename_i q
      obtain ⟨rfl, q2⟩ := q
      exact ⟨fs, heq, q2, (Option.some.inj h).symm⟩
    · cases h
  · cases h
theorem hp_ast_set {H H' : qx_H} {a : Nat} {i x : Int32} (h : hp_ast H a i x = some H') : ∃ n f, H[a]? = some (.inl (n, .inl f)) ∧ vp_in i n ∧ H' = H.set a (.inl (n, .inl (upd f i.toNatClampNeg x))) := by
  unfold hp_ast at h
  split at h
  · rename_i n f heq
    split at h
    · cases h
    · rename_i q
      exact ⟨n, f, heq, q, (Option.some.inj h).symm⟩
  · cases h
theorem hp_rast_set {H H' : qx_H} {a ci v : Nat} {i : Int32} (h : hp_rast H a i ci v = some H') : ∃ n f fs, H[a]? = some (.inl (n, .inr (.inr (.inr (.inr f))))) ∧ H[v]? = some (.inr (ci, fs)) ∧ vp_in i n ∧ H' = H.set a (.inl (n, .inr (.inr (.inr (.inr (va_up f i.toNatClampNeg (some v))))))) := by
  unfold hp_rast at h
  split at h
  · rename_i n f c fs heq heq2
    split at h
    · cases h
    · rename_i q
      have q1 : vp_in i n := fun z => q (z.elim Or.inl (fun z => Or.inr (Or.inl z)))
      have q2 : c = ci := Classical.byContradiction fun z => q (Or.inr (Or.inr z))
      subst q2
      exact ⟨n, f, fs, heq, heq2, q1, (Option.some.inj h).symm⟩
  · cases h
theorem hp_cpy_set {H H' : qx_H} {a b : Nat} {i j n : Int32} (h : hp_cpy H a i b j n = some H') : ∃ n0 n1 f g, H[a]? = some (.inl (n0, .inl f)) ∧ H[b]? = some (.inl (n1, .inl g)) ∧ ¬ i < 0 ∧ ¬ j < 0 ∧ ¬ n < 0 ∧ i.toNatClampNeg + n.toNatClampNeg ≤ n0 ∧ j.toNatClampNeg + n.toNatClampNeg ≤ n1 ∧ H' = H.set b (.inl (n1, .inl (va_cpy f g i.toNatClampNeg j.toNatClampNeg n.toNatClampNeg))) := by
  unfold hp_cpy at h
  split at h
  · rename_i n0 f n1 g heq heq2
    split at h
    · cases h
    · rename_i q
      simp only [not_or, Nat.not_lt] at q
      obtain ⟨q1, q2, q3, q4, q5⟩ := q
      exact ⟨n0, n1, f, g, heq, heq2, q1, q2, q3, q4, q5, (Option.some.inj h).symm⟩
  · cases h
theorem hp_ald_get {H : qx_H} {a : Nat} {i x : Int32} (h : hp_ald H a i = some x) : ∃ n f, H[a]? = some (.inl (n, .inl f)) ∧ vp_in i n ∧ x = f i.toNatClampNeg := by
  unfold hp_ald at h
  split at h
  · rename_i n f heq
    split at h
    · cases h
    · rename_i q
      exact ⟨n, f, heq, q, (Option.some.inj h).symm⟩
  · cases h
theorem hp_ra_get {H : qx_H} {a x : Nat} {i : Int32} (h : hp_ra H a i = some x) : ∃ n f, H[a]? = some (.inl (n, .inr (.inr (.inr (.inr f))))) ∧ vp_in i n ∧ f i.toNatClampNeg = some x := by
  unfold hp_ra at h
  split at h
  · rename_i n f heq
    split at h
    · cases h
    · rename_i q
      exact ⟨n, f, heq, q, h⟩
  · cases h
theorem hp_len_get {H : qx_H} {a : Nat} {x : Int32} (h : hp_len H a = some x) : ∃ n f, H[a]? = some (.inl (n, .inl f)) ∧ x = Int32.ofNat n := by
  unfold hp_len at h
  split at h
  · rename_i n f heq
    exact ⟨n, f, heq, (Option.some.inj h).symm⟩
  · cases h
theorem hp_get_get {H : qx_H} {o ci k : Nat} {v : Value} (h : hp_get H o ci k = some v) : ∃ fs, H[o]? = some (.inr (ci, fs)) ∧ fs[k]? = some v := by
  unfold hp_get at h
  split at h
  · rename_i c fs heq
    split at h
    · rename_i q
      subst q
      exact ⟨fs, heq, h⟩
    · cases h
  · cases h
theorem qx_mn_put {H : qx_H} {pc ci k : Nat} {ls : List (Option Value)} {v : Value} {o : Nat} {r : List Value} : qx_mn H (qx_put ci k (pc, ls, v :: .ref o :: r, H)) := by
  show qx_mn H (match hp_put H o ci k v with | some H' => some (.inl (pc + 3, ls, r, H')) | none => none)
  split
  · rename_i H' h
    obtain ⟨fs, h1, h2, rfl⟩ := hp_put_set h
    exact qx_mn_set h1 (by simp [qx_sz])
  · trivial
theorem qm_iload {n : Nat} {i : Nat} : qx_Mn (qx_iload n i) := by
  intro pc ls stk H
  unfold qx_iload
  dsimp only
  repeat' split
  all_goals first | trivial | exact qx_mn_same
theorem qm_lload {n : Nat} {i : Nat} : qx_Mn (qx_lload n i) := by
  intro pc ls stk H
  unfold qx_lload
  dsimp only
  repeat' split
  all_goals first | trivial | exact qx_mn_same
theorem qm_aload {n : Nat} {i : Nat} : qx_Mn (qx_aload n i) := by
  intro pc ls stk H
  unfold qx_aload
  dsimp only
  repeat' split
  all_goals first | trivial | exact qx_mn_same
theorem qm_istore {n : Nat} {i : Nat} : qx_Mn (qx_istore n i) := by
  intro pc ls stk H
  unfold qx_istore
  dsimp only
  repeat' split
  all_goals first | trivial | exact qx_mn_same
theorem qm_astore {n : Nat} {i : Nat} : qx_Mn (qx_astore n i) := by
  intro pc ls stk H
  unfold qx_astore
  dsimp only
  repeat' split
  all_goals first | trivial | exact qx_mn_same
theorem qm_lstore {n : Nat} {i : Nat} : qx_Mn (qx_lstore n i) := by
  intro pc ls stk H
  unfold qx_lstore
  dsimp only
  repeat' split
  all_goals first | trivial | exact qx_mn_same
theorem qm_iinc {i : Nat} {v : Int32} : qx_Mn (qx_iinc i v) := by
  intro pc ls stk H
  unfold qx_iinc
  dsimp only
  repeat' split
  all_goals first | trivial | exact qx_mn_same
theorem qm_bin {f : Int32 → Int32 → Int32} : qx_Mn (qx_bin f) := by
  intro pc ls stk H
  unfold qx_bin
  dsimp only
  repeat' split
  all_goals first | trivial | exact qx_mn_same
theorem qm_bin3 {f : Int32 → Int32 → Int32} : qx_Mn (qx_bin3 f) := by
  intro pc ls stk H
  unfold qx_bin3
  dsimp only
  repeat' split
  all_goals first | trivial | exact qx_mn_same
theorem qm_neg : qx_Mn (qx_neg) := by
  intro pc ls stk H
  unfold qx_neg
  dsimp only
  repeat' split
  all_goals first | trivial | exact qx_mn_same
theorem qm_div {f : Int32 → Int32 → Int32} : qx_Mn (qx_div f) := by
  intro pc ls stk H
  unfold qx_div
  dsimp only
  repeat' split
  all_goals first | trivial | exact qx_mn_same
theorem qm_i2l : qx_Mn (qx_i2l) := by
  intro pc ls stk H
  unfold qx_i2l
  dsimp only
  repeat' split
  all_goals first | trivial | exact qx_mn_same
theorem qm_l2i : qx_Mn (qx_l2i) := by
  intro pc ls stk H
  unfold qx_l2i
  dsimp only
  repeat' split
  all_goals first | trivial | exact qx_mn_same
theorem qm_lbin {g : Int64 → Int64 → Int64} : qx_Mn (qx_lbin g) := by
  intro pc ls stk H
  unfold qx_lbin
  dsimp only
  repeat' split
  all_goals first | trivial | exact qx_mn_same
theorem qm_lsh {h : Int64 → Int32 → Int64} : qx_Mn (qx_lsh h) := by
  intro pc ls stk H
  unfold qx_lsh
  dsimp only
  repeat' split
  all_goals first | trivial | exact qx_mn_same
theorem qm_lcmp : qx_Mn (qx_lcmp) := by
  intro pc ls stk H
  unfold qx_lcmp
  dsimp only
  repeat' split
  all_goals first | trivial | exact qx_mn_same
theorem qm_dup : qx_Mn (qx_dup) := by
  intro pc ls stk H
  unfold qx_dup
  dsimp only
  repeat' split
  all_goals first | trivial | exact qx_mn_same
theorem qm_dup2 : qx_Mn (qx_dup2) := by
  intro pc ls stk H
  unfold qx_dup2
  dsimp only
  repeat' split
  all_goals first | trivial | exact qx_mn_same
theorem qm_sw {n : Nat} {tb : List (Int32 × Nat)} : qx_Mn (qx_sw n tb) := by
  intro pc ls stk H
  unfold qx_sw
  dsimp only
  repeat' split
  all_goals first | trivial | exact qx_mn_same
theorem qm_get {n : Nat} {i : Nat} : qx_Mn (qx_get n i) := by
  intro pc ls stk H
  unfold qx_get
  dsimp only
  repeat' split
  all_goals first | trivial | exact qx_mn_same
theorem qm_iald {st : UInt32 → Option (Nat × (Nat → Int32))} : qx_Mn (qx_iald st) := by
  intro pc ls stk H
  unfold qx_iald
  dsimp only
  repeat' split
  all_goals first | trivial | exact qx_mn_same
theorem qm_alen {st : UInt32 → Option (Nat × (Nat → Int32))} : qx_Mn (qx_alen st) := by
  intro pc ls stk H
  unfold qx_alen
  dsimp only
  repeat' split
  all_goals first | trivial | exact qx_mn_same
theorem qm_aald : qx_Mn (qx_aald) := by
  intro pc ls stk H
  unfold qx_aald
  dsimp only
  repeat' split
  all_goals first | trivial | exact qx_mn_same
theorem qm_oinit : qx_Mn (qx_oinit) := by
  intro pc ls stk H
  unfold qx_oinit
  dsimp only
  repeat' split
  all_goals first | trivial | exact qx_mn_same
theorem qm_no : qx_Mn qx_no := fun _ _ _ _ => trivial
theorem qm_push {n : Nat} {v : Value} : qx_Mn (qx_push n v) := fun _ _ _ _ => qx_mn_same
theorem qm_goto {n : Nat} : qx_Mn (qx_goto n) := fun _ _ _ _ => qx_mn_same
theorem qm_gst : qx_Mn qx_gst := fun _ _ _ _ => qx_mn_same
theorem qm_if_eq {n : Nat} : qx_Mn (qx_if_eq n) := by
  intro pc ls stk H
  unfold qx_if_eq
  dsimp only
  split
  · refine ⟨?_, ?_⟩ <;> (split <;> exact Nat.le_refl _)
  · trivial
theorem qm_ic_eq {n : Nat} : qx_Mn (qx_ic_eq n) := by
  intro pc ls stk H
  unfold qx_ic_eq
  dsimp only
  split
  · refine ⟨?_, ?_⟩ <;> (split <;> exact Nat.le_refl _)
  · trivial
theorem qm_if_ne {n : Nat} : qx_Mn (qx_if_ne n) := by
  intro pc ls stk H
  unfold qx_if_ne
  dsimp only
  split
  · refine ⟨?_, ?_⟩ <;> (split <;> exact Nat.le_refl _)
  · trivial
theorem qm_ic_ne {n : Nat} : qx_Mn (qx_ic_ne n) := by
  intro pc ls stk H
  unfold qx_ic_ne
  dsimp only
  split
  · refine ⟨?_, ?_⟩ <;> (split <;> exact Nat.le_refl _)
  · trivial
theorem qm_if_lt {n : Nat} : qx_Mn (qx_if_lt n) := by
  intro pc ls stk H
  unfold qx_if_lt
  dsimp only
  split
  · refine ⟨?_, ?_⟩ <;> (split <;> exact Nat.le_refl _)
  · trivial
theorem qm_ic_lt {n : Nat} : qx_Mn (qx_ic_lt n) := by
  intro pc ls stk H
  unfold qx_ic_lt
  dsimp only
  split
  · refine ⟨?_, ?_⟩ <;> (split <;> exact Nat.le_refl _)
  · trivial
theorem qm_if_ge {n : Nat} : qx_Mn (qx_if_ge n) := by
  intro pc ls stk H
  unfold qx_if_ge
  dsimp only
  split
  · refine ⟨?_, ?_⟩ <;> (split <;> exact Nat.le_refl _)
  · trivial
theorem qm_ic_ge {n : Nat} : qx_Mn (qx_ic_ge n) := by
  intro pc ls stk H
  unfold qx_ic_ge
  dsimp only
  split
  · refine ⟨?_, ?_⟩ <;> (split <;> exact Nat.le_refl _)
  · trivial
theorem qm_if_gt {n : Nat} : qx_Mn (qx_if_gt n) := by
  intro pc ls stk H
  unfold qx_if_gt
  dsimp only
  split
  · refine ⟨?_, ?_⟩ <;> (split <;> exact Nat.le_refl _)
  · trivial
theorem qm_ic_gt {n : Nat} : qx_Mn (qx_ic_gt n) := by
  intro pc ls stk H
  unfold qx_ic_gt
  dsimp only
  split
  · refine ⟨?_, ?_⟩ <;> (split <;> exact Nat.le_refl _)
  · trivial
theorem qm_if_le {n : Nat} : qx_Mn (qx_if_le n) := by
  intro pc ls stk H
  unfold qx_if_le
  dsimp only
  split
  · refine ⟨?_, ?_⟩ <;> (split <;> exact Nat.le_refl _)
  · trivial
theorem qm_ic_le {n : Nat} : qx_Mn (qx_ic_le n) := by
  intro pc ls stk H
  unfold qx_ic_le
  dsimp only
  split
  · refine ⟨?_, ?_⟩ <;> (split <;> exact Nat.le_refl _)
  · trivial
theorem qm_reti : qx_Mn qx_reti := by
  intro pc ls stk H
  unfold qx_reti
  dsimp only
  repeat' split
  all_goals first | trivial | rfl
theorem qm_retz : qx_Mn qx_retz := by
  intro pc ls stk H
  unfold qx_retz
  dsimp only
  repeat' split
  all_goals first | trivial | rfl
theorem qm_retl : qx_Mn qx_retl := by
  intro pc ls stk H
  unfold qx_retl
  dsimp only
  repeat' split
  all_goals first | trivial | rfl
theorem qm_reta : qx_Mn qx_reta := by
  intro pc ls stk H
  unfold qx_reta
  dsimp only
  repeat' split
  all_goals first | trivial | rfl
theorem qm_ret0 : qx_Mn qx_ret0 := by
  intro pc ls stk H
  unfold qx_ret0
  dsimp only
  repeat' split
  all_goals first | trivial | rfl
theorem qm_putI {ci k : Nat} : qx_Mn (qx_putI ci k) := by
  intro pc ls stk H
  unfold qx_putI
  dsimp only
  repeat' split
  all_goals first | trivial | exact qx_mn_put
theorem qm_putR {ci k : Nat} : qx_Mn (qx_putR ci k) := by
  intro pc ls stk H
  unfold qx_putR
  dsimp only
  repeat' split
  all_goals first | trivial | exact qx_mn_put
theorem qm_putZ {ci k : Nat} : qx_Mn (qx_putZ ci k) := by
  intro pc ls stk H
  unfold qx_putZ
  dsimp only
  repeat' split
  all_goals first | trivial | exact qx_mn_put
theorem qm_iast : qx_Mn qx_iast := by
  intro pc ls stk H
  unfold qx_iast
  dsimp only
  split
  · split
    · rename_i h
      obtain ⟨n, f, h1, h2, rfl⟩ := hp_ast_set h
      exact qx_mn_set h1 rfl
    · trivial
  · trivial
theorem qm_aast {ci : Nat} : qx_Mn (qx_aast ci) := by
  intro pc ls stk H
  unfold qx_aast
  dsimp only
  split
  · split
    · rename_i h
      obtain ⟨n, f, fs, h1, h2, h3, rfl⟩ := hp_rast_set h
      exact qx_mn_set h1 rfl
    · trivial
  · trivial
theorem qm_cpy : qx_Mn qx_cpy := by
  intro pc ls stk H
  unfold qx_cpy
  dsimp only
  split
  · split
    · split
      · rename_i h
        obtain ⟨n0, n1, f, g, h1, h2, h3, h4, h5, h6, h7, rfl⟩ := hp_cpy_set h
        exact qx_mn_set h2 rfl
      · trivial
    · trivial
  · trivial
theorem qm_newa : qx_Mn qx_newa := by
  intro pc ls stk H
  unfold qx_newa
  dsimp only
  repeat' split
  all_goals first | trivial | exact qx_mn_push
theorem qm_newq : qx_Mn qx_newq := by
  intro pc ls stk H
  unfold qx_newq
  dsimp only
  repeat' split
  all_goals first | trivial | exact qx_mn_push
theorem qm_new {ci : Nat} {fs : List Value} : qx_Mn (qx_new ci fs) := by
  intro pc ls stk H
  unfold qx_new
  dsimp only
  split
  · exact qx_mn_push
  · trivial
theorem qm_call {k n : Nat} : qx_Mn (qx_call k n) := by
  intro pc ls stk H
  unfold qx_call
  dsimp only
  split
  · refine ⟨rfl, fun v H1 σ h => ?_⟩
    unfold qx_ct at h
    split at h
    · cases h; rfl
    · split at h
      · cases h; rfl
      · cases h
  · trivial
/-- a run's heap never gets smaller -/
theorem qx_V_mono {C : qx_K} {cd : List qx_O} {n1 w1 : Nat} {R : Option Value → qx_H → Prop} (hC : ∀ k as H v H', C k as H v H' → H.length ≤ H'.length ∧ qx_wt H ≤ qx_wt H') (hR : ∀ v H, R v H → H.length ≤ n1 ∧ qx_wt H ≤ w1) (hM : ∀ op ∈ cd, qx_Mn op) {σ : qx_S} (h : qx_V C R cd σ) : σ.2.2.2.length ≤ n1 ∧ qx_wt σ.2.2.2 ≤ w1 := by
  refine h (fun σ => σ.2.2.2.length ≤ n1 ∧ qx_wt σ.2.2.2 ≤ w1) ?_
  intro σ h
  obtain ⟨pc, ls, stk, H⟩ := σ
  unfold qx_step at h
  split at h
  · rename_i f hf
    have hm := hM f (List.mem_of_getElem? hf) pc ls stk H
    cases hr : f (pc, ls, stk, H) with
    | none => rw [hr] at h; exact h.elim
    | some r =>
      rw [hr] at h hm
      match r, h, hm with
      | .inl σ', h, hm => exact ⟨Nat.le_trans hm.1 h.1, Nat.le_trans hm.2 h.2⟩
      | .inr (.inl (v, H')), h, hm =>
        have hm : H' = H := hm
        subst hm
        exact hR v H' h
      | .inr (.inr (k, as, H0, ct)), h, hm =>
        obtain ⟨v, H1, σ1, a, b, d⟩ := h
        obtain ⟨e1, e2⟩ := (show H0 = H ∧ ∀ v H' σ', ct v H' = some σ' → σ'.2.2.2 = H' from hm)
        subst e1
        have := e2 v H1 σ1 b
        have h2 := hC _ _ _ _ _ a
        rw [this] at d
        exact ⟨Nat.le_trans h2.1 d.1, Nat.le_trans h2.2 d.2⟩
  · exact h.elim
