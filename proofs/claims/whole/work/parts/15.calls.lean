/-! CALLS -/
section QC
variable {cl : List vw_C} {shC vC vN vD : String} {st : UInt32 → Option (Nat × (Nat → Int32))} {ALL : List Cond} {mi : Nat → MethodName × ByteArray × Nat × Option FieldType} {own : String} {isI : Bool} {cc : ByteArray} {nL : Nat} {rt : Option FieldType} {pc : Nat}
/-- a call of a method on an object of a class: the class is looked at -/
def hp_is (H : qx_H) (o ci : Nat) : Bool := match H[o]? with
  | some (.inr (c, _)) => Nat.beq c ci
  | _ => false
def qx_callV (k n ci : Nat) : qx_O := fun (pc, ls, stk, H) => match (stk.drop (n - 1)) with
  | .ref o :: _ => if hp_is H o ci = true then qx_call k n (pc, ls, stk, H) else none
  | _ => none
theorem qm_callV {k n ci : Nat} : qx_Mn (qx_callV k n ci) := by
  intro pc ls stk H
  unfold qx_callV
  dsimp only
  split
  · split
    · exact qm_call pc ls stk H
    · trivial
  · trivial
/-- words that stay true in every state that a start warms up to -/
def qx_okw : Cond → Bool
  | .fieldLinkNest _ _ _ _ _ _ => true
  | .methodLinkNest _ _ _ _ => true
  | .arrayOver (.object _) => true
  | w => goodWord w
theorem qx_pay {w : Cond} (hw : qx_okw w = true) {args a' : Array Value} {s U : State} (hW : s.WarmedH U.vm) (h : w.before args s = true) : w.before a' U = true := by
  unfold qx_okw at hw
  split at hw
  · exact va_Nw.use rfl (va_Nw.warmF hW (va_Nw.of rfl h))
  · exact va_Nw.use rfl (va_Nw.warmM hW (va_Nw.of rfl h))
  · exact va_AO.use (va_AO.moved hW.alike (va_AO.of h))
  · exact word_at hW (good_of_word hw) h
theorem qx_callB {R : Room} {s : State} {args : Array Value} {own0 : String} {index : Nat} {q : MethodName × ByteArray × Nat × Option FieldType} {rm : Room} {mc ms : Nat} {Ts : List Cond} (n : Nat) (hg : ∀ w ∈ ALL, qx_okw w = true) (hall : ∀ w ∈ ALL, w ∈ Ts) (v0 : Cond.code q.1 q.2.1 q.2.2.1 q.2.2.2 ∈ ALL) (ht : ∀ w ∈ Ts, w.before args s = true) (hrc : rm.cells = mc) (hrs : rm.slots = ms) (hini : (Cond.initialized q.1.cls).before args s = true) (hl : (Cond.methodLink own0 index q.1).before args s = true)
    (hd : q.1.cls ≠ "java/lang/invoke/MethodHandle" ∧ q.1.cls ≠ "java/lang/invoke/VarHandle" ∧ (parseMethodDescriptor q.1.desc).map (fun d => d.parameters.length) = some n) (hR : rm.frames + 1 ≤ R.frames ∧ 8 + (q.2.2.1 + 11) + rm.locals ≤ R.locals) : CallB R s args own0 index q.1 q.2.1 q.2.2.1 q.2.2.2 (qx_w1 ALL q) rm mc ms n := by
  have hall2 : ∀ w ∈ qx_w1 ALL q, w ∈ ALL := fun w hw => by rcases List.mem_cons.mp hw with rfl | hw; exact v0; exact hw
  refine ⟨hrc, hrs, hR.1, hR.2, fun w hw a' U hW => qx_pay (hg w (hall2 w hw)) hW (ht w (hall w (hall2 w hw))), List.mem_cons_self, ht _ (hall _ v0), hini, ⟨hd.1, hd.2.1⟩, fun sig h => ?_, hl⟩
  have h2 := hd.2.2
  rw [h] at h2
  exact (Option.some.inj h2).symm
theorem qx_cnB {R : Room} {s : State} {args : Array Value} {own0 host : String} {index : Nat} {q : MethodName × ByteArray × Nat × Option FieldType} {rm : Room} {mc ms : Nat} {Ts : List Cond} (n : Nat) (hg : ∀ w ∈ ALL, qx_okw w = true) (hall : ∀ w ∈ ALL, w ∈ Ts) (v0 : Cond.code q.1 q.2.1 q.2.2.1 q.2.2.2 ∈ ALL) (ht : ∀ w ∈ Ts, w.before args s = true) (hrc : rm.cells = mc) (hrs : rm.slots = ms) (hini : (Cond.initialized q.1.cls).before args s = true) (hl : (Cond.methodLinkNest own0 index q.1 host).before args s = true)
    (hd : q.1.cls ≠ "java/lang/invoke/MethodHandle" ∧ q.1.cls ≠ "java/lang/invoke/VarHandle" ∧ (parseMethodDescriptor q.1.desc).map (fun d => d.parameters.length) = some n) (hR : rm.frames + 1 ≤ R.frames ∧ 8 + (q.2.2.1 + 11) + rm.locals ≤ R.locals) : va_CN R s args own0 index q.1 host q.2.1 q.2.2.1 q.2.2.2 (qx_w1 ALL q) rm mc ms n := by
  have hall2 : ∀ w ∈ qx_w1 ALL q, w ∈ ALL := fun w hw => by rcases List.mem_cons.mp hw with rfl | hw; exact v0; exact hw
  refine ⟨⟨hrc, hrs, hR.1, hR.2, fun w hw a' U hW => qx_pay (hg w (hall2 w hw)) hW (ht w (hall w (hall2 w hw))), List.mem_cons_self⟩, ht _ (hall _ v0), hini, ⟨hd.1, hd.2.1⟩, fun sig h => ?_, hl⟩
  have h2 := hd.2.2
  rw [h] at h2
  exact (Option.some.inj h2).symm
theorem qx_A_sub {D : va_G} {sd : UInt32 → Nat} {ad : Nat → Nat} {cs : Nat → ClassId} {H : qx_H} {A : Nat → Prop} {s : State} {HH : Heap} {locs : List Loc} (hW : qx_W cl shC D sd ad cs H A s HH) (hS : va_S A s.heap HH locs) (hA : ∀ q, s.heap.size ≤ q → A q) : ∀ q, va_A (qx_ws sd ad cs H) HH.size q → A q := by
  intro q h
  rcases h with ⟨k, e, h⟩ | h
  · exact hW.2.1.2 k (q, e) h
  · exact hA q (Nat.le_trans hS.1 h)
theorem qx_pre {D : va_G} {sd : UInt32 → Nat} {ad : Nat → Nat} {cs : Nat → ClassId} {as : List Value} {H : qx_H} {A : Nat → Prop} {s : State} {HH : Heap} {locs : List Loc} (hKC : qx_KC cl D s) (hSF : qx_SF vC vN vD st sd A s s.heap) (hW : qx_W cl shC D sd ad cs H A s HH) (hS : va_S A s.heap HH locs) (hA : ∀ q, s.heap.size ≤ q → A q) :
    FrameBlind (qx_Pre cl shC vC vN vD st D sd ad cs as H HH.size) ∧ ∀ U : State, U.heap = HH → s.WarmedH U.vm → qx_Pre cl shC vC vN vD st D sd ad cs as H HH.size (as.map (qx_v sd ad)).toArray U := by
  constructor
  · rintro a U g mk ⟨q0, q1, ⟨qP, qD, qT⟩, qK, qZ⟩
    have hv : U.vm.Alike (U.calling g mk a).vm := Vm.Alike.refl U.vm
    refine ⟨q0, q1, ⟨qP, qD, fun i c ty hi ht => qx_TA.moved (u := U) (U := U.calling g mk a) hv qK (qT i c ty hi ht)⟩, qx_KC.moved (u := U) (U := U.calling g mk a) hv qK, ?_, ?_⟩
    · exact fun w n f hw => va_T.moved (u := U) (U := U.calling g mk a) hv (qZ.1 w n f hw)
    · exact va_Z.moved (u := U) (U := U.calling g mk a) hv qZ.2
  · intro U hU hWm
    have hv := hWm.alike
    have hsub := qx_A_sub hW hS hA
    have hkept : ∀ a : Nat, a < s.heap.size → ¬ A a → U.heap[a]? = s.heap[a]? := fun a h1 h2 => by rw [hU]; exact hS.2.1 a h1 h2
    refine ⟨rfl, by rw [hU], ⟨by rw [hU]; exact hW.1, hW.2.1.weaken (fun _ _ _ _ => trivial), fun i c ty hi ht => qx_TA.moved hv hKC (hW.2.2 i c ty hi ht)⟩, qx_KC.moved hv hKC, ?_, ?_⟩
    · exact fun w n f hw => ((va_T.moved hv (hSF.1 w n f hw)).kept hkept).narrow hsub
    · exact ((va_Z.moved hv hSF.2).kept hkept).narrow hsub
theorem qx_ct_inv {pc n : Nat} {ls : List (Option Value)} {r : List Value} {v : Option Value} {H' : qx_H} {σ : qx_S} (h : qx_ct pc ls r n v H' = some σ) : σ = (pc + 3, ls, v.toList ++ r, H') ∧ (H'.length = n ∨ qx_okl n ls r = true) := by
  unfold qx_ct at h
  split at h
  · rename_i q
    exact ⟨(Option.some.inj h).symm, Or.inl q⟩
  · split at h
    · rename_i q
      exact ⟨(Option.some.inj h).symm, Or.inr q⟩
    · cases h
theorem qx_callW {D : va_G} {sd : UInt32 → Nat} {A : Nat → Prop} {p : Program} {l : Launch} {e : Env} {R : Room} {s : State} {m : MethodId} {args : Array Value} {below : List Frame} {meth : Method} {c1 : Code} {n0 w0 n1 w1 : Nat} {ad0 : Nat → Nat} {cs0 : Nat → ClassId} {Q : State → Prop} {ls : List (Option Value)} {r : List Value} {H H' : qx_H} {v : Option Value} {σ : qx_S} {ad : Nat → Nat} {cs : Nat → ClassId} {HH : Heap} {locs : List Loc} {arr : Array Slot} {g0 : List Value} {av : Array Value}
    (hKC : qx_KC cl D s) (hA : ∀ q, s.heap.size ≤ q → A q) (hm : H.length ≤ H'.length ∧ qx_wt H ≤ qx_wt H')
    (hr : va_Run p l e R s m args below meth c1 HH locs (H.length - n0) (qx_wt H - w0) (H'.length - H.length) (qx_wt H' - qx_wt H) (F0 m pc arr g0) (r.map (qx_v sd ad)) (qx_Post cl shC D sd ad cs H HH.size v H' av) (va_A (qx_ws sd ad cs H) HH.size))
    (hct : qx_ct pc ls r H.length v H' = some σ) (k : qx_P cl shC D sd A p l e R s m args below meth c1 nL n0 w0 n1 w1 ad0 cs0 Q σ) (hI : qx_I cl shC D sd A s n0 w0 ad0 cs0 H ad cs HH locs) (hL : qx_L sd ad arr nL ls) :
    W p l e R s m args below meth c1 HH locs (H.length - n0) (qx_wt H - w0) Q (F0 m pc arr g0) := by
  intro T hT X
  obtain ⟨v', st₀, t, T', L, h0, X', hL', e1, e2, ⟨⟨ad', cs', f1, f2, f3, f4⟩, hF⟩, go⟩ := hr T hT X
  obtain ⟨rfl, hok⟩ := qx_ct_inv hct
  have hsub := qx_A_sub hI.2.1 hI.2.2 hA
  obtain ⟨⟨i1, i2, i3, i4⟩, hW, hS⟩ := hI
  have f3 : v' = v.map (qx_v sd ad') := by
    injection f3
  have hvm : s.vm.Alike T'.vm := X'.warmed.alike
  have hvt : t.vm.Alike s.vm := by rw [← e2]; exact hvm.symm
  have hKt : qx_KC cl D t := qx_KC.moved (by rw [← e2]; exact hvm) hKC
  have hz : HH.size ≤ T'.heap.size := by rw [e1, ← h0]; exact hF.1
  have hk : ∀ q : Nat, q < HH.size → ¬ va_A (qx_ws sd ad cs H) HH.size q → T'.heap[q]? = HH[q]? := fun q a b => by rw [e1, ← h0]; exact hF.2 q (by rw [h0]; exact a) b
  have hS' : va_S A s.heap T'.heap (locs ++ L) := ⟨Nat.le_trans hS.1 hz, fun q h1 h2 => by rw [hk q (Nat.lt_of_lt_of_le h1 hS.1) (fun z => h2 (hsub q z))]; exact hS.2.1 q h1 h2, fun q hq => by
    rcases List.mem_append.mp hq with h | h
    · exact hS.2.2 q h
    · exact hsub _ (hL' q h)⟩
  have hI' : qx_I cl shC D sd A s n0 w0 ad0 cs0 H' ad' cs' T'.heap (locs ++ L) := by
    refine ⟨⟨by omega, by omega, fun i hi => ?_, fun z => ?_⟩, ⟨by rw [e1]; exact f4.1, f4.2.1.weaken (fun _ q _ h => hsub q.1 h), fun i c ty hi ht => qx_TA.moved hvt hKt (f4.2.2 i c ty hi ht)⟩, hS'⟩
    · have := f1 i (by omega)
      rw [this.1, this.2]
      exact i3 i hi
    · have a1 : H.length = n0 := by omega
      have a2 : H'.length = H.length := by omega
      obtain ⟨b1, b2⟩ := f2 a2
      obtain ⟨b3, b4⟩ := i4 a1
      exact ⟨b1.trans b3, b2.trans b4⟩
  have hLn : qx_L sd ad' arr nL ls ∧ r.map (qx_v sd ad') = r.map (qx_v sd ad) := by
    rcases hok with q | q
    · rw [(f2 q).1]
      exact ⟨hL, rfl⟩
    · simp only [qx_okl, Bool.and_eq_true] at q
      exact ⟨qx_okl_L q.1 (fun i hi => (f1 i hi).1) hL, qx_okl_stk q.2 (fun i hi => (f1 i hi).1)⟩
  have g := k.2 ad' cs' T'.heap (locs ++ L) arr hI' hLn.1
  dsimp only at g
  have c1 : H.length - n0 + (H'.length - H.length) = H'.length - n0 := by omega
  have c2 : qx_wt H - w0 + (qx_wt H' - qx_wt H) = qx_wt H' - w0 := by omega
  rw [c1, c2] at X'
  obtain ⟨t2, a1, b1⟩ := g T' rfl X'
  refine ⟨t2, go t2 ?_, b1⟩
  have c3 : (v.toList ++ r).map (qx_v sd ad') = v'.toList ++ r.map (qx_v sd ad) := by
    rw [List.map_append, hLn.2, f3]
    cases v <;> rfl
  rw [c3] at a1
  exact a1
theorem qx_split {stk : List Value} {n : Nat} {sd : UInt32 → Nat} {ad : Nat → Nat} (h : n ≤ stk.length) : stk.map (qx_v sd ad) = ((stk.take n).reverse.map (qx_v sd ad)).reverse ++ (stk.drop n).map (qx_v sd ad) := by
  rw [List.map_reverse, List.reverse_reverse, ← List.map_append, List.take_append_drop]
/-- behind a receiver: the arguments -/
theorem qx_recv {stk : List Value} {n o : Nat} {r : List Value} (h1 : n ≤ stk.length) (h0 : 0 < n) (h : stk.drop (n - 1) = .ref o :: r) : (stk.take n).reverse = .ref o :: (stk.take (n - 1)).reverse := by
  have e : stk.take n = stk.take (n - 1) ++ [.ref o] := by
    have e1 : stk = stk.take (n - 1) ++ (.ref o :: r) := by rw [← h, List.take_append_drop]
    have e2 : (stk.take (n - 1)).length = n - 1 := by rw [List.length_take]; omega
    have e3 : stk.take n = (stk.take (n - 1) ++ (.ref o :: r)).take n := by rw [← e1]
    rw [e3, List.take_append, e2]
    have : n - (n - 1) = 1 := by omega
    rw [this, List.take_of_length_le (by omega)]
    rfl
  rw [e, List.reverse_append]
  rfl
theorem qs_callS {i k n : Nat} (hd : decode cc pc = .ok (.invokestatic i, 3)) (hg : ∀ w ∈ ALL, qx_okw w = true) (v0 : Cond.code (mi k).1 (mi k).2.1 (mi k).2.2.1 (mi k).2.2.2 ∈ ALL) (v2 : Cond.initialized (mi k).1.cls ∈ ALL) (hmL : (mi k).2.2.1 ≤ 21) (v1 : Cond.methodLink own i (mi k).1 ∈ ALL) (v3 : Cond.static (mi k).1 ∈ ALL) (hds : (mi k).1.cls ≠ "java/lang/invoke/MethodHandle" ∧ (mi k).1.cls ≠ "java/lang/invoke/VarHandle" ∧ (parseMethodDescriptor (mi k).1.desc).map (fun d => d.parameters.length) = some n) : qx_Sw cl shC vC vN vD st ALL mi own isI cc nL rt pc (qx_call k n) := by
  intro C d Ts D sd A p l e R s m args below meth c n0 w0 n1 w1 ad0 cs0 Q hC F ρ ls stk H hρ h ad cs HH locs arr hI hL
  have F0' := F
  obtain ⟨⟨hx, hb, hml, hown, hts⟩, hall, hKC, hSF, hin, hfr, hlo, hnc, hns, hA⟩ := F
  unfold qx_call at h
  dsimp only at h
  split at h
  · rename_i q
    obtain ⟨hn1, hn2⟩ := q
    obtain ⟨v, H', σ, a1, a2, a3⟩ := h
    obtain ⟨hmono, hM⟩ := hC _ _ _ _ _ a1
    have hM := hM l D sd ad cs HH.size
    have b1 := a3.1
    have b2 : σ.2.2.2 = H' := by rw [(qx_ct_inv a2).1]
    rw [b2] at b1
    have hpre := qx_pre (st := st) (vC := vC) (vN := vN) (vD := vD) (as := (stk.take n).reverse) hKC hSF hI.2.1 hI.2.2 hA
    have g := hI.1
    have hrm : (qx_rm d (H'.length - H.length) (qx_wt H' - qx_wt H)).frames + 1 ≤ R.frames ∧ 8 + ((mi k).2.2.1 + 11) + (qx_rm d (H'.length - H.length) (qx_wt H' - qx_wt H)).locals ≤ R.locals := ⟨hfr, by show 8 + ((mi k).2.2.1 + 11) + 40 * d ≤ R.locals; omega⟩
    have hroom : 2 * (F0 m pc arr (stk.map (qx_v sd ad))).monitorRoom + (((stk.drop n).map (qx_v sd ad)).map fun v => v.category).sum ≤ 8 := by
      rw [qx_cats]
      have e2 : ∀ z, (F0 m pc arr z).monitorRoom = 0 := fun _ => rfl
      rw [e2]
      omega
    have hf : H.length - n0 + (H'.length - H.length) ≤ R.cells ∧ qx_wt H - w0 + (qx_wt H' - qx_wt H) ≤ R.slots := ⟨by omega, by omega⟩
    have hlen : ((stk.take n).reverse.map (qx_v sd ad)).length = n := by rw [List.length_map, List.length_reverse, List.length_take]; omega
    have hrun : va_Run p l e R s m args below meth c HH locs (H.length - n0) (qx_wt H - w0) (H'.length - H.length) (qx_wt H' - qx_wt H) (F0 m pc arr (stk.map (qx_v sd ad))) ((stk.drop n).map (qx_v sd ad)) (qx_Post cl shC D sd ad cs H HH.size v H' ((stk.take n).reverse.map (qx_v sd ad)).toArray) (va_A (qx_ws sd ad cs H) HH.size) :=
      va_runS (As := (stk.take n).reverse.map (qx_v sd ad)) ⟨hx, hb, hml, hown, hts⟩ hM (⟨qx_callB n hg hall v0 hts rfl rfl (hts _ (hall _ v2)) (hts _ (hall _ v1)) hds hrm, hts _ (hall _ v3)⟩) hpre rfl hlen (hL.1) (qx_split hn1) hroom hd hf
    exact qx_callW hKC hA hmono hrun a2 a3 hI hL
  · exact h.elim
theorem qs_callSN {i k n : Nat} {host : String} (hd : decode cc pc = .ok (.invokestatic i, 3)) (hg : ∀ w ∈ ALL, qx_okw w = true) (v0 : Cond.code (mi k).1 (mi k).2.1 (mi k).2.2.1 (mi k).2.2.2 ∈ ALL) (v2 : Cond.initialized (mi k).1.cls ∈ ALL) (hmL : (mi k).2.2.1 ≤ 21) (v1 : Cond.methodLinkNest own i (mi k).1 host ∈ ALL) (v3 : Cond.static (mi k).1 ∈ ALL) (hds : (mi k).1.cls ≠ "java/lang/invoke/MethodHandle" ∧ (mi k).1.cls ≠ "java/lang/invoke/VarHandle" ∧ (parseMethodDescriptor (mi k).1.desc).map (fun d => d.parameters.length) = some n) : qx_Sw cl shC vC vN vD st ALL mi own isI cc nL rt pc (qx_call k n) := by
  intro C d Ts D sd A p l e R s m args below meth c n0 w0 n1 w1 ad0 cs0 Q hC F ρ ls stk H hρ h ad cs HH locs arr hI hL
  have F0' := F
  obtain ⟨⟨hx, hb, hml, hown, hts⟩, hall, hKC, hSF, hin, hfr, hlo, hnc, hns, hA⟩ := F
  unfold qx_call at h
  dsimp only at h
  split at h
  · rename_i q
    obtain ⟨hn1, hn2⟩ := q
    obtain ⟨v, H', σ, a1, a2, a3⟩ := h
    obtain ⟨hmono, hM⟩ := hC _ _ _ _ _ a1
    have hM := hM l D sd ad cs HH.size
    have b1 := a3.1
    have b2 : σ.2.2.2 = H' := by rw [(qx_ct_inv a2).1]
    rw [b2] at b1
    have hpre := qx_pre (st := st) (vC := vC) (vN := vN) (vD := vD) (as := (stk.take n).reverse) hKC hSF hI.2.1 hI.2.2 hA
    have g := hI.1
    have hrm : (qx_rm d (H'.length - H.length) (qx_wt H' - qx_wt H)).frames + 1 ≤ R.frames ∧ 8 + ((mi k).2.2.1 + 11) + (qx_rm d (H'.length - H.length) (qx_wt H' - qx_wt H)).locals ≤ R.locals := ⟨hfr, by show 8 + ((mi k).2.2.1 + 11) + 40 * d ≤ R.locals; omega⟩
    have hroom : 2 * (F0 m pc arr (stk.map (qx_v sd ad))).monitorRoom + (((stk.drop n).map (qx_v sd ad)).map fun v => v.category).sum ≤ 8 := by
      rw [qx_cats]
      have e2 : ∀ z, (F0 m pc arr z).monitorRoom = 0 := fun _ => rfl
      rw [e2]
      omega
    have hf : H.length - n0 + (H'.length - H.length) ≤ R.cells ∧ qx_wt H - w0 + (qx_wt H' - qx_wt H) ≤ R.slots := ⟨by omega, by omega⟩
    have hlen : ((stk.take n).reverse.map (qx_v sd ad)).length = n := by rw [List.length_map, List.length_reverse, List.length_take]; omega
    have hrun : va_Run p l e R s m args below meth c HH locs (H.length - n0) (qx_wt H - w0) (H'.length - H.length) (qx_wt H' - qx_wt H) (F0 m pc arr (stk.map (qx_v sd ad))) ((stk.drop n).map (qx_v sd ad)) (qx_Post cl shC D sd ad cs H HH.size v H' ((stk.take n).reverse.map (qx_v sd ad)).toArray) (va_A (qx_ws sd ad cs H) HH.size) :=
      va_runSN (As := (stk.take n).reverse.map (qx_v sd ad)) ⟨hx, hb, hml, hown, hts⟩ hM (⟨qx_cnB n hg hall v0 hts rfl rfl (hts _ (hall _ v2)) (hts _ (hall _ v1)) hds hrm, hts _ (hall _ v3), trivial⟩) hpre rfl hlen (hL.1) (qx_split hn1) hroom hd hf
    exact qx_callW hKC hA hmono hrun a2 a3 hI hL
  · exact h.elim
theorem qs_callV {i k n : Nat} {ci N : Nat} {T : u_T} (hd : decode cc pc = .ok (.invokevirtual i, 3)) (hg : ∀ w ∈ ALL, qx_okw w = true) (v0 : Cond.code (mi k).1 (mi k).2.1 (mi k).2.2.1 (mi k).2.2.2 ∈ ALL) (v2 : Cond.initialized (mi k).1.cls ∈ ALL) (hmL : (mi k).2.2.1 ≤ 21) (v1 : Cond.methodLink own i (mi k).1 ∈ ALL) (v3 : Cond.instanceMethod (mi k).1 ∈ ALL) (v4 : Cond.selects (mi k).1.cls (mi k).1 (mi k).1 ∈ ALL) (hc : cl[ci]? = some ((mi k).1.cls, T, N)) (h0 : 0 < n) (hds : (mi k).1.cls ≠ "java/lang/invoke/MethodHandle" ∧ (mi k).1.cls ≠ "java/lang/invoke/VarHandle" ∧ (parseMethodDescriptor (mi k).1.desc).map (fun d => d.parameters.length) = some (n - 1)) : qx_Sw cl shC vC vN vD st ALL mi own isI cc nL rt pc (qx_callV k n ci) := by
  intro C d Ts D sd A p l e R s m args below meth c n0 w0 n1 w1 ad0 cs0 Q hC F ρ ls stk H hρ h ad cs HH locs arr hI hL
  have F0' := F
  obtain ⟨⟨hx, hb, hml, hown, hts⟩, hall, hKC, hSF, hin, hfr, hlo, hnc, hns, hA⟩ := F
  unfold qx_callV at h
  dsimp only at h
  split at h
  · rename_i o rr hrr
    split at h
    · rename_i his
      unfold qx_call at h
      dsimp only at h
      split at h
      · rename_i q
        obtain ⟨hn1, hn2⟩ := q
        obtain ⟨v, H', σ, a1, a2, a3⟩ := h
        obtain ⟨hmono, hM⟩ := hC _ _ _ _ _ a1
        have hM := hM l D sd ad cs HH.size
        have b1 := a3.1
        have b2 : σ.2.2.2 = H' := by rw [(qx_ct_inv a2).1]
        rw [b2] at b1
        have hpre := qx_pre (st := st) (vC := vC) (vN := vN) (vD := vD) (as := (stk.take n).reverse) hKC hSF hI.2.1 hI.2.2 hA
        have g := hI.1
        have hrm : (qx_rm d (H'.length - H.length) (qx_wt H' - qx_wt H)).frames + 1 ≤ R.frames ∧ 8 + ((mi k).2.2.1 + 11) + (qx_rm d (H'.length - H.length) (qx_wt H' - qx_wt H)).locals ≤ R.locals := ⟨hfr, by show 8 + ((mi k).2.2.1 + 11) + 40 * d ≤ R.locals; omega⟩
        have hroom : 2 * (F0 m pc arr (stk.map (qx_v sd ad))).monitorRoom + (((stk.drop n).map (qx_v sd ad)).map fun v => v.category).sum ≤ 8 := by
          rw [qx_cats]
          have e2 : ∀ z, (F0 m pc arr z).monitorRoom = 0 := fun _ => rfl
          rw [e2]
          omega
        have hf : H.length - n0 + (H'.length - H.length) ≤ R.cells ∧ qx_wt H - w0 + (qx_wt H' - qx_wt H) ≤ R.slots := ⟨by omega, by omega⟩
        have has := qx_recv hn1 h0 hrr
        obtain ⟨fs, hobj⟩ : ∃ fs, H[o]? = some (.inr (ci, fs)) := by
          unfold hp_is at his
          split at his
          · rename_i c' fs hh
            have : c' = ci := Nat.eq_of_beq_eq_true his
            subst this
            exact ⟨fs, hh⟩
          · cases his
        have hrecv := va_recv (qx_K0 hKC) hI.2.1.1 hc (qx_ws_get hobj)
        have hlen : ((stk.take (n - 1)).reverse.map (qx_v sd ad)).length = n - 1 := by rw [List.length_map, List.length_reverse, List.length_take]; omega
        have hstk : stk.map (qx_v sd ad) = ((stk.take (n - 1)).reverse.map (qx_v sd ad)).reverse ++ .ref (ad o) :: (stk.drop n).map (qx_v sd ad) := by
          rw [qx_split hn1, has, List.map_cons, List.reverse_cons, List.append_assoc]
          rfl
        have hpre2 : ∀ U : State, U.heap = HH → s.WarmedH U.vm → qx_Pre cl shC vC vN vD st D sd ad cs (stk.take n).reverse H HH.size (Value.ref (ad o) :: (stk.take (n - 1)).reverse.map (qx_v sd ad)).toArray U := by
          have := hpre.2
          rw [has] at this ⊢
          exact this
        have hrun : va_Run p l e R s m args below meth c HH locs (H.length - n0) (qx_wt H - w0) (H'.length - H.length) (qx_wt H' - qx_wt H) (F0 m pc arr (stk.map (qx_v sd ad))) ((stk.drop n).map (qx_v sd ad)) (qx_Post cl shC D sd ad cs H HH.size v H' (Value.ref (ad o) :: (stk.take (n - 1)).reverse.map (qx_v sd ad)).toArray) (va_A (qx_ws sd ad cs H) HH.size) :=
          va_runV (C := (mi k).1.cls) (As := (stk.take (n - 1)).reverse.map (qx_v sd ad)) ⟨hx, hb, hml, hown, hts⟩ hM (⟨qx_callB (n - 1) hg hall v0 hts rfl rfl (hts _ (hall _ v2)) (hts _ (hall _ v1)) hds hrm, hts _ (hall _ v3), hts _ (hall _ v4)⟩) ⟨hpre.1, hrecv, hpre2⟩ rfl hlen (hL.1) hstk hroom hd hf
        exact qx_callW hKC hA hmono hrun a2 a3 hI hL
      · exact h.elim
    · exact h.elim
  · exact h.elim
theorem qs_callVN {i k n : Nat} {ci N : Nat} {T : u_T} {host : String} (hd : decode cc pc = .ok (.invokevirtual i, 3)) (hg : ∀ w ∈ ALL, qx_okw w = true) (v0 : Cond.code (mi k).1 (mi k).2.1 (mi k).2.2.1 (mi k).2.2.2 ∈ ALL) (v2 : Cond.initialized (mi k).1.cls ∈ ALL) (hmL : (mi k).2.2.1 ≤ 21) (v1 : Cond.methodLinkNest own i (mi k).1 host ∈ ALL) (v3 : Cond.instanceMethod (mi k).1 ∈ ALL) (v4 : Cond.selects (mi k).1.cls (mi k).1 (mi k).1 ∈ ALL) (hc : cl[ci]? = some ((mi k).1.cls, T, N)) (h0 : 0 < n) (hds : (mi k).1.cls ≠ "java/lang/invoke/MethodHandle" ∧ (mi k).1.cls ≠ "java/lang/invoke/VarHandle" ∧ (parseMethodDescriptor (mi k).1.desc).map (fun d => d.parameters.length) = some (n - 1)) : qx_Sw cl shC vC vN vD st ALL mi own isI cc nL rt pc (qx_callV k n ci) := by
  intro C d Ts D sd A p l e R s m args below meth c n0 w0 n1 w1 ad0 cs0 Q hC F ρ ls stk H hρ h ad cs HH locs arr hI hL
  have F0' := F
  obtain ⟨⟨hx, hb, hml, hown, hts⟩, hall, hKC, hSF, hin, hfr, hlo, hnc, hns, hA⟩ := F
  unfold qx_callV at h
  dsimp only at h
  split at h
  · rename_i o rr hrr
    split at h
    · rename_i his
      unfold qx_call at h
      dsimp only at h
      split at h
      · rename_i q
        obtain ⟨hn1, hn2⟩ := q
        obtain ⟨v, H', σ, a1, a2, a3⟩ := h
        obtain ⟨hmono, hM⟩ := hC _ _ _ _ _ a1
        have hM := hM l D sd ad cs HH.size
        have b1 := a3.1
        have b2 : σ.2.2.2 = H' := by rw [(qx_ct_inv a2).1]
        rw [b2] at b1
        have hpre := qx_pre (st := st) (vC := vC) (vN := vN) (vD := vD) (as := (stk.take n).reverse) hKC hSF hI.2.1 hI.2.2 hA
        have g := hI.1
        have hrm : (qx_rm d (H'.length - H.length) (qx_wt H' - qx_wt H)).frames + 1 ≤ R.frames ∧ 8 + ((mi k).2.2.1 + 11) + (qx_rm d (H'.length - H.length) (qx_wt H' - qx_wt H)).locals ≤ R.locals := ⟨hfr, by show 8 + ((mi k).2.2.1 + 11) + 40 * d ≤ R.locals; omega⟩
        have hroom : 2 * (F0 m pc arr (stk.map (qx_v sd ad))).monitorRoom + (((stk.drop n).map (qx_v sd ad)).map fun v => v.category).sum ≤ 8 := by
          rw [qx_cats]
          have e2 : ∀ z, (F0 m pc arr z).monitorRoom = 0 := fun _ => rfl
          rw [e2]
          omega
        have hf : H.length - n0 + (H'.length - H.length) ≤ R.cells ∧ qx_wt H - w0 + (qx_wt H' - qx_wt H) ≤ R.slots := ⟨by omega, by omega⟩
        have has := qx_recv hn1 h0 hrr
        obtain ⟨fs, hobj⟩ : ∃ fs, H[o]? = some (.inr (ci, fs)) := by
          unfold hp_is at his
          split at his
          · rename_i c' fs hh
            have : c' = ci := Nat.eq_of_beq_eq_true his
            subst this
            exact ⟨fs, hh⟩
          · cases his
        have hrecv := va_recv (qx_K0 hKC) hI.2.1.1 hc (qx_ws_get hobj)
        have hlen : ((stk.take (n - 1)).reverse.map (qx_v sd ad)).length = n - 1 := by rw [List.length_map, List.length_reverse, List.length_take]; omega
        have hstk : stk.map (qx_v sd ad) = ((stk.take (n - 1)).reverse.map (qx_v sd ad)).reverse ++ .ref (ad o) :: (stk.drop n).map (qx_v sd ad) := by
          rw [qx_split hn1, has, List.map_cons, List.reverse_cons, List.append_assoc]
          rfl
        have hpre2 : ∀ U : State, U.heap = HH → s.WarmedH U.vm → qx_Pre cl shC vC vN vD st D sd ad cs (stk.take n).reverse H HH.size (Value.ref (ad o) :: (stk.take (n - 1)).reverse.map (qx_v sd ad)).toArray U := by
          have := hpre.2
          rw [has] at this ⊢
          exact this
        have hrun : va_Run p l e R s m args below meth c HH locs (H.length - n0) (qx_wt H - w0) (H'.length - H.length) (qx_wt H' - qx_wt H) (F0 m pc arr (stk.map (qx_v sd ad))) ((stk.drop n).map (qx_v sd ad)) (qx_Post cl shC D sd ad cs H HH.size v H' (Value.ref (ad o) :: (stk.take (n - 1)).reverse.map (qx_v sd ad)).toArray) (va_A (qx_ws sd ad cs H) HH.size) :=
          va_runVN (C := (mi k).1.cls) (As := (stk.take (n - 1)).reverse.map (qx_v sd ad)) ⟨hx, hb, hml, hown, hts⟩ hM (⟨qx_cnB (n - 1) hg hall v0 hts rfl rfl (hts _ (hall _ v2)) (hts _ (hall _ v1)) hds hrm, hts _ (hall _ v3), hts _ (hall _ v4)⟩) ⟨hpre.1, hrecv, hpre2⟩ rfl hlen (hL.1) hstk hroom hd hf
        exact qx_callW hKC hA hmono hrun a2 a3 hI hL
      · exact h.elim
    · exact h.elim
  · exact h.elim
theorem qs_callI {i k n : Nat} {ci N : Nat} {T : u_T} (hd : decode cc pc = .ok (.invokespecial i, 3)) (hg : ∀ w ∈ ALL, qx_okw w = true) (v0 : Cond.code (mi k).1 (mi k).2.1 (mi k).2.2.1 (mi k).2.2.2 ∈ ALL) (v2 : Cond.initialized (mi k).1.cls ∈ ALL) (hmL : (mi k).2.2.1 ≤ 21) (hrt : (mi k).2.2.2 = none) (v1 : Cond.methodLink own i (mi k).1 ∈ ALL) (v3 : Cond.instanceMethod (mi k).1 ∈ ALL) (hnm : (mi k).1.name = "<init>") (hc : cl[ci]? = some ((mi k).1.cls, T, N)) (h0 : 0 < n) (hds : (mi k).1.cls ≠ "java/lang/invoke/MethodHandle" ∧ (mi k).1.cls ≠ "java/lang/invoke/VarHandle" ∧ (parseMethodDescriptor (mi k).1.desc).map (fun d => d.parameters.length) = some (n - 1)) : qx_Sw cl shC vC vN vD st ALL mi own isI cc nL rt pc (qx_callV k n ci) := by
  intro C d Ts D sd A p l e R s m args below meth c n0 w0 n1 w1 ad0 cs0 Q hC F ρ ls stk H hρ h ad cs HH locs arr hI hL
  have F0' := F
  obtain ⟨⟨hx, hb, hml, hown, hts⟩, hall, hKC, hSF, hin, hfr, hlo, hnc, hns, hA⟩ := F
  unfold qx_callV at h
  dsimp only at h
  split at h
  · rename_i o rr hrr
    split at h
    · rename_i his
      unfold qx_call at h
      dsimp only at h
      split at h
      · rename_i q
        obtain ⟨hn1, hn2⟩ := q
        obtain ⟨v, H', σ, a1, a2, a3⟩ := h
        obtain ⟨hmono, hM⟩ := hC _ _ _ _ _ a1
        have hM := hM l D sd ad cs HH.size
        have b1 := a3.1
        have b2 : σ.2.2.2 = H' := by rw [(qx_ct_inv a2).1]
        rw [b2] at b1
        have hpre := qx_pre (st := st) (vC := vC) (vN := vN) (vD := vD) (as := (stk.take n).reverse) hKC hSF hI.2.1 hI.2.2 hA
        have g := hI.1
        have hrm : (qx_rm d (H'.length - H.length) (qx_wt H' - qx_wt H)).frames + 1 ≤ R.frames ∧ 8 + ((mi k).2.2.1 + 11) + (qx_rm d (H'.length - H.length) (qx_wt H' - qx_wt H)).locals ≤ R.locals := ⟨hfr, by show 8 + ((mi k).2.2.1 + 11) + 40 * d ≤ R.locals; omega⟩
        have hroom : 2 * (F0 m pc arr (stk.map (qx_v sd ad))).monitorRoom + (((stk.drop n).map (qx_v sd ad)).map fun v => v.category).sum ≤ 8 := by
          rw [qx_cats]
          have e2 : ∀ z, (F0 m pc arr z).monitorRoom = 0 := fun _ => rfl
          rw [e2]
          omega
        have hf : H.length - n0 + (H'.length - H.length) ≤ R.cells ∧ qx_wt H - w0 + (qx_wt H' - qx_wt H) ≤ R.slots := ⟨by omega, by omega⟩
        have has := qx_recv hn1 h0 hrr
        obtain ⟨fs, hobj⟩ : ∃ fs, H[o]? = some (.inr (ci, fs)) := by
          unfold hp_is at his
          split at his
          · rename_i c' fs hh
            have : c' = ci := Nat.eq_of_beq_eq_true his
            subst this
            exact ⟨fs, hh⟩
          · cases his
        have hrecv := va_recv (qx_K0 hKC) hI.2.1.1 hc (qx_ws_get hobj)
        have hlen : ((stk.take (n - 1)).reverse.map (qx_v sd ad)).length = n - 1 := by rw [List.length_map, List.length_reverse, List.length_take]; omega
        have hstk : stk.map (qx_v sd ad) = ((stk.take (n - 1)).reverse.map (qx_v sd ad)).reverse ++ .ref (ad o) :: (stk.drop n).map (qx_v sd ad) := by
          rw [qx_split hn1, has, List.map_cons, List.reverse_cons, List.append_assoc]
          rfl
        have hpre2 : ∀ U : State, U.heap = HH → s.WarmedH U.vm → qx_Pre cl shC vC vN vD st D sd ad cs (stk.take n).reverse H HH.size (Value.ref (ad o) :: (stk.take (n - 1)).reverse.map (qx_v sd ad)).toArray U := by
          have := hpre.2
          rw [has] at this ⊢
          exact this
        have hrun : va_Run p l e R s m args below meth c HH locs (H.length - n0) (qx_wt H - w0) (H'.length - H.length) (qx_wt H' - qx_wt H) (F0 m pc arr (stk.map (qx_v sd ad))) ((stk.drop n).map (qx_v sd ad)) (qx_Post cl shC D sd ad cs H HH.size v H' (Value.ref (ad o) :: (stk.take (n - 1)).reverse.map (qx_v sd ad)).toArray) (va_A (qx_ws sd ad cs H) HH.size) :=
          va_runI (As := (stk.take (n - 1)).reverse.map (qx_v sd ad)) ⟨hx, hb, hml, hown, hts⟩ hM (⟨hrt ▸ qx_callB (n - 1) hg hall v0 hts rfl rfl (hts _ (hall _ v2)) (hts _ (hall _ v1)) hds hrm, hnm, hts _ (hall _ v3)⟩) ⟨hpre.1, hpre2⟩ rfl hlen (hL.1) hstk hroom hd hf
        exact qx_callW hKC hA hmono hrun a2 a3 hI hL
      · exact h.elim
    · exact h.elim
  · exact h.elim
theorem qs_callIN {i k n : Nat} {ci N : Nat} {T : u_T} {host : String} (hd : decode cc pc = .ok (.invokespecial i, 3)) (hg : ∀ w ∈ ALL, qx_okw w = true) (v0 : Cond.code (mi k).1 (mi k).2.1 (mi k).2.2.1 (mi k).2.2.2 ∈ ALL) (v2 : Cond.initialized (mi k).1.cls ∈ ALL) (hmL : (mi k).2.2.1 ≤ 21) (hrt : (mi k).2.2.2 = none) (v1 : Cond.methodLinkNest own i (mi k).1 host ∈ ALL) (v3 : Cond.instanceMethod (mi k).1 ∈ ALL) (hnm : (mi k).1.name = "<init>") (hc : cl[ci]? = some ((mi k).1.cls, T, N)) (h0 : 0 < n) (hds : (mi k).1.cls ≠ "java/lang/invoke/MethodHandle" ∧ (mi k).1.cls ≠ "java/lang/invoke/VarHandle" ∧ (parseMethodDescriptor (mi k).1.desc).map (fun d => d.parameters.length) = some (n - 1)) : qx_Sw cl shC vC vN vD st ALL mi own isI cc nL rt pc (qx_callV k n ci) := by
  intro C d Ts D sd A p l e R s m args below meth c n0 w0 n1 w1 ad0 cs0 Q hC F ρ ls stk H hρ h ad cs HH locs arr hI hL
  have F0' := F
  obtain ⟨⟨hx, hb, hml, hown, hts⟩, hall, hKC, hSF, hin, hfr, hlo, hnc, hns, hA⟩ := F
  unfold qx_callV at h
  dsimp only at h
  split at h
  · rename_i o rr hrr
    split at h
    · rename_i his
      unfold qx_call at h
      dsimp only at h
      split at h
      · rename_i q
        obtain ⟨hn1, hn2⟩ := q
        obtain ⟨v, H', σ, a1, a2, a3⟩ := h
        obtain ⟨hmono, hM⟩ := hC _ _ _ _ _ a1
        have hM := hM l D sd ad cs HH.size
        have b1 := a3.1
        have b2 : σ.2.2.2 = H' := by rw [(qx_ct_inv a2).1]
        rw [b2] at b1
        have hpre := qx_pre (st := st) (vC := vC) (vN := vN) (vD := vD) (as := (stk.take n).reverse) hKC hSF hI.2.1 hI.2.2 hA
        have g := hI.1
        have hrm : (qx_rm d (H'.length - H.length) (qx_wt H' - qx_wt H)).frames + 1 ≤ R.frames ∧ 8 + ((mi k).2.2.1 + 11) + (qx_rm d (H'.length - H.length) (qx_wt H' - qx_wt H)).locals ≤ R.locals := ⟨hfr, by show 8 + ((mi k).2.2.1 + 11) + 40 * d ≤ R.locals; omega⟩
        have hroom : 2 * (F0 m pc arr (stk.map (qx_v sd ad))).monitorRoom + (((stk.drop n).map (qx_v sd ad)).map fun v => v.category).sum ≤ 8 := by
          rw [qx_cats]
          have e2 : ∀ z, (F0 m pc arr z).monitorRoom = 0 := fun _ => rfl
          rw [e2]
          omega
        have hf : H.length - n0 + (H'.length - H.length) ≤ R.cells ∧ qx_wt H - w0 + (qx_wt H' - qx_wt H) ≤ R.slots := ⟨by omega, by omega⟩
        have has := qx_recv hn1 h0 hrr
        obtain ⟨fs, hobj⟩ : ∃ fs, H[o]? = some (.inr (ci, fs)) := by
          unfold hp_is at his
          split at his
          · rename_i c' fs hh
            have : c' = ci := Nat.eq_of_beq_eq_true his
            subst this
            exact ⟨fs, hh⟩
          · cases his
        have hrecv := va_recv (qx_K0 hKC) hI.2.1.1 hc (qx_ws_get hobj)
        have hlen : ((stk.take (n - 1)).reverse.map (qx_v sd ad)).length = n - 1 := by rw [List.length_map, List.length_reverse, List.length_take]; omega
        have hstk : stk.map (qx_v sd ad) = ((stk.take (n - 1)).reverse.map (qx_v sd ad)).reverse ++ .ref (ad o) :: (stk.drop n).map (qx_v sd ad) := by
          rw [qx_split hn1, has, List.map_cons, List.reverse_cons, List.append_assoc]
          rfl
        have hpre2 : ∀ U : State, U.heap = HH → s.WarmedH U.vm → qx_Pre cl shC vC vN vD st D sd ad cs (stk.take n).reverse H HH.size (Value.ref (ad o) :: (stk.take (n - 1)).reverse.map (qx_v sd ad)).toArray U := by
          have := hpre.2
          rw [has] at this ⊢
          exact this
        have hrun : va_Run p l e R s m args below meth c HH locs (H.length - n0) (qx_wt H - w0) (H'.length - H.length) (qx_wt H' - qx_wt H) (F0 m pc arr (stk.map (qx_v sd ad))) ((stk.drop n).map (qx_v sd ad)) (qx_Post cl shC D sd ad cs H HH.size v H' (Value.ref (ad o) :: (stk.take (n - 1)).reverse.map (qx_v sd ad)).toArray) (va_A (qx_ws sd ad cs H) HH.size) :=
          va_runIN (As := (stk.take (n - 1)).reverse.map (qx_v sd ad)) ⟨hx, hb, hml, hown, hts⟩ hM (⟨hrt ▸ qx_cnB (n - 1) hg hall v0 hts rfl rfl (hts _ (hall _ v2)) (hts _ (hall _ v1)) hds hrm, hnm, hts _ (hall _ v3)⟩) ⟨hpre.1, hpre2⟩ rfl hlen (hL.1) hstk hroom hd hf
        exact qx_callW hKC hA hmono hrun a2 a3 hI hL
      · exact h.elim
    · exact h.elim
  · exact h.elim
end QC
