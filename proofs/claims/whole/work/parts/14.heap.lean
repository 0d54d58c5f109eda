/-! THE OPERATIONS ON THE HEAP, AND THE CALLS -/
section QH
variable {cl : List vw_C} {shC vC vN vD : String} {st : UInt32 → Option (Nat × (Nat → Int32))} {ALL : List Cond} {mi : Nat → MethodName × ByteArray × Nat × Option FieldType} {own : String} {isI : Bool} {cc : ByteArray} {nL : Nat} {rt : Option FieldType} {pc : Nat}
theorem qx_K0 {D : va_G} {s : State} (h : qx_KC cl D s) : va_K D cl [] s := ⟨h, fun k q hq => by simp at hq⟩
theorem qx_K1 {D : va_G} {s : State} {sd : UInt32 → Nat} {ad : Nat → Nat} {cs : Nat → ClassId} {H : qx_H} {A : Nat → Prop} {HH : Heap} {i : Nat} {c : qx_C} {ty : FieldType} (h : qx_KC cl D s) (hW : qx_W cl shC D sd ad cs H A s HH) (hi : H[i]? = some c) (ht : qx_ty shC c = some ty) : va_K D cl [(cs i, ty)] s :=
  ⟨h, fun k q hq => by
    match k, hq with
    | 0, hq => cases hq; exact hW.2.2 i c ty hi ht
    | k + 1, hq => simp at hq⟩
theorem qx_KC.moved {D : va_G} {u U : State} (hvm : u.vm.Alike U.vm) (h : qx_KC cl D u) : qx_KC cl D U := (va_K.moved hvm (qx_K0 h)).1
theorem qx_TA.moved {D : va_G} {u U : State} (hvm : u.vm.Alike U.vm) (hK : qx_KC cl D u) {cA : ClassId} {ty : FieldType} (h : ArrOfT u cA ty ∧ va_RA u cA ty) : ArrOfT U cA ty ∧ va_RA U cA ty := by
  have h1 : va_K D cl [(cA, ty)] u := ⟨hK, fun k q hq => by
    match k, hq with
    | 0, hq => cases hq; exact h
    | k + 1, hq => simp at hq⟩
  exact (va_K.moved hvm h1).2 0 _ rfl
theorem qx_I_set {D : va_G} {sd : UInt32 → Nat} {A : Nat → Prop} {s : State} {n0 w0 : Nat} {ad0 : Nat → Nat} {cs0 : Nat → ClassId} {H : qx_H} {ad : Nat → Nat} {cs : Nat → ClassId} {HH HH1 : Heap} {locs locs1 : List Loc} {o : Nat} {c c0 : qx_C}
    (hI : qx_I cl shC D sd A s n0 w0 ad0 cs0 H ad cs HH locs) (h : H[o]? = some c0) (ht : qx_ty shC c = qx_ty shC c0) (hs : qx_sz c = qx_sz c0)
    (hP : va_P D cl ((qx_ws sd ad cs H).set o (ad o, qx_ce sd ad (cs o) c)) HH1) (hD : va_D A ((qx_ws sd ad cs H).set o (ad o, qx_ce sd ad (cs o) c))) (hS : va_S A s.heap HH1 locs1) : qx_I cl shC D sd A s n0 w0 ad0 cs0 (H.set o c) ad cs HH1 locs1 := by
  obtain ⟨⟨g1, g2, g3, g4⟩, hW, -⟩ := hI
  rw [qx_ws_set] at hP hD
  refine ⟨⟨by simpa using g1, by rw [qx_wt_set h hs]; exact g2, g3, by simpa using g4⟩, ⟨hP, hD, fun i c' ty hi ht' => ?_⟩, hS⟩
  rw [List.getElem?_set] at hi
  by_cases e : o = i
  · subst e
    rw [if_pos rfl] at hi
    split at hi
    · cases hi
      exact hW.2.2 o c0 ty h (by rw [← ht]; exact ht')
    · cases hi
  · rw [if_neg e] at hi
    exact hW.2.2 i c' ty hi ht'
theorem qx_P_set {D : va_G} {sd : UInt32 → Nat} {A : Nat → Prop} {p : Program} {l : Launch} {e : Env} {R : Room} {s : State} {m : MethodId} {args : Array Value} {below : List Frame} {meth : Method} {c1 : Code} {n0 w0 n1 w1 : Nat} {ad0 : Nat → Nat} {cs0 : Nat → ClassId} {Q : State → Prop} {pc' o : Nat} {ls : List (Option Value)} {r : List Value} {H : qx_H} {c c0 : qx_C} {ad : Nat → Nat} {cs : Nat → ClassId} {HH HH1 : Heap} {locs locs1 : List Loc} {arr : Array Slot}
    (k : qx_P cl shC D sd A p l e R s m args below meth c1 nL n0 w0 n1 w1 ad0 cs0 Q (pc', ls, r, H.set o c)) (hI : qx_I cl shC D sd A s n0 w0 ad0 cs0 H ad cs HH locs) (hL : qx_L sd ad arr nL ls) (h : H[o]? = some c0) (ht : qx_ty shC c = qx_ty shC c0) (hs : qx_sz c = qx_sz c0)
    (hP : va_P D cl ((qx_ws sd ad cs H).set o (ad o, qx_ce sd ad (cs o) c)) HH1) (hD : va_D A ((qx_ws sd ad cs H).set o (ad o, qx_ce sd ad (cs o) c))) (hS : va_S A s.heap HH1 locs1) :
    W p l e R s m args below meth c1 HH1 locs1 (H.length - n0) (qx_wt H - w0) Q (F0 m pc' arr (r.map (qx_v sd ad))) := by
  have g := k.2 ad cs HH1 locs1 arr (qx_I_set hI h ht hs hP hD hS) hL
  dsimp only at g
  rw [List.length_set, qx_wt_set h hs] at g
  exact g
def qx_up {α : Type} (f : Nat → α) (n : Nat) (q : α) : Nat → α := fun i => if i = n then q else f i
theorem qx_P_push {D : va_G} {sd : UInt32 → Nat} {A : Nat → Prop} {p : Program} {l : Launch} {e : Env} {R : Room} {s : State} {m : MethodId} {args : Array Value} {below : List Frame} {meth : Method} {c1 : Code} {n0 w0 n1 w1 : Nat} {ad0 : Nat → Nat} {cs0 : Nat → ClassId} {Q : State → Prop} {pc' q : Nat} {ls : List (Option Value)} {r : List Value} {H : qx_H} {c : qx_C} {ad : Nat → Nat} {cs : Nat → ClassId} {cA : ClassId} {HH HH1 : Heap} {locs locs1 : List Loc} {arr : Array Slot}
    (k : qx_P cl shC D sd A p l e R s m args below meth c1 nL n0 w0 n1 w1 ad0 cs0 Q (pc', ls, .ref H.length :: r, H ++ [c])) (hI : qx_I cl shC D sd A s n0 w0 ad0 cs0 H ad cs HH locs) (hL : qx_L sd ad arr nL ls) (hok : qx_ok ls r H = true) (hce : ∀ ad', qx_ce sd ad' cA c = qx_ce sd ad cA c) (hT : ∀ ty, qx_ty shC c = some ty → ArrOfT s cA ty ∧ va_RA s cA ty)
    (hP : va_P D cl (qx_ws sd ad cs H ++ [(q, qx_ce sd ad cA c)]) HH1) (hD : va_D A (qx_ws sd ad cs H ++ [(q, qx_ce sd ad cA c)])) (hS : va_S A s.heap HH1 locs1) :
    W p l e R s m args below meth c1 HH1 locs1 (H.length - n0 + 1) (qx_wt H - w0 + qx_sz c) Q (F0 m pc' arr (.ref q :: r.map (qx_v sd ad))) := by
  obtain ⟨⟨g1, g2, g3, g4⟩, hW, -⟩ := hI
  simp only [qx_ok, qx_okl, Bool.and_eq_true] at hok
  obtain ⟨⟨o1, o2⟩, o3⟩ := hok
  have ea : ∀ i, i < H.length → qx_up ad H.length q i = ad i := fun i hi => if_neg (Nat.ne_of_lt hi)
  have ec : ∀ i, i < H.length → qx_up cs H.length cA i = cs i := fun i hi => if_neg (Nat.ne_of_lt hi)
  have eaq : qx_up ad H.length q H.length = q := if_pos rfl
  have ecq : qx_up cs H.length cA H.length = cA := if_pos rfl
  have ew : qx_ws sd (qx_up ad H.length q) (qx_up cs H.length cA) (H ++ [c]) = qx_ws sd ad cs H ++ [(q, qx_ce sd ad cA c)] := by
    rw [qx_ws_push, qx_ok_ws o3 ea ec, eaq, ecq, hce]
  have hI' : qx_I cl shC D sd A s n0 w0 ad0 cs0 (H ++ [c]) (qx_up ad H.length q) (qx_up cs H.length cA) HH1 locs1 := by
    refine ⟨⟨by simp; omega, by rw [qx_wt_push]; omega, fun i hi => ?_, fun z => ?_⟩, ⟨by rw [ew]; exact hP, by rw [ew]; exact hD, fun i c' ty hi ht => ?_⟩, hS⟩
    · rw [ea i (by omega), ec i (by omega)]
      exact g3 i hi
    · simp at z
      omega
    · by_cases hl : i < H.length
      · rw [List.getElem?_append_left hl] at hi
        rw [ec i hl]
        exact hW.2.2 i c' ty hi ht
      · rw [List.getElem?_append_right (by omega)] at hi
        have hz : i - H.length < 1 := (List.getElem?_eq_some_iff.mp hi).1
        have e1 : i = H.length := by omega
        subst e1
        simp at hi
        subst hi
        rw [ecq]
        exact hT ty ht
  have g := k.2 _ _ HH1 locs1 arr hI' (qx_okl_L o1 ea hL)
  dsimp only at g
  have e1 : (H ++ [c]).length - n0 = H.length - n0 + 1 := by simp; omega
  have e2 : qx_wt (H ++ [c]) - w0 = qx_wt H - w0 + qx_sz c := by rw [qx_wt_push]; omega
  have e3 : ((.ref H.length :: r : List Value)).map (qx_v sd (qx_up ad H.length q)) = .ref q :: r.map (qx_v sd ad) := by
    rw [List.map_cons, qx_okl_stk o2 ea]
    show Value.ref (qx_up ad H.length q H.length) :: _ = _
    rw [eaq]
  rw [e1, e2, e3] at g
  exact g
theorem qs_get {i ci k N : Nat} {C0 : String} {T : u_T} (hd : decode cc pc = .ok (.getfield i, 3)) (hc : cl[ci]? = some (C0, T, N)) (hk : k < N) (hlay : ∀ w ∈ u_ws C0 T N, w ∈ ALL) (v1 : Cond.fieldLink own i (T k).1 (T k).2.1 (T k).2.2.1 ∈ ALL) : qx_Sw cl shC vC vN vD st ALL mi own isI cc nL rt pc (qx_get ci k) := by
  intro C d Ts D sd A p l e R s m args below meth c n0 w0 n1 w1 ad0 cs0 Q hC F ρ ls stk H hρ h ad cs HH locs arr hI hL
  obtain ⟨⟨hx, hb, hml, hown, hts⟩, hall, hKC, hSF, hin, hfr, hlo, hnc, hns, hA⟩ := F
  unfold qx_get at h
  dsimp only at h
  split at h
  · rename_i o r
    split at h
    · rename_i v hg
      obtain ⟨fs, h1, h2⟩ := hp_get_get hg
      exact va_get (D := D) (ci := ci) (v := qx_v sd ad v) (C := C0) (T := T) (N := N) hx hb hts (fun w q => hall w (hlay w q)) hown (qx_K0 hKC) hI.2.1.1 o (qx_ws_get h1) hc k hk (hts _ (hall _ v1)) (fun _ h9 => h9) (by rw [List.getElem?_map, h2]; rfl) hd (h.2 ad cs HH locs arr hI hL)
    · exact h.elim
  · exact h.elim
theorem qs_getN {i ci k N : Nat} {C0 : String} {T : u_T} {host : String} (hd : decode cc pc = .ok (.getfield i, 3)) (hc : cl[ci]? = some (C0, T, N)) (hk : k < N) (hlay : ∀ w ∈ u_ws C0 T N, w ∈ ALL) (v1 : Cond.fieldLinkNest own i (T k).1 (T k).2.1 (T k).2.2.1 host ∈ ALL) : qx_Sw cl shC vC vN vD st ALL mi own isI cc nL rt pc (qx_get ci k) := by
  intro C d Ts D sd A p l e R s m args below meth c n0 w0 n1 w1 ad0 cs0 Q hC F ρ ls stk H hρ h ad cs HH locs arr hI hL
  obtain ⟨⟨hx, hb, hml, hown, hts⟩, hall, hKC, hSF, hin, hfr, hlo, hnc, hns, hA⟩ := F
  unfold qx_get at h
  dsimp only at h
  split at h
  · rename_i o r
    split at h
    · rename_i v hg
      obtain ⟨fs, h1, h2⟩ := hp_get_get hg
      exact va_getN (D := D) (ci := ci) (v := qx_v sd ad v) (C := C0) (T := T) (N := N) hx hb hts (fun w q => hall w (hlay w q)) hown (qx_K0 hKC) hI.2.1.1 o (qx_ws_get h1) hc k hk (hts _ (hall _ v1)) (fun _ h9 => h9) (by rw [List.getElem?_map, h2]; rfl) hd (h.2 ad cs HH locs arr hI hL)
    · exact h.elim
  · exact h.elim
theorem qs_putI {i ci k N : Nat} {C0 : String} {T : u_T} (ty0 : Nat → FieldType) (hd : decode cc pc = .ok (.putfield i, 3)) (hc : cl[ci]? = some (C0, T, N)) (hk : k < N) (hlay : ∀ w ∈ u_ws C0 T N, w ∈ ALL) (hty : ∀ k, k < N → parseFieldDescriptor (T k).2.2.1 = some (ty0 k)) (hnm : ∀ a, a < N → ∀ b, b < N → a ≠ b → (T a).2.1 ≠ (T b).2.1) (hfin : (T k).2.2.2 = false) (hp0 : parseFieldDescriptor (T k).2.2.1 = some .int) (v1 : Cond.fieldLink own i (T k).1 (T k).2.1 (T k).2.2.1 ∈ ALL) : qx_Sw cl shC vC vN vD st ALL mi own isI cc nL rt pc (qx_putI ci k) := by
  intro C d Ts D sd A p l e R s m args below meth c n0 w0 n1 w1 ad0 cs0 Q hC F ρ ls stk H hρ h ad cs HH locs arr hI hL
  obtain ⟨⟨hx, hb, hml, hown, hts⟩, hall, hKC, hSF, hin, hfr, hlo, hnc, hns, hA⟩ := F
  unfold qx_putI at h
  dsimp only at h
  split at h
  · rename_i v o r
    have h : qx_app C ρ (qx_P cl shC D sd A p l e R s m args below meth c nL n0 w0 n1 w1 ad0 cs0 Q) (match hp_put H o ci k (.int v) with | some H' => some (.inl (pc + 3, ls, r, H')) | none => none) := h
    split at h
    · rename_i H' hg
      obtain ⟨fs, h1, h2, rfl⟩ := hp_put_set hg
      refine va_put (D := D) (ci := ci) (v := qx_v sd ad (.int v)) (ty := .int) (C := C0) (T := T) (N := N) hx hb hts (fun w q => hall w (hlay w q)) ty0 hty hnm hown (qx_K0 hKC) hI.2.1.1 hI.2.1.2.1 hI.2.2 o (qx_ws_get h1) hc k hk (hts _ (hall _ v1)) (fun _ h9 => h9) hfin  hp0 rfl rfl (by rw [List.length_map]; exact h2) hd (fun HH1 locs1 hP hD hS => ?_)
      rw [← List.map_set] at hP hD
      exact qx_P_set h hI hL h1 rfl (by simp [qx_sz]) hP hD hS
    · exact h.elim
  · exact h.elim
theorem qs_putZ {i ci k N : Nat} {C0 : String} {T : u_T} (ty0 : Nat → FieldType) (hd : decode cc pc = .ok (.putfield i, 3)) (hc : cl[ci]? = some (C0, T, N)) (hk : k < N) (hlay : ∀ w ∈ u_ws C0 T N, w ∈ ALL) (hty : ∀ k, k < N → parseFieldDescriptor (T k).2.2.1 = some (ty0 k)) (hnm : ∀ a, a < N → ∀ b, b < N → a ≠ b → (T a).2.1 ≠ (T b).2.1) (hfin : (T k).2.2.2 = false) (hp0 : parseFieldDescriptor (T k).2.2.1 = some .boolean) (v1 : Cond.fieldLink own i (T k).1 (T k).2.1 (T k).2.2.1 ∈ ALL) : qx_Sw cl shC vC vN vD st ALL mi own isI cc nL rt pc (qx_putZ ci k) := by
  intro C d Ts D sd A p l e R s m args below meth c n0 w0 n1 w1 ad0 cs0 Q hC F ρ ls stk H hρ h ad cs HH locs arr hI hL
  obtain ⟨⟨hx, hb, hml, hown, hts⟩, hall, hKC, hSF, hin, hfr, hlo, hnc, hns, hA⟩ := F
  unfold qx_putZ at h
  dsimp only at h
  split at h
  · rename_i v o r
    split at h
    · rename_i qz
      have h : qx_app C ρ (qx_P cl shC D sd A p l e R s m args below meth c nL n0 w0 n1 w1 ad0 cs0 Q) (match hp_put H o ci k (.int v) with | some H' => some (.inl (pc + 3, ls, r, H')) | none => none) := h
      split at h
      · rename_i H' hg
        obtain ⟨fs, h1, h2, rfl⟩ := hp_put_set hg
        refine va_put (D := D) (ci := ci) (v := qx_v sd ad (.int v)) (ty := .boolean) (C := C0) (T := T) (N := N) hx hb hts (fun w q => hall w (hlay w q)) ty0 hty hnm hown (qx_K0 hKC) hI.2.1.1 hI.2.1.2.1 hI.2.2 o (qx_ws_get h1) hc k hk (hts _ (hall _ v1)) (fun _ h9 => h9) hfin  hp0 (by rcases qz with rfl | rfl <;> rfl) (by rcases qz with rfl | rfl <;> rfl) (by rw [List.length_map]; exact h2) hd (fun HH1 locs1 hP hD hS => ?_)
        rw [← List.map_set] at hP hD
        exact qx_P_set h hI hL h1 rfl (by simp [qx_sz]) hP hD hS
      · exact h.elim
    · exact h.elim
  · exact h.elim
theorem qs_putR {i ci k N : Nat} {C0 : String} {T : u_T} {ty : FieldType} (hn0 : ∀ a, narrow ty (.ref a) = .ref a) (hf0 : ∀ a, fits ty (.ref a) = true) (ty0 : Nat → FieldType) (hd : decode cc pc = .ok (.putfield i, 3)) (hc : cl[ci]? = some (C0, T, N)) (hk : k < N) (hlay : ∀ w ∈ u_ws C0 T N, w ∈ ALL) (hty : ∀ k, k < N → parseFieldDescriptor (T k).2.2.1 = some (ty0 k)) (hnm : ∀ a, a < N → ∀ b, b < N → a ≠ b → (T a).2.1 ≠ (T b).2.1) (hfin : (T k).2.2.2 = false) (hp0 : parseFieldDescriptor (T k).2.2.1 = some ty) (v1 : Cond.fieldLink own i (T k).1 (T k).2.1 (T k).2.2.1 ∈ ALL) : qx_Sw cl shC vC vN vD st ALL mi own isI cc nL rt pc (qx_putR ci k) := by
  intro C d Ts D sd A p l e R s m args below meth c n0 w0 n1 w1 ad0 cs0 Q hC F ρ ls stk H hρ h ad cs HH locs arr hI hL
  obtain ⟨⟨hx, hb, hml, hown, hts⟩, hall, hKC, hSF, hin, hfr, hlo, hnc, hns, hA⟩ := F
  unfold qx_putR at h
  dsimp only at h
  split at h
  · rename_i v o r
    have h : qx_app C ρ (qx_P cl shC D sd A p l e R s m args below meth c nL n0 w0 n1 w1 ad0 cs0 Q) (match hp_put H o ci k (.ref v) with | some H' => some (.inl (pc + 3, ls, r, H')) | none => none) := h
    split at h
    · rename_i H' hg
      obtain ⟨fs, h1, h2, rfl⟩ := hp_put_set hg
      refine va_put (D := D) (ci := ci) (v := qx_v sd ad (.ref v)) (ty := ty) (C := C0) (T := T) (N := N) hx hb hts (fun w q => hall w (hlay w q)) ty0 hty hnm hown (qx_K0 hKC) hI.2.1.1 hI.2.1.2.1 hI.2.2 o (qx_ws_get h1) hc k hk (hts _ (hall _ v1)) (fun _ h9 => h9) hfin  hp0 (hn0 _) (hf0 _) (by rw [List.length_map]; exact h2) hd (fun HH1 locs1 hP hD hS => ?_)
      rw [← List.map_set] at hP hD
      exact qx_P_set h hI hL h1 rfl (by simp [qx_sz]) hP hD hS
    · exact h.elim
  · exact h.elim
theorem qs_putFI {i ci k N : Nat} {C0 : String} {T : u_T} (ty0 : Nat → FieldType) (hd : decode cc pc = .ok (.putfield i, 3)) (hc : cl[ci]? = some (C0, T, N)) (hk : k < N) (hlay : ∀ w ∈ u_ws C0 T N, w ∈ ALL) (hty : ∀ k, k < N → parseFieldDescriptor (T k).2.2.1 = some (ty0 k)) (hnm : ∀ a, a < N → ∀ b, b < N → a ≠ b → (T a).2.1 ≠ (T b).2.1) (hfin : (T k).2.2.2 = true) (h0 : isI = true) (hown0 : (T k).1 = own) (hp0 : parseFieldDescriptor (T k).2.2.1 = some .int) (v1 : Cond.fieldLink own i (T k).1 (T k).2.1 (T k).2.2.1 ∈ ALL) : qx_Sw cl shC vC vN vD st ALL mi own isI cc nL rt pc (qx_putI ci k) := by
  intro C d Ts D sd A p l e R s m args below meth c n0 w0 n1 w1 ad0 cs0 Q hC F ρ ls stk H hρ h ad cs HH locs arr hI hL
  obtain ⟨⟨hx, hb, hml, hown, hts⟩, hall, hKC, hSF, hin, hfr, hlo, hnc, hns, hA⟩ := F
  unfold qx_putI at h
  dsimp only at h
  split at h
  · rename_i v o r
    have h : qx_app C ρ (qx_P cl shC D sd A p l e R s m args below meth c nL n0 w0 n1 w1 ad0 cs0 Q) (match hp_put H o ci k (.int v) with | some H' => some (.inl (pc + 3, ls, r, H')) | none => none) := h
    split at h
    · rename_i H' hg
      obtain ⟨fs, h1, h2, rfl⟩ := hp_put_set hg
      refine va_putF (D := D) (ci := ci) (v := qx_v sd ad (.int v)) (ty := .int) (C := C0) (T := T) (N := N) hx hb hts (fun w q => hall w (hlay w q)) ty0 hty hnm hown (qx_K0 hKC) hI.2.1.1 hI.2.1.2.1 hI.2.2 o (qx_ws_get h1) hc k hk (hts _ (hall _ v1)) (fun _ h9 => h9) hfin (hin h0) hown0 hp0 rfl rfl (by rw [List.length_map]; exact h2) hd (fun HH1 locs1 hP hD hS => ?_)
      rw [← List.map_set] at hP hD
      exact qx_P_set h hI hL h1 rfl (by simp [qx_sz]) hP hD hS
    · exact h.elim
  · exact h.elim
theorem qs_putFZ {i ci k N : Nat} {C0 : String} {T : u_T} (ty0 : Nat → FieldType) (hd : decode cc pc = .ok (.putfield i, 3)) (hc : cl[ci]? = some (C0, T, N)) (hk : k < N) (hlay : ∀ w ∈ u_ws C0 T N, w ∈ ALL) (hty : ∀ k, k < N → parseFieldDescriptor (T k).2.2.1 = some (ty0 k)) (hnm : ∀ a, a < N → ∀ b, b < N → a ≠ b → (T a).2.1 ≠ (T b).2.1) (hfin : (T k).2.2.2 = true) (h0 : isI = true) (hown0 : (T k).1 = own) (hp0 : parseFieldDescriptor (T k).2.2.1 = some .boolean) (v1 : Cond.fieldLink own i (T k).1 (T k).2.1 (T k).2.2.1 ∈ ALL) : qx_Sw cl shC vC vN vD st ALL mi own isI cc nL rt pc (qx_putZ ci k) := by
  intro C d Ts D sd A p l e R s m args below meth c n0 w0 n1 w1 ad0 cs0 Q hC F ρ ls stk H hρ h ad cs HH locs arr hI hL
  obtain ⟨⟨hx, hb, hml, hown, hts⟩, hall, hKC, hSF, hin, hfr, hlo, hnc, hns, hA⟩ := F
  unfold qx_putZ at h
  dsimp only at h
  split at h
  · rename_i v o r
    split at h
    · rename_i qz
      have h : qx_app C ρ (qx_P cl shC D sd A p l e R s m args below meth c nL n0 w0 n1 w1 ad0 cs0 Q) (match hp_put H o ci k (.int v) with | some H' => some (.inl (pc + 3, ls, r, H')) | none => none) := h
      split at h
      · rename_i H' hg
        obtain ⟨fs, h1, h2, rfl⟩ := hp_put_set hg
        refine va_putF (D := D) (ci := ci) (v := qx_v sd ad (.int v)) (ty := .boolean) (C := C0) (T := T) (N := N) hx hb hts (fun w q => hall w (hlay w q)) ty0 hty hnm hown (qx_K0 hKC) hI.2.1.1 hI.2.1.2.1 hI.2.2 o (qx_ws_get h1) hc k hk (hts _ (hall _ v1)) (fun _ h9 => h9) hfin (hin h0) hown0 hp0 (by rcases qz with rfl | rfl <;> rfl) (by rcases qz with rfl | rfl <;> rfl) (by rw [List.length_map]; exact h2) hd (fun HH1 locs1 hP hD hS => ?_)
        rw [← List.map_set] at hP hD
        exact qx_P_set h hI hL h1 rfl (by simp [qx_sz]) hP hD hS
      · exact h.elim
    · exact h.elim
  · exact h.elim
theorem qs_putFR {i ci k N : Nat} {C0 : String} {T : u_T} {ty : FieldType} (hn0 : ∀ a, narrow ty (.ref a) = .ref a) (hf0 : ∀ a, fits ty (.ref a) = true) (ty0 : Nat → FieldType) (hd : decode cc pc = .ok (.putfield i, 3)) (hc : cl[ci]? = some (C0, T, N)) (hk : k < N) (hlay : ∀ w ∈ u_ws C0 T N, w ∈ ALL) (hty : ∀ k, k < N → parseFieldDescriptor (T k).2.2.1 = some (ty0 k)) (hnm : ∀ a, a < N → ∀ b, b < N → a ≠ b → (T a).2.1 ≠ (T b).2.1) (hfin : (T k).2.2.2 = true) (h0 : isI = true) (hown0 : (T k).1 = own) (hp0 : parseFieldDescriptor (T k).2.2.1 = some ty) (v1 : Cond.fieldLink own i (T k).1 (T k).2.1 (T k).2.2.1 ∈ ALL) : qx_Sw cl shC vC vN vD st ALL mi own isI cc nL rt pc (qx_putR ci k) := by
  intro C d Ts D sd A p l e R s m args below meth c n0 w0 n1 w1 ad0 cs0 Q hC F ρ ls stk H hρ h ad cs HH locs arr hI hL
  obtain ⟨⟨hx, hb, hml, hown, hts⟩, hall, hKC, hSF, hin, hfr, hlo, hnc, hns, hA⟩ := F
  unfold qx_putR at h
  dsimp only at h
  split at h
  · rename_i v o r
    have h : qx_app C ρ (qx_P cl shC D sd A p l e R s m args below meth c nL n0 w0 n1 w1 ad0 cs0 Q) (match hp_put H o ci k (.ref v) with | some H' => some (.inl (pc + 3, ls, r, H')) | none => none) := h
    split at h
    · rename_i H' hg
      obtain ⟨fs, h1, h2, rfl⟩ := hp_put_set hg
      refine va_putF (D := D) (ci := ci) (v := qx_v sd ad (.ref v)) (ty := ty) (C := C0) (T := T) (N := N) hx hb hts (fun w q => hall w (hlay w q)) ty0 hty hnm hown (qx_K0 hKC) hI.2.1.1 hI.2.1.2.1 hI.2.2 o (qx_ws_get h1) hc k hk (hts _ (hall _ v1)) (fun _ h9 => h9) hfin (hin h0) hown0 hp0 (hn0 _) (hf0 _) (by rw [List.length_map]; exact h2) hd (fun HH1 locs1 hP hD hS => ?_)
      rw [← List.map_set] at hP hD
      exact qx_P_set h hI hL h1 rfl (by simp [qx_sz]) hP hD hS
    · exact h.elim
  · exact h.elim
theorem qs_putNI {i ci k N : Nat} {C0 : String} {T : u_T} {host : String} (ty0 : Nat → FieldType) (hd : decode cc pc = .ok (.putfield i, 3)) (hc : cl[ci]? = some (C0, T, N)) (hk : k < N) (hlay : ∀ w ∈ u_ws C0 T N, w ∈ ALL) (hty : ∀ k, k < N → parseFieldDescriptor (T k).2.2.1 = some (ty0 k)) (hnm : ∀ a, a < N → ∀ b, b < N → a ≠ b → (T a).2.1 ≠ (T b).2.1) (hfin : (T k).2.2.2 = false) (hp0 : parseFieldDescriptor (T k).2.2.1 = some .int) (v1 : Cond.fieldLinkNest own i (T k).1 (T k).2.1 (T k).2.2.1 host ∈ ALL) : qx_Sw cl shC vC vN vD st ALL mi own isI cc nL rt pc (qx_putI ci k) := by
  intro C d Ts D sd A p l e R s m args below meth c n0 w0 n1 w1 ad0 cs0 Q hC F ρ ls stk H hρ h ad cs HH locs arr hI hL
  obtain ⟨⟨hx, hb, hml, hown, hts⟩, hall, hKC, hSF, hin, hfr, hlo, hnc, hns, hA⟩ := F
  unfold qx_putI at h
  dsimp only at h
  split at h
  · rename_i v o r
    have h : qx_app C ρ (qx_P cl shC D sd A p l e R s m args below meth c nL n0 w0 n1 w1 ad0 cs0 Q) (match hp_put H o ci k (.int v) with | some H' => some (.inl (pc + 3, ls, r, H')) | none => none) := h
    split at h
    · rename_i H' hg
      obtain ⟨fs, h1, h2, rfl⟩ := hp_put_set hg
      refine va_putN (D := D) (ci := ci) (v := qx_v sd ad (.int v)) (ty := .int) (C := C0) (T := T) (N := N) hx hb hts (fun w q => hall w (hlay w q)) ty0 hty hnm hown (qx_K0 hKC) hI.2.1.1 hI.2.1.2.1 hI.2.2 o (qx_ws_get h1) hc k hk (hts _ (hall _ v1)) (fun _ h9 => h9) hfin  hp0 rfl rfl (by rw [List.length_map]; exact h2) hd (fun HH1 locs1 hP hD hS => ?_)
      rw [← List.map_set] at hP hD
      exact qx_P_set h hI hL h1 rfl (by simp [qx_sz]) hP hD hS
    · exact h.elim
  · exact h.elim
theorem qs_putNZ {i ci k N : Nat} {C0 : String} {T : u_T} {host : String} (ty0 : Nat → FieldType) (hd : decode cc pc = .ok (.putfield i, 3)) (hc : cl[ci]? = some (C0, T, N)) (hk : k < N) (hlay : ∀ w ∈ u_ws C0 T N, w ∈ ALL) (hty : ∀ k, k < N → parseFieldDescriptor (T k).2.2.1 = some (ty0 k)) (hnm : ∀ a, a < N → ∀ b, b < N → a ≠ b → (T a).2.1 ≠ (T b).2.1) (hfin : (T k).2.2.2 = false) (hp0 : parseFieldDescriptor (T k).2.2.1 = some .boolean) (v1 : Cond.fieldLinkNest own i (T k).1 (T k).2.1 (T k).2.2.1 host ∈ ALL) : qx_Sw cl shC vC vN vD st ALL mi own isI cc nL rt pc (qx_putZ ci k) := by
  intro C d Ts D sd A p l e R s m args below meth c n0 w0 n1 w1 ad0 cs0 Q hC F ρ ls stk H hρ h ad cs HH locs arr hI hL
  obtain ⟨⟨hx, hb, hml, hown, hts⟩, hall, hKC, hSF, hin, hfr, hlo, hnc, hns, hA⟩ := F
  unfold qx_putZ at h
  dsimp only at h
  split at h
  · rename_i v o r
    split at h
    · rename_i qz
      have h : qx_app C ρ (qx_P cl shC D sd A p l e R s m args below meth c nL n0 w0 n1 w1 ad0 cs0 Q) (match hp_put H o ci k (.int v) with | some H' => some (.inl (pc + 3, ls, r, H')) | none => none) := h
      split at h
      · rename_i H' hg
        obtain ⟨fs, h1, h2, rfl⟩ := hp_put_set hg
        refine va_putN (D := D) (ci := ci) (v := qx_v sd ad (.int v)) (ty := .boolean) (C := C0) (T := T) (N := N) hx hb hts (fun w q => hall w (hlay w q)) ty0 hty hnm hown (qx_K0 hKC) hI.2.1.1 hI.2.1.2.1 hI.2.2 o (qx_ws_get h1) hc k hk (hts _ (hall _ v1)) (fun _ h9 => h9) hfin  hp0 (by rcases qz with rfl | rfl <;> rfl) (by rcases qz with rfl | rfl <;> rfl) (by rw [List.length_map]; exact h2) hd (fun HH1 locs1 hP hD hS => ?_)
        rw [← List.map_set] at hP hD
        exact qx_P_set h hI hL h1 rfl (by simp [qx_sz]) hP hD hS
      · exact h.elim
    · exact h.elim
  · exact h.elim
theorem qs_putNR {i ci k N : Nat} {C0 : String} {T : u_T} {host : String} {ty : FieldType} (hn0 : ∀ a, narrow ty (.ref a) = .ref a) (hf0 : ∀ a, fits ty (.ref a) = true) (ty0 : Nat → FieldType) (hd : decode cc pc = .ok (.putfield i, 3)) (hc : cl[ci]? = some (C0, T, N)) (hk : k < N) (hlay : ∀ w ∈ u_ws C0 T N, w ∈ ALL) (hty : ∀ k, k < N → parseFieldDescriptor (T k).2.2.1 = some (ty0 k)) (hnm : ∀ a, a < N → ∀ b, b < N → a ≠ b → (T a).2.1 ≠ (T b).2.1) (hfin : (T k).2.2.2 = false) (hp0 : parseFieldDescriptor (T k).2.2.1 = some ty) (v1 : Cond.fieldLinkNest own i (T k).1 (T k).2.1 (T k).2.2.1 host ∈ ALL) : qx_Sw cl shC vC vN vD st ALL mi own isI cc nL rt pc (qx_putR ci k) := by
  intro C d Ts D sd A p l e R s m args below meth c n0 w0 n1 w1 ad0 cs0 Q hC F ρ ls stk H hρ h ad cs HH locs arr hI hL
  obtain ⟨⟨hx, hb, hml, hown, hts⟩, hall, hKC, hSF, hin, hfr, hlo, hnc, hns, hA⟩ := F
  unfold qx_putR at h
  dsimp only at h
  split at h
  · rename_i v o r
    have h : qx_app C ρ (qx_P cl shC D sd A p l e R s m args below meth c nL n0 w0 n1 w1 ad0 cs0 Q) (match hp_put H o ci k (.ref v) with | some H' => some (.inl (pc + 3, ls, r, H')) | none => none) := h
    split at h
    · rename_i H' hg
      obtain ⟨fs, h1, h2, rfl⟩ := hp_put_set hg
      refine va_putN (D := D) (ci := ci) (v := qx_v sd ad (.ref v)) (ty := ty) (C := C0) (T := T) (N := N) hx hb hts (fun w q => hall w (hlay w q)) ty0 hty hnm hown (qx_K0 hKC) hI.2.1.1 hI.2.1.2.1 hI.2.2 o (qx_ws_get h1) hc k hk (hts _ (hall _ v1)) (fun _ h9 => h9) hfin  hp0 (hn0 _) (hf0 _) (by rw [List.length_map]; exact h2) hd (fun HH1 locs1 hP hD hS => ?_)
      rw [← List.map_set] at hP hD
      exact qx_P_set h hI hL h1 rfl (by simp [qx_sz]) hP hD hS
    · exact h.elim
  · exact h.elim
theorem qs_gst {i : Nat} (hd : decode cc pc = .ok (.getstatic i, 3)) (v1 : Cond.fieldLink own i vC vN vD ∈ ALL) : qx_Sw cl shC vC vN vD st ALL mi own isI cc nL rt pc qx_gst := by
  intro C d Ts D sd A p l e R s m args below meth c n0 w0 n1 w1 ad0 cs0 Q hC F ρ ls stk H hρ h ad cs HH locs arr hI hL
  obtain ⟨⟨hx, hb, hml, hown, hts⟩, hall, hKC, hSF, hin, hfr, hlo, hnc, hns, hA⟩ := F
  have h : qx_P cl shC D sd A p l e R s m args below meth c nL n0 w0 n1 w1 ad0 cs0 Q (pc + 3, ls, .float 0 :: stk, H) := h
  exact va_gets hx hb hSF.2 hI.2.2 hown (hts _ (hall _ v1)) (fun _ h9 => h9) hd (h.2 ad cs HH locs arr hI hL)
theorem qs_iald (hd : decode cc pc = .ok (.iaload, 1)) : qx_Sw cl shC vC vN vD st ALL mi own isI cc nL rt pc (qx_iald st) := by
  intro C d Ts D sd A p l e R s m args below meth c n0 w0 n1 w1 ad0 cs0 Q hC F ρ ls stk H hρ h ad cs HH locs arr hI hL
  obtain ⟨⟨hx, hb, hml, hown, hts⟩, hall, hKC, hSF, hin, hfr, hlo, hnc, hns, hA⟩ := F
  unfold qx_iald at h
  dsimp only at h
  split at h
  · rename_i i a r
    split at h
    · rename_i x hg
      obtain ⟨n, f, h1, h2, rfl⟩ := hp_ald_get hg
      exact va_iald hx hb (qx_K1 hKC hI.2.1 h1 rfl) hI.2.1.1 a 0 (qx_ws_get h1) rfl h2 hd (h.2 ad cs HH locs arr hI hL)
    · exact h.elim
  · rename_i i a r
    split at h
    · rename_i x n f hg
      split at h
      · exact h.elim
      · rename_i q
        exact va_ti hx hb (hSF.1 _ _ _ hg) hI.2.2 q rfl hd (h.2 ad cs HH locs arr hI hL)
    · exact h.elim
  · exact h.elim
theorem qs_alen (hd : decode cc pc = .ok (.arraylength, 1)) : qx_Sw cl shC vC vN vD st ALL mi own isI cc nL rt pc (qx_alen st) := by
  intro C d Ts D sd A p l e R s m args below meth c n0 w0 n1 w1 ad0 cs0 Q hC F ρ ls stk H hρ h ad cs HH locs arr hI hL
  obtain ⟨⟨hx, hb, hml, hown, hts⟩, hall, hKC, hSF, hin, hfr, hlo, hnc, hns, hA⟩ := F
  unfold qx_alen at h
  dsimp only at h
  split at h
  · rename_i a r
    split at h
    · rename_i x hg
      obtain ⟨n, f, h1, rfl⟩ := hp_len_get hg
      exact va_alen hx hb (qx_K1 hKC hI.2.1 h1 rfl) hI.2.1.1 a 0 (qx_ws_get h1) rfl rfl hd (h.2 ad cs HH locs arr hI hL)
    · exact h.elim
  · rename_i a r
    split at h
    · rename_i n f hg
      exact va_tlen hx hb (hSF.1 _ _ _ hg) hI.2.2 rfl hd (h.2 ad cs HH locs arr hI hL)
    · exact h.elim
  · exact h.elim
theorem qs_iast (hd : decode cc pc = .ok (.iastore, 1)) : qx_Sw cl shC vC vN vD st ALL mi own isI cc nL rt pc qx_iast := by
  intro C d Ts D sd A p l e R s m args below meth c n0 w0 n1 w1 ad0 cs0 Q hC F ρ ls stk H hρ h ad cs HH locs arr hI hL
  obtain ⟨⟨hx, hb, hml, hown, hts⟩, hall, hKC, hSF, hin, hfr, hlo, hnc, hns, hA⟩ := F
  unfold qx_iast at h
  dsimp only at h
  split at h
  · rename_i x i a r
    split at h
    · rename_i H' hg
      obtain ⟨n, f, h1, h2, rfl⟩ := hp_ast_set hg
      exact va_iast hx hb (qx_K1 hKC hI.2.1 h1 rfl) hI.2.1.1 hI.2.1.2.1 hI.2.2 a 0 (qx_ws_get h1) rfl h2 hd (fun HH1 locs1 hP hD hS => qx_P_set h hI hL h1 rfl rfl hP hD hS)
    · exact h.elim
  · exact h.elim
theorem qs_aald (hd : decode cc pc = .ok (.aaload, 1)) : qx_Sw cl shC vC vN vD st ALL mi own isI cc nL rt pc qx_aald := by
  intro C d Ts D sd A p l e R s m args below meth c n0 w0 n1 w1 ad0 cs0 Q hC F ρ ls stk H hρ h ad cs HH locs arr hI hL
  obtain ⟨⟨hx, hb, hml, hown, hts⟩, hall, hKC, hSF, hin, hfr, hlo, hnc, hns, hA⟩ := F
  unfold qx_aald at h
  dsimp only at h
  split at h
  · rename_i i a r
    split at h
    · rename_i x hg
      obtain ⟨n, f, h1, h2, h3⟩ := hp_ra_get hg
      have k := (h.2 ad cs HH locs arr hI hL)
      refine va_aldq hx hb (qx_K1 hKC hI.2.1 h1 rfl) hI.2.1.1 a 0 (qx_ws_get h1) rfl h2 hd ?_
      have e1 : qx_ra ad n f i.toNatClampNeg = some (ad x) := by
        have : i.toNatClampNeg < n := Nat.lt_of_not_le fun z => h2 (Or.inr z)
        simp only [qx_ra, if_pos this, h3, Option.map_some]
      rw [e1]
      exact k
    · exact h.elim
  · exact h.elim
theorem qs_aast {ci N : Nat} {T : u_T} (hd : decode cc pc = .ok (.aastore, 1)) (hc : cl[ci]? = some (shC, T, N)) : qx_Sw cl shC vC vN vD st ALL mi own isI cc nL rt pc (qx_aast ci) := by
  intro C d Ts D sd A p l e R s m args below meth c n0 w0 n1 w1 ad0 cs0 Q hC F ρ ls stk H hρ h ad cs HH locs arr hI hL
  obtain ⟨⟨hx, hb, hml, hown, hts⟩, hall, hKC, hSF, hin, hfr, hlo, hnc, hns, hA⟩ := F
  unfold qx_aast at h
  dsimp only at h
  split at h
  · rename_i v i a r
    split at h
    · rename_i H' hg
      obtain ⟨n, f, fs, h1, h3, h2, rfl⟩ := hp_rast_set hg
      refine va_astq hx hb (qx_K1 hKC hI.2.1 h1 rfl) hI.2.1.1 hI.2.1.2.1 hI.2.2 a 0 v ci (qx_ws_get h1) rfl (qx_ws_get h3) hc h2 hd (fun HH1 locs1 hP hD hS => ?_)
      have e1 : va_up (qx_ra ad n f) i.toNatClampNeg (some (ad v)) = qx_ra ad n (va_up f i.toNatClampNeg (some v)) := by
        funext j
        have : i.toNatClampNeg < n := Nat.lt_of_not_le fun z => h2 (Or.inr z)
        simp only [qx_ra, va_up]
        by_cases e : j = i.toNatClampNeg
        · subst e
          simp [this]
        · simp [e]
      rw [e1] at hP hD
      exact qx_P_set h hI hL h1 rfl rfl hP hD hS
    · exact h.elim
  · exact h.elim
theorem qs_cpy {i : Nat} (hd : decode cc pc = .ok (.invokestatic i, 3)) (v1 : Cond.methodLink own i arraycopyName ∈ ALL) (v2 : Cond.native arraycopyName ∈ ALL) (v3 : Cond.static arraycopyName ∈ ALL) (v4 : Cond.initialized "java/lang/System" ∈ ALL) : qx_Sw cl shC vC vN vD st ALL mi own isI cc nL rt pc qx_cpy := by
  intro C d Ts D sd A p l e R s m args below meth c n0 w0 n1 w1 ad0 cs0 Q hC F ρ ls stk H hρ h ad cs HH locs arr hI hL
  obtain ⟨⟨hx, hb, hml, hown, hts⟩, hall, hKC, hSF, hin, hfr, hlo, hnc, hns, hA⟩ := F
  unfold qx_cpy at h
  dsimp only at h
  split at h
  · split at h
    · rename_i n j b i a r q
      split at h
      · rename_i H' hg
        obtain ⟨n0', n1', f, g, h1, h2, h3, h4, h5, h6, h7, rfl⟩ := hp_cpy_set hg
        have hK2 : va_K D cl [(cs a, .int), (cs b, .int)] s := va_K.app (qx_K1 hKC hI.2.1 h1 rfl) (qx_K1 hKC hI.2.1 h2 rfl)
        exact va_copyi hx hb (by rw [hml]; exact hL.1.symm) hown (hts _ (hall _ v1)) (hts _ (hall _ v2)) (hts _ (hall _ v3)) (hts _ (hall _ v4)) hK2 hI.2.1.1 hI.2.1.2.1 hI.2.2 a b 0 1 (qx_ws_get h1) (qx_ws_get h2) rfl rfl rfl h3 h4 h5 h6 h7 (fun _ _ => rfl) (by omega) (by
          rw [qx_cats]
          have e2 : nativeFrameWords "java/lang/System" "arraycopy" 5 + 11 ≤ 30 := by decide +kernel
          omega) hd (fun HH1 locs1 hP hD hS => qx_P_set h hI hL h2 rfl rfl hP hD hS)
      · exact h.elim
    · exact h.elim
  · exact h.elim
theorem qs_newa (hd : decode cc pc = .ok (.newarray .int, 2)) (v1 : Cond.arrayClass .int ∈ ALL) : qx_Sw cl shC vC vN vD st ALL mi own isI cc nL rt pc qx_newa := by
  intro C d Ts D sd A p l e R s m args below meth c n0 w0 n1 w1 ad0 cs0 Q hC F ρ ls stk H hρ h ad cs HH locs arr hI hL
  obtain ⟨⟨hx, hb, hml, hown, hts⟩, hall, hKC, hSF, hin, hfr, hlo, hnc, hns, hA⟩ := F
  unfold qx_newa at h
  dsimp only at h
  split at h
  · split at h
    · exact h.elim
    · split at h
      · rename_i n r q hok
        simp only [not_or, Nat.not_lt] at q
        have b1 := h.1
        have g := hI.1
        have b2 : H.length + 1 ≤ n1 := by simpa using b1.1
        have b3 : qx_wt H + n.toNatClampNeg ≤ w1 := by have := b1.2; rw [qx_wt_push] at this; exact this
        have hb4 : n.toNatClampNeg * componentBytes .int ≤ 536870912 := by
          have e4 : componentBytes .int = 4 := rfl
          rw [e4]
          omega
        refine va_newa (atype := .int) hx hb (hts _ (hall _ v1)) (ty := .int) rfl (qx_K0 hKC) hI.2.1.1 hI.2.1.2.1 hI.2.2 hA (N' := n.toNatClampNeg) (a0 := (n.toNatClampNeg, .inl fun _ => 0)) (fun _ => rfl) q.1 rfl hb4 (by omega) (by omega) hd (fun q0 cA HH1 hK hP hD hS => ?_)
        exact qx_P_push (cA := cA) h hI hL hok (fun _ => rfl) (fun ty ht => by cases ht; exact hK.2 0 _ rfl) hP hD hS
      · exact h.elim
  · exact h.elim
theorem qs_newq {i : Nat} (hd : decode cc pc = .ok (.anewarray i, 3)) (v1 : Cond.classLink own i shC ∈ ALL) (v2 : Cond.arrayOver (.object shC) ∈ ALL) : qx_Sw cl shC vC vN vD st ALL mi own isI cc nL rt pc qx_newq := by
  intro C d Ts D sd A p l e R s m args below meth c n0 w0 n1 w1 ad0 cs0 Q hC F ρ ls stk H hρ h ad cs HH locs arr hI hL
  obtain ⟨⟨hx, hb, hml, hown, hts⟩, hall, hKC, hSF, hin, hfr, hlo, hnc, hns, hA⟩ := F
  unfold qx_newq at h
  dsimp only at h
  split at h
  · split at h
    · exact h.elim
    · split at h
      · rename_i n r q hok
        simp only [not_or, Nat.not_lt] at q
        have b1 := h.1
        have g := hI.1
        have b2 : H.length + 1 ≤ n1 := by simpa using b1.1
        have b3 : qx_wt H + n.toNatClampNeg ≤ w1 := by have := b1.2; rw [qx_wt_push] at this; exact this
        refine va_newq hx hb hown (hts _ (hall _ v1)) (va_AO.of (hts _ (hall _ v2))) (qx_K0 hKC) hI.2.1.1 hI.2.1.2.1 hI.2.2 hA q.1 rfl (by omega) (by omega) (by omega) hd (fun q0 cA HH1 hK hP hD hS => ?_)
        have e1 : ∀ ad', qx_ce sd ad' cA (.inl (n.toNatClampNeg, .inr (.inr (.inr (.inr fun _ => none))))) = .inl (cA, n.toNatClampNeg, .inr (.inr (.inr (.inr fun _ => none)))) := by
          intro ad'
          have : qx_ra ad' n.toNatClampNeg (fun _ => none) = fun _ => none := by funext j; simp [qx_ra]
          simp only [qx_ce, this]
        refine qx_P_push (cA := cA) h hI hL hok (fun _ => by rw [e1, e1]) (fun ty ht => by cases ht; exact hK.2 0 _ rfl) ?_ ?_ hS
        · rw [e1]; exact hP
        · rw [e1]; exact hD
      · exact h.elim
  · exact h.elim
theorem qs_new {i ci N : Nat} {C0 : String} {T : u_T} {fs : List Value} (ty0 : Nat → FieldType) (hd : decode cc pc = .ok (.new i, 3)) (hc : cl[ci]? = some (C0, T, N)) (hlay : ∀ w ∈ u_ws C0 T N, w ∈ ALL) (hty : ∀ k, k < N → parseFieldDescriptor (T k).2.2.1 = some (ty0 k)) (v1 : Cond.classLink own i C0 ∈ ALL) (v2 : Cond.instantiable C0 N ∈ ALL) (v3 : Cond.initialized C0 ∈ ALL) (hfs : ∀ j, j < N → defaultValue (ty0 j) = vp_V fs j) (hN : fs.length = N) (hm : ∀ sd ad, fs.map (qx_v sd ad) = fs) : qx_Sw cl shC vC vN vD st ALL mi own isI cc nL rt pc (qx_new ci fs) := by
  intro C d Ts D sd A p l e R s m args below meth c n0 w0 n1 w1 ad0 cs0 Q hC F ρ ls stk H hρ h ad cs HH locs arr hI hL
  obtain ⟨⟨hx, hb, hml, hown, hts⟩, hall, hKC, hSF, hin, hfr, hlo, hnc, hns, hA⟩ := F
  unfold qx_new at h
  dsimp only at h
  split at h
  · rename_i hok
    have b1 := h.1
    have g := hI.1
    have b2 : H.length + 1 ≤ n1 := by simpa using b1.1
    have b3 : qx_wt H + N ≤ w1 := by have := b1.2; rw [qx_wt_push] at this; simp only [qx_sz, hN] at this; exact this
    refine va_new (ci := ci) (fs := fs) (C := C0) (T := T) (N := N) hx hb hts (fun w q => hall w (hlay w q)) ty0 hty hown (hts _ (hall _ v1)) (hts _ (hall _ v2)) (hts _ (hall _ v3)) (qx_K0 hKC) hI.2.1.1 hI.2.1.2.1 hI.2.2 hA hc hfs (by omega) (by omega) hd (fun q0 HH1 hP hD hS => ?_)
    have e1 : ∀ ad', qx_ce sd ad' (0 : Nat) (.inr (ci, fs)) = .inr (ci, fs) := by
      intro ad'
      simp only [qx_ce, hm]
    have k := qx_P_push (cA := (0 : Nat)) (q := q0) h hI hL hok (fun _ => by rw [e1, e1]) (fun ty ht => by cases ht) (by rw [e1]; exact hP) (by rw [e1]; exact hD) hS
    simp only [qx_sz, hN] at k
    exact k
  · exact h.elim
end QH
