/-! EACH OPERATION IS SOUND FOR ITS INSTRUCTION -/
section QS
variable {cl : List vw_C} {shC vC vN vD : String} {st : UInt32 → Option (Nat × (Nat → Int32))} {ALL : List Cond} {mi : Nat → MethodName × ByteArray × Nat × Option FieldType} {own : String} {isI : Bool} {cc : ByteArray} {nL : Nat} {rt : Option FieldType} {pc : Nat}
theorem qs_no : qx_Sw cl shC vC vN vD st ALL mi own isI cc nL rt pc qx_no := by
  intro C d Ts D sd A p l e R s m args below meth c n0 w0 n1 w1 ad0 cs0 Q hC F ρ ls stk H hρ h ad cs HH locs arr hI hL
  obtain ⟨⟨hx, hb, hml, hown, hts⟩, hall, hKC, hSF, hin, hfr, hlo, hnc, hns, hA⟩ := F
  exact (show False from h).elim
theorem qs_iconst {n : Int} {v : Int32} (hd : decode cc pc = .ok (.iconst n, 1)) (hv : Int32.ofInt n = v) : qx_Sw cl shC vC vN vD st ALL mi own isI cc nL rt pc (qx_push 1 (.int v)) := by
  intro C d Ts D sd A p l e R s m args below meth c n0 w0 n1 w1 ad0 cs0 Q hC F ρ ls stk H hρ h ad cs HH locs arr hI hL
  obtain ⟨⟨hx, hb, hml, hown, hts⟩, hall, hKC, hSF, hin, hfr, hlo, hnc, hns, hA⟩ := F
  have h : qx_P cl shC D sd A p l e R s m args below meth c nL n0 w0 n1 w1 ad0 cs0 Q (pc + 1, ls, .int v :: stk, H) := h
  exact lv_iconst hx hb hd hv (h.2 ad cs HH locs arr hI hL)
theorem qs_bipush {n : Int} {v : Int32} (hd : decode cc pc = .ok (.bipush n, 2)) (hv : (Int8.ofInt n).toInt32 = v) : qx_Sw cl shC vC vN vD st ALL mi own isI cc nL rt pc (qx_push 2 (.int v)) := by
  intro C d Ts D sd A p l e R s m args below meth c n0 w0 n1 w1 ad0 cs0 Q hC F ρ ls stk H hρ h ad cs HH locs arr hI hL
  obtain ⟨⟨hx, hb, hml, hown, hts⟩, hall, hKC, hSF, hin, hfr, hlo, hnc, hns, hA⟩ := F
  have h : qx_P cl shC D sd A p l e R s m args below meth c nL n0 w0 n1 w1 ad0 cs0 Q (pc + 2, ls, .int v :: stk, H) := h
  exact lv_bipush hx hb hd hv (h.2 ad cs HH locs arr hI hL)
theorem qs_sipush {n : Int} {v : Int32} (hd : decode cc pc = .ok (.sipush n, 3)) (hv : (Int16.ofInt n).toInt32 = v) : qx_Sw cl shC vC vN vD st ALL mi own isI cc nL rt pc (qx_push 3 (.int v)) := by
  intro C d Ts D sd A p l e R s m args below meth c n0 w0 n1 w1 ad0 cs0 Q hC F ρ ls stk H hρ h ad cs HH locs arr hI hL
  obtain ⟨⟨hx, hb, hml, hown, hts⟩, hall, hKC, hSF, hin, hfr, hlo, hnc, hns, hA⟩ := F
  have h : qx_P cl shC D sd A p l e R s m args below meth c nL n0 w0 n1 w1 ad0 cs0 Q (pc + 3, ls, .int v :: stk, H) := h
  exact lv_sipush hx hb hd hv (h.2 ad cs HH locs arr hI hL)
theorem qs_lconst {n : Fin 2} {v : Int64} (hd : decode cc pc = .ok (.lconst n, 1)) (hv : Int64.ofNat (n : Nat) = v) : qx_Sw cl shC vC vN vD st ALL mi own isI cc nL rt pc (qx_push 1 (.long v)) := by
  intro C d Ts D sd A p l e R s m args below meth c n0 w0 n1 w1 ad0 cs0 Q hC F ρ ls stk H hρ h ad cs HH locs arr hI hL
  obtain ⟨⟨hx, hb, hml, hown, hts⟩, hall, hKC, hSF, hin, hfr, hlo, hnc, hns, hA⟩ := F
  have h : qx_P cl shC D sd A p l e R s m args below meth c nL n0 w0 n1 w1 ad0 cs0 Q (pc + 1, ls, .long v :: stk, H) := h
  exact lv_lconst hx hb hd hv (h.2 ad cs HH locs arr hI hL)
theorem qs_ldc {i : Nat} {v : Int32} (hd : decode cc pc = .ok (.ldc i, 2)) (hw : Cond.constant own i v ∈ ALL) : qx_Sw cl shC vC vN vD st ALL mi own isI cc nL rt pc (qx_push 2 (.int v)) := by
  intro C d Ts D sd A p l e R s m args below meth c n0 w0 n1 w1 ad0 cs0 Q hC F ρ ls stk H hρ h ad cs HH locs arr hI hL
  obtain ⟨⟨hx, hb, hml, hown, hts⟩, hall, hKC, hSF, hin, hfr, hlo, hnc, hns, hA⟩ := F
  have h : qx_P cl shC D sd A p l e R s m args below meth c nL n0 w0 n1 w1 ad0 cs0 Q (pc + 2, ls, .int v :: stk, H) := h
  exact lv_ldc hx hb hown (hts _ (hall _ hw)) hd (h.2 ad cs HH locs arr hI hL)
theorem qs_ldcw {i : Nat} {v : Int32} (hd : decode cc pc = .ok (.ldc_w i, 3)) (hw : Cond.constant own i v ∈ ALL) : qx_Sw cl shC vC vN vD st ALL mi own isI cc nL rt pc (qx_push 3 (.int v)) := by
  intro C d Ts D sd A p l e R s m args below meth c n0 w0 n1 w1 ad0 cs0 Q hC F ρ ls stk H hρ h ad cs HH locs arr hI hL
  obtain ⟨⟨hx, hb, hml, hown, hts⟩, hall, hKC, hSF, hin, hfr, hlo, hnc, hns, hA⟩ := F
  have h : qx_P cl shC D sd A p l e R s m args below meth c nL n0 w0 n1 w1 ad0 cs0 Q (pc + 3, ls, .int v :: stk, H) := h
  exact lv_ldcw hx hb hown (hts _ (hall _ hw)) hd (h.2 ad cs HH locs arr hI hL)
theorem qs_ldc2 {i : Nat} {v : Int64} (hd : decode cc pc = .ok (.ldc2_w i, 3)) (hw : Cond.constantLong own i v ∈ ALL) : qx_Sw cl shC vC vN vD st ALL mi own isI cc nL rt pc (qx_push 3 (.long v)) := by
  intro C d Ts D sd A p l e R s m args below meth c n0 w0 n1 w1 ad0 cs0 Q hC F ρ ls stk H hρ h ad cs HH locs arr hI hL
  obtain ⟨⟨hx, hb, hml, hown, hts⟩, hall, hKC, hSF, hin, hfr, hlo, hnc, hns, hA⟩ := F
  have h : qx_P cl shC D sd A p l e R s m args below meth c nL n0 w0 n1 w1 ad0 cs0 Q (pc + 3, ls, .long v :: stk, H) := h
  exact lv_ldc2 hx hb hown (hts _ (hall _ hw)) hd (h.2 ad cs HH locs arr hI hL)
theorem qs_iload {i : Nat} (hd : decode cc pc = .ok (.iload i, 2)) : qx_Sw cl shC vC vN vD st ALL mi own isI cc nL rt pc (qx_iload 2 i) := by
  intro C d Ts D sd A p l e R s m args below meth c n0 w0 n1 w1 ad0 cs0 Q hC F ρ ls stk H hρ h ad cs HH locs arr hI hL
  obtain ⟨⟨hx, hb, hml, hown, hts⟩, hall, hKC, hSF, hin, hfr, hlo, hnc, hns, hA⟩ := F
  unfold qx_iload at h
  dsimp only at h
  split at h
  · rename_i x heq
    exact lv_iload hx hb hd (hL.2.2.2 i _ heq) (h.2 ad cs HH locs arr hI hL)
  · exact h.elim
theorem qs_iload_n {i : Nat} {k : Fin 4} (hd : decode cc pc = .ok (.iload_n k, 1)) (hk : (k : Nat) = i) : qx_Sw cl shC vC vN vD st ALL mi own isI cc nL rt pc (qx_iload 1 i) := by
  intro C d Ts D sd A p l e R s m args below meth c n0 w0 n1 w1 ad0 cs0 Q hC F ρ ls stk H hρ h ad cs HH locs arr hI hL
  obtain ⟨⟨hx, hb, hml, hown, hts⟩, hall, hKC, hSF, hin, hfr, hlo, hnc, hns, hA⟩ := F
  unfold qx_iload at h
  dsimp only at h
  split at h
  · rename_i x heq
    exact lv_iload_n hx hb hd hk (hL.2.2.2 i _ heq) (h.2 ad cs HH locs arr hI hL)
  · exact h.elim
theorem qs_lload {i : Nat} (hd : decode cc pc = .ok (.lload i, 2)) : qx_Sw cl shC vC vN vD st ALL mi own isI cc nL rt pc (qx_lload 2 i) := by
  intro C d Ts D sd A p l e R s m args below meth c n0 w0 n1 w1 ad0 cs0 Q hC F ρ ls stk H hρ h ad cs HH locs arr hI hL
  obtain ⟨⟨hx, hb, hml, hown, hts⟩, hall, hKC, hSF, hin, hfr, hlo, hnc, hns, hA⟩ := F
  unfold qx_lload at h
  dsimp only at h
  split at h
  · rename_i x heq
    exact lv_lload hx hb hd (hL.2.2.2 i _ heq) (h.2 ad cs HH locs arr hI hL)
  · exact h.elim
theorem qs_lload_n {i : Nat} {k : Fin 4} (hd : decode cc pc = .ok (.lload_n k, 1)) (hk : (k : Nat) = i) : qx_Sw cl shC vC vN vD st ALL mi own isI cc nL rt pc (qx_lload 1 i) := by
  intro C d Ts D sd A p l e R s m args below meth c n0 w0 n1 w1 ad0 cs0 Q hC F ρ ls stk H hρ h ad cs HH locs arr hI hL
  obtain ⟨⟨hx, hb, hml, hown, hts⟩, hall, hKC, hSF, hin, hfr, hlo, hnc, hns, hA⟩ := F
  unfold qx_lload at h
  dsimp only at h
  split at h
  · rename_i x heq
    exact lv_lload_n hx hb hd hk (hL.2.2.2 i _ heq) (h.2 ad cs HH locs arr hI hL)
  · exact h.elim
theorem qs_aload {i : Nat} (hd : decode cc pc = .ok (.aload i, 2)) : qx_Sw cl shC vC vN vD st ALL mi own isI cc nL rt pc (qx_aload 2 i) := by
  intro C d Ts D sd A p l e R s m args below meth c n0 w0 n1 w1 ad0 cs0 Q hC F ρ ls stk H hρ h ad cs HH locs arr hI hL
  obtain ⟨⟨hx, hb, hml, hown, hts⟩, hall, hKC, hSF, hin, hfr, hlo, hnc, hns, hA⟩ := F
  unfold qx_aload at h
  dsimp only at h
  split at h
  · rename_i x heq
    exact lv_aload hx hb hd (hL.2.2.2 i _ heq) (h.2 ad cs HH locs arr hI hL)
  · rename_i x heq
    exact lv_aload hx hb hd (hL.2.2.2 i _ heq) (h.2 ad cs HH locs arr hI hL)
  · exact h.elim
theorem qs_aload_n {i : Nat} {k : Fin 4} (hd : decode cc pc = .ok (.aload_n k, 1)) (hk : (k : Nat) = i) : qx_Sw cl shC vC vN vD st ALL mi own isI cc nL rt pc (qx_aload 1 i) := by
  intro C d Ts D sd A p l e R s m args below meth c n0 w0 n1 w1 ad0 cs0 Q hC F ρ ls stk H hρ h ad cs HH locs arr hI hL
  obtain ⟨⟨hx, hb, hml, hown, hts⟩, hall, hKC, hSF, hin, hfr, hlo, hnc, hns, hA⟩ := F
  unfold qx_aload at h
  dsimp only at h
  split at h
  · rename_i x heq
    exact lv_aload_n hx hb hd hk (hL.2.2.2 i _ heq) (h.2 ad cs HH locs arr hI hL)
  · rename_i x heq
    exact lv_aload_n hx hb hd hk (hL.2.2.2 i _ heq) (h.2 ad cs HH locs arr hI hL)
  · exact h.elim
theorem qs_istore {i : Nat} (hd : decode cc pc = .ok (.istore i, 2)) : qx_Sw cl shC vC vN vD st ALL mi own isI cc nL rt pc (qx_istore 2 i) := by
  intro C d Ts D sd A p l e R s m args below meth c n0 w0 n1 w1 ad0 cs0 Q hC F ρ ls stk H hρ h ad cs HH locs arr hI hL
  obtain ⟨⟨hx, hb, hml, hown, hts⟩, hall, hKC, hSF, hin, hfr, hlo, hnc, hns, hA⟩ := F
  unfold qx_istore at h
  dsimp only at h
  split at h
  · split at h
    · rename_i x r hi
      exact lv_istore hx hb hd hL.has (by rw [← hL.2.1]; exact hi) rfl (fun arr' hl => h.2 ad cs HH locs arr' hI (qx_L.store (v := .int x) hL.2.1 hl))
    · exact h.elim
  · exact h.elim
theorem qs_istore_n {i : Nat} {k : Fin 4} (hd : decode cc pc = .ok (.istore_n k, 1)) (hk : (k : Nat) = i) : qx_Sw cl shC vC vN vD st ALL mi own isI cc nL rt pc (qx_istore 1 i) := by
  intro C d Ts D sd A p l e R s m args below meth c n0 w0 n1 w1 ad0 cs0 Q hC F ρ ls stk H hρ h ad cs HH locs arr hI hL
  obtain ⟨⟨hx, hb, hml, hown, hts⟩, hall, hKC, hSF, hin, hfr, hlo, hnc, hns, hA⟩ := F
  unfold qx_istore at h
  dsimp only at h
  split at h
  · split at h
    · rename_i x r hi
      exact lv_istore_n hx hb hd hk hL.has (by rw [← hL.2.1]; exact hi) rfl (fun arr' hl => h.2 ad cs HH locs arr' hI (qx_L.store (v := .int x) hL.2.1 hl))
    · exact h.elim
  · exact h.elim
theorem qs_astore {i : Nat} (hd : decode cc pc = .ok (.astore i, 2)) : qx_Sw cl shC vC vN vD st ALL mi own isI cc nL rt pc (qx_astore 2 i) := by
  intro C d Ts D sd A p l e R s m args below meth c n0 w0 n1 w1 ad0 cs0 Q hC F ρ ls stk H hρ h ad cs HH locs arr hI hL
  obtain ⟨⟨hx, hb, hml, hown, hts⟩, hall, hKC, hSF, hin, hfr, hlo, hnc, hns, hA⟩ := F
  unfold qx_astore at h
  dsimp only at h
  split at h
  · split at h
    · rename_i x r hi
      exact lv_astore hx hb hd hL.has (by rw [← hL.2.1]; exact hi) rfl (fun arr' hl => h.2 ad cs HH locs arr' hI (qx_L.store (v := .ref x) hL.2.1 hl))
    · exact h.elim
  · exact h.elim
theorem qs_astore_n {i : Nat} {k : Fin 4} (hd : decode cc pc = .ok (.astore_n k, 1)) (hk : (k : Nat) = i) : qx_Sw cl shC vC vN vD st ALL mi own isI cc nL rt pc (qx_astore 1 i) := by
  intro C d Ts D sd A p l e R s m args below meth c n0 w0 n1 w1 ad0 cs0 Q hC F ρ ls stk H hρ h ad cs HH locs arr hI hL
  obtain ⟨⟨hx, hb, hml, hown, hts⟩, hall, hKC, hSF, hin, hfr, hlo, hnc, hns, hA⟩ := F
  unfold qx_astore at h
  dsimp only at h
  split at h
  · split at h
    · rename_i x r hi
      exact lv_astore_n hx hb hd hk hL.has (by rw [← hL.2.1]; exact hi) rfl (fun arr' hl => h.2 ad cs HH locs arr' hI (qx_L.store (v := .ref x) hL.2.1 hl))
    · exact h.elim
  · exact h.elim
theorem qs_lstore {i : Nat} (hd : decode cc pc = .ok (.lstore i, 2)) : qx_Sw cl shC vC vN vD st ALL mi own isI cc nL rt pc (qx_lstore 2 i) := by
  intro C d Ts D sd A p l e R s m args below meth c n0 w0 n1 w1 ad0 cs0 Q hC F ρ ls stk H hρ h ad cs HH locs arr hI hL
  obtain ⟨⟨hx, hb, hml, hown, hts⟩, hall, hKC, hSF, hin, hfr, hlo, hnc, hns, hA⟩ := F
  unfold qx_lstore at h
  dsimp only at h
  split at h
  · split at h
    · rename_i x r hi
      exact lv_lstore hx hb hd hL.has (by rw [← hL.2.1]; exact hi) rfl (fun arr' hl => h.2 ad cs HH locs arr' hI (qx_L.store2 (v := .long x) hL.2.1 hl))
    · exact h.elim
  · exact h.elim
theorem qs_lstore_n {i : Nat} {k : Fin 4} (hd : decode cc pc = .ok (.lstore_n k, 1)) (hk : (k : Nat) = i) : qx_Sw cl shC vC vN vD st ALL mi own isI cc nL rt pc (qx_lstore 1 i) := by
  intro C d Ts D sd A p l e R s m args below meth c n0 w0 n1 w1 ad0 cs0 Q hC F ρ ls stk H hρ h ad cs HH locs arr hI hL
  obtain ⟨⟨hx, hb, hml, hown, hts⟩, hall, hKC, hSF, hin, hfr, hlo, hnc, hns, hA⟩ := F
  unfold qx_lstore at h
  dsimp only at h
  split at h
  · split at h
    · rename_i x r hi
      exact lv_lstore_n hx hb hd hk hL.has (by rw [← hL.2.1]; exact hi) rfl (fun arr' hl => h.2 ad cs HH locs arr' hI (qx_L.store2 (v := .long x) hL.2.1 hl))
    · exact h.elim
  · exact h.elim
theorem qs_iinc {i : Nat} {n : Int} {v : Int32} (hd : decode cc pc = .ok (.iinc i n, 3)) (hv : Int32.ofInt n = v) : qx_Sw cl shC vC vN vD st ALL mi own isI cc nL rt pc (qx_iinc i v) := by
  intro C d Ts D sd A p l e R s m args below meth c n0 w0 n1 w1 ad0 cs0 Q hC F ρ ls stk H hρ h ad cs HH locs arr hI hL
  obtain ⟨⟨hx, hb, hml, hown, hts⟩, hall, hKC, hSF, hin, hfr, hlo, hnc, hns, hA⟩ := F
  unfold qx_iinc at h
  dsimp only at h
  subst hv
  split at h
  · rename_i x heq
    have hi : i < nL := by rw [← hL.2.1]; exact (List.getElem?_eq_some_iff.mp heq).1
    obtain ⟨k, hk⟩ := List.mem_iff_getElem?.mp (qx_lv_mem (sd := sd) (ad := ad).mpr ⟨_, heq, rfl⟩)
    exact lv_iinc hx hb hd hL.has hk rfl hi rfl (fun arr' hl => h.2 ad cs HH locs arr' hI (qx_L.store (v := .int (x + Int32.ofInt n)) hL.2.1 hl))
  · exact h.elim
theorem qs_iadd  (hd : decode cc pc = .ok (.iadd, 1)) : qx_Sw cl shC vC vN vD st ALL mi own isI cc nL rt pc (qx_bin (fun x y => x + y)) := by
  intro C d Ts D sd A p l e R s m args below meth c n0 w0 n1 w1 ad0 cs0 Q hC F ρ ls stk H hρ h ad cs HH locs arr hI hL
  obtain ⟨⟨hx, hb, hml, hown, hts⟩, hall, hKC, hSF, hin, hfr, hlo, hnc, hns, hA⟩ := F
  unfold qx_bin at h
  dsimp only at h
  split at h
  · exact lv_iadd hx hb hd (h.2 ad cs HH locs arr hI hL)
  · exact h.elim
theorem qs_isub  (hd : decode cc pc = .ok (.isub, 1)) : qx_Sw cl shC vC vN vD st ALL mi own isI cc nL rt pc (qx_bin (fun x y => x - y)) := by
  intro C d Ts D sd A p l e R s m args below meth c n0 w0 n1 w1 ad0 cs0 Q hC F ρ ls stk H hρ h ad cs HH locs arr hI hL
  obtain ⟨⟨hx, hb, hml, hown, hts⟩, hall, hKC, hSF, hin, hfr, hlo, hnc, hns, hA⟩ := F
  unfold qx_bin at h
  dsimp only at h
  split at h
  · exact lv_isub hx hb hd (h.2 ad cs HH locs arr hI hL)
  · exact h.elim
theorem qs_imul  (hd : decode cc pc = .ok (.imul, 1)) : qx_Sw cl shC vC vN vD st ALL mi own isI cc nL rt pc (qx_bin (fun x y => x * y)) := by
  intro C d Ts D sd A p l e R s m args below meth c n0 w0 n1 w1 ad0 cs0 Q hC F ρ ls stk H hρ h ad cs HH locs arr hI hL
  obtain ⟨⟨hx, hb, hml, hown, hts⟩, hall, hKC, hSF, hin, hfr, hlo, hnc, hns, hA⟩ := F
  unfold qx_bin at h
  dsimp only at h
  split at h
  · exact lv_imul hx hb hd (h.2 ad cs HH locs arr hI hL)
  · exact h.elim
theorem qs_iand  (hd : decode cc pc = .ok (.iand, 1)) : qx_Sw cl shC vC vN vD st ALL mi own isI cc nL rt pc (qx_bin (fun x y => x &&& y)) := by
  intro C d Ts D sd A p l e R s m args below meth c n0 w0 n1 w1 ad0 cs0 Q hC F ρ ls stk H hρ h ad cs HH locs arr hI hL
  obtain ⟨⟨hx, hb, hml, hown, hts⟩, hall, hKC, hSF, hin, hfr, hlo, hnc, hns, hA⟩ := F
  unfold qx_bin at h
  dsimp only at h
  split at h
  · exact lv_iand hx hb hd (h.2 ad cs HH locs arr hI hL)
  · exact h.elim
theorem qs_ior  (hd : decode cc pc = .ok (.ior, 1)) : qx_Sw cl shC vC vN vD st ALL mi own isI cc nL rt pc (qx_bin (fun x y => x ||| y)) := by
  intro C d Ts D sd A p l e R s m args below meth c n0 w0 n1 w1 ad0 cs0 Q hC F ρ ls stk H hρ h ad cs HH locs arr hI hL
  obtain ⟨⟨hx, hb, hml, hown, hts⟩, hall, hKC, hSF, hin, hfr, hlo, hnc, hns, hA⟩ := F
  unfold qx_bin at h
  dsimp only at h
  split at h
  · exact lv_ior hx hb hd (h.2 ad cs HH locs arr hI hL)
  · exact h.elim
theorem qs_ixor  (hd : decode cc pc = .ok (.ixor, 1)) : qx_Sw cl shC vC vN vD st ALL mi own isI cc nL rt pc (qx_bin (fun x y => x ^^^ y)) := by
  intro C d Ts D sd A p l e R s m args below meth c n0 w0 n1 w1 ad0 cs0 Q hC F ρ ls stk H hρ h ad cs HH locs arr hI hL
  obtain ⟨⟨hx, hb, hml, hown, hts⟩, hall, hKC, hSF, hin, hfr, hlo, hnc, hns, hA⟩ := F
  unfold qx_bin at h
  dsimp only at h
  split at h
  · exact lv_ixor hx hb hd (h.2 ad cs HH locs arr hI hL)
  · exact h.elim
theorem qs_ishl  (hd : decode cc pc = .ok (.ishl, 1)) : qx_Sw cl shC vC vN vD st ALL mi own isI cc nL rt pc (qx_bin (fun x y => x <<< (y &&& 31))) := by
  intro C d Ts D sd A p l e R s m args below meth c n0 w0 n1 w1 ad0 cs0 Q hC F ρ ls stk H hρ h ad cs HH locs arr hI hL
  obtain ⟨⟨hx, hb, hml, hown, hts⟩, hall, hKC, hSF, hin, hfr, hlo, hnc, hns, hA⟩ := F
  unfold qx_bin at h
  dsimp only at h
  split at h
  · exact lv_ishl hx hb hd (h.2 ad cs HH locs arr hI hL)
  · exact h.elim
theorem qs_ishr  (hd : decode cc pc = .ok (.ishr, 1)) : qx_Sw cl shC vC vN vD st ALL mi own isI cc nL rt pc (qx_bin (fun x y => x >>> (y &&& 31))) := by
  intro C d Ts D sd A p l e R s m args below meth c n0 w0 n1 w1 ad0 cs0 Q hC F ρ ls stk H hρ h ad cs HH locs arr hI hL
  obtain ⟨⟨hx, hb, hml, hown, hts⟩, hall, hKC, hSF, hin, hfr, hlo, hnc, hns, hA⟩ := F
  unfold qx_bin at h
  dsimp only at h
  split at h
  · exact lv_ishr hx hb hd (h.2 ad cs HH locs arr hI hL)
  · exact h.elim
theorem qs_iushr  (hd : decode cc pc = .ok (.iushr, 1)) : qx_Sw cl shC vC vN vD st ALL mi own isI cc nL rt pc (qx_bin (fun x y => (x.toUInt32 >>> (y.toUInt32 &&& Int32.toUInt32 31)).toInt32)) := by
  intro C d Ts D sd A p l e R s m args below meth c n0 w0 n1 w1 ad0 cs0 Q hC F ρ ls stk H hρ h ad cs HH locs arr hI hL
  obtain ⟨⟨hx, hb, hml, hown, hts⟩, hall, hKC, hSF, hin, hfr, hlo, hnc, hns, hA⟩ := F
  unfold qx_bin at h
  dsimp only at h
  split at h
  · exact lv_iushr hx hb hd rfl (h.2 ad cs HH locs arr hI hL)
  · exact h.elim
theorem qs_ineg  (hd : decode cc pc = .ok (.ineg, 1)) : qx_Sw cl shC vC vN vD st ALL mi own isI cc nL rt pc (qx_neg) := by
  intro C d Ts D sd A p l e R s m args below meth c n0 w0 n1 w1 ad0 cs0 Q hC F ρ ls stk H hρ h ad cs HH locs arr hI hL
  obtain ⟨⟨hx, hb, hml, hown, hts⟩, hall, hKC, hSF, hin, hfr, hlo, hnc, hns, hA⟩ := F
  unfold qx_neg at h
  dsimp only at h
  split at h
  · exact lv_ineg hx hb hd (h.2 ad cs HH locs arr hI hL)
  · exact h.elim
theorem qs_idiv  (hd : decode cc pc = .ok (.idiv, 1)) : qx_Sw cl shC vC vN vD st ALL mi own isI cc nL rt pc (qx_div (fun x y => x / y)) := by
  intro C d Ts D sd A p l e R s m args below meth c n0 w0 n1 w1 ad0 cs0 Q hC F ρ ls stk H hρ h ad cs HH locs arr hI hL
  obtain ⟨⟨hx, hb, hml, hown, hts⟩, hall, hKC, hSF, hin, hfr, hlo, hnc, hns, hA⟩ := F
  unfold qx_div at h
  dsimp only at h
  split at h
  · split at h
    · exact h.elim
    · rename_i q
      exact lv_idiv hx hb hd q (h.2 ad cs HH locs arr hI hL)
  · exact h.elim
theorem qs_irem  (hd : decode cc pc = .ok (.irem, 1)) : qx_Sw cl shC vC vN vD st ALL mi own isI cc nL rt pc (qx_div (fun x y => x - x / y * y)) := by
  intro C d Ts D sd A p l e R s m args below meth c n0 w0 n1 w1 ad0 cs0 Q hC F ρ ls stk H hρ h ad cs HH locs arr hI hL
  obtain ⟨⟨hx, hb, hml, hown, hts⟩, hall, hKC, hSF, hin, hfr, hlo, hnc, hns, hA⟩ := F
  unfold qx_div at h
  dsimp only at h
  split at h
  · split at h
    · exact h.elim
    · rename_i q
      exact lv_irem hx hb hd q (h.2 ad cs HH locs arr hI hL)
  · exact h.elim
theorem qs_i2l  (hd : decode cc pc = .ok (.i2l, 1)) : qx_Sw cl shC vC vN vD st ALL mi own isI cc nL rt pc (qx_i2l) := by
  intro C d Ts D sd A p l e R s m args below meth c n0 w0 n1 w1 ad0 cs0 Q hC F ρ ls stk H hρ h ad cs HH locs arr hI hL
  obtain ⟨⟨hx, hb, hml, hown, hts⟩, hall, hKC, hSF, hin, hfr, hlo, hnc, hns, hA⟩ := F
  unfold qx_i2l at h
  dsimp only at h
  split at h
  · exact lv_i2l hx hb hd rfl (h.2 ad cs HH locs arr hI hL)
  · exact h.elim
theorem qs_l2i  (hd : decode cc pc = .ok (.l2i, 1)) : qx_Sw cl shC vC vN vD st ALL mi own isI cc nL rt pc (qx_l2i) := by
  intro C d Ts D sd A p l e R s m args below meth c n0 w0 n1 w1 ad0 cs0 Q hC F ρ ls stk H hρ h ad cs HH locs arr hI hL
  obtain ⟨⟨hx, hb, hml, hown, hts⟩, hall, hKC, hSF, hin, hfr, hlo, hnc, hns, hA⟩ := F
  unfold qx_l2i at h
  dsimp only at h
  split at h
  · exact lv_l2i hx hb hd rfl (h.2 ad cs HH locs arr hI hL)
  · exact h.elim
theorem qs_land  (hd : decode cc pc = .ok (.land, 1)) : qx_Sw cl shC vC vN vD st ALL mi own isI cc nL rt pc (qx_lbin (fun x y => x &&& y)) := by
  intro C d Ts D sd A p l e R s m args below meth c n0 w0 n1 w1 ad0 cs0 Q hC F ρ ls stk H hρ h ad cs HH locs arr hI hL
  obtain ⟨⟨hx, hb, hml, hown, hts⟩, hall, hKC, hSF, hin, hfr, hlo, hnc, hns, hA⟩ := F
  unfold qx_lbin at h
  dsimp only at h
  split at h
  · exact lv_land hx hb hd (h.2 ad cs HH locs arr hI hL)
  · exact h.elim
theorem qs_lor  (hd : decode cc pc = .ok (.lor, 1)) : qx_Sw cl shC vC vN vD st ALL mi own isI cc nL rt pc (qx_lbin (fun x y => x ||| y)) := by
  intro C d Ts D sd A p l e R s m args below meth c n0 w0 n1 w1 ad0 cs0 Q hC F ρ ls stk H hρ h ad cs HH locs arr hI hL
  obtain ⟨⟨hx, hb, hml, hown, hts⟩, hall, hKC, hSF, hin, hfr, hlo, hnc, hns, hA⟩ := F
  unfold qx_lbin at h
  dsimp only at h
  split at h
  · exact lv_lor hx hb hd (h.2 ad cs HH locs arr hI hL)
  · exact h.elim
theorem qs_lshl  (hd : decode cc pc = .ok (.lshl, 1)) : qx_Sw cl shC vC vN vD st ALL mi own isI cc nL rt pc (qx_lsh (fun x y => x <<< (y.toInt64 &&& 63))) := by
  intro C d Ts D sd A p l e R s m args below meth c n0 w0 n1 w1 ad0 cs0 Q hC F ρ ls stk H hρ h ad cs HH locs arr hI hL
  obtain ⟨⟨hx, hb, hml, hown, hts⟩, hall, hKC, hSF, hin, hfr, hlo, hnc, hns, hA⟩ := F
  unfold qx_lsh at h
  dsimp only at h
  split at h
  · exact lv_lshl hx hb hd rfl (h.2 ad cs HH locs arr hI hL)
  · exact h.elim
theorem qs_lshr  (hd : decode cc pc = .ok (.lshr, 1)) : qx_Sw cl shC vC vN vD st ALL mi own isI cc nL rt pc (qx_lsh (fun x y => x >>> (y.toInt64 &&& 63))) := by
  intro C d Ts D sd A p l e R s m args below meth c n0 w0 n1 w1 ad0 cs0 Q hC F ρ ls stk H hρ h ad cs HH locs arr hI hL
  obtain ⟨⟨hx, hb, hml, hown, hts⟩, hall, hKC, hSF, hin, hfr, hlo, hnc, hns, hA⟩ := F
  unfold qx_lsh at h
  dsimp only at h
  split at h
  · exact lv_lshr hx hb hd rfl (h.2 ad cs HH locs arr hI hL)
  · exact h.elim
theorem qs_lushr  (hd : decode cc pc = .ok (.lushr, 1)) : qx_Sw cl shC vC vN vD st ALL mi own isI cc nL rt pc (qx_lsh (fun x y => (x.toUInt64 >>> (y.toInt64.toUInt64 &&& Int64.toUInt64 63)).toInt64)) := by
  intro C d Ts D sd A p l e R s m args below meth c n0 w0 n1 w1 ad0 cs0 Q hC F ρ ls stk H hρ h ad cs HH locs arr hI hL
  obtain ⟨⟨hx, hb, hml, hown, hts⟩, hall, hKC, hSF, hin, hfr, hlo, hnc, hns, hA⟩ := F
  unfold qx_lsh at h
  dsimp only at h
  split at h
  · exact lv_lushr hx hb hd rfl (h.2 ad cs HH locs arr hI hL)
  · exact h.elim
theorem qs_lcmp  (hd : decode cc pc = .ok (.lcmp, 1)) : qx_Sw cl shC vC vN vD st ALL mi own isI cc nL rt pc (qx_lcmp) := by
  intro C d Ts D sd A p l e R s m args below meth c n0 w0 n1 w1 ad0 cs0 Q hC F ρ ls stk H hρ h ad cs HH locs arr hI hL
  obtain ⟨⟨hx, hb, hml, hown, hts⟩, hall, hKC, hSF, hin, hfr, hlo, hnc, hns, hA⟩ := F
  unfold qx_lcmp at h
  dsimp only at h
  split at h
  · exact W.lcmp hx hb hd (h.2 ad cs HH locs arr hI hL)
  · exact h.elim
theorem qs_dup  (hd : decode cc pc = .ok (.dup, 1)) : qx_Sw cl shC vC vN vD st ALL mi own isI cc nL rt pc (qx_dup) := by
  intro C d Ts D sd A p l e R s m args below meth c n0 w0 n1 w1 ad0 cs0 Q hC F ρ ls stk H hρ h ad cs HH locs arr hI hL
  obtain ⟨⟨hx, hb, hml, hown, hts⟩, hall, hKC, hSF, hin, hfr, hlo, hnc, hns, hA⟩ := F
  unfold qx_dup at h
  dsimp only at h
  split at h
  · split at h
    · rename_i q
      exact lv_dup hx hb hd (by rw [qx_cat]; exact q) (h.2 ad cs HH locs arr hI hL)
    · exact h.elim
  · exact h.elim
theorem qs_dup2  (hd : decode cc pc = .ok (.dup2, 1)) : qx_Sw cl shC vC vN vD st ALL mi own isI cc nL rt pc (qx_dup2) := by
  intro C d Ts D sd A p l e R s m args below meth c n0 w0 n1 w1 ad0 cs0 Q hC F ρ ls stk H hρ h ad cs HH locs arr hI hL
  obtain ⟨⟨hx, hb, hml, hown, hts⟩, hall, hKC, hSF, hin, hfr, hlo, hnc, hns, hA⟩ := F
  unfold qx_dup2 at h
  dsimp only at h
  split at h
  · split at h
    · rename_i q
      exact lv_dup2_11 hx hb hd (by rw [qx_cat]; exact q.1) (by rw [qx_cat]; exact q.2) (h.2 ad cs HH locs arr hI hL)
    · exact h.elim
  · exact h.elim
theorem qs_if_eq {off : Int} {tgt : Nat} (hd : decode cc pc = .ok (.ifCond .eq off, 3)) (ht : (pc : Int) + off = (tgt : Int)) : qx_Sw cl shC vC vN vD st ALL mi own isI cc nL rt pc (qx_if_eq tgt) := by
  intro C d Ts D sd A p l e R s m args below meth c n0 w0 n1 w1 ad0 cs0 Q hC F ρ ls stk H hρ h ad cs HH locs arr hI hL
  obtain ⟨⟨hx, hb, hml, hown, hts⟩, hall, hKC, hSF, hin, hfr, hlo, hnc, hns, hA⟩ := F
  unfold qx_if_eq at h
  dsimp only at h
  split at h
  · refine lv_if_eq hx hb hd ht (fun q => ?_) (fun q => ?_)
    · rw [if_pos q] at h
      exact h.2 ad cs HH locs arr hI hL
    · rw [if_neg q] at h
      exact h.2 ad cs HH locs arr hI hL
  · exact h.elim
theorem qs_ic_eq {off : Int} {tgt : Nat} (hd : decode cc pc = .ok (.if_icmp .eq off, 3)) (ht : (pc : Int) + off = (tgt : Int)) : qx_Sw cl shC vC vN vD st ALL mi own isI cc nL rt pc (qx_ic_eq tgt) := by
  intro C d Ts D sd A p l e R s m args below meth c n0 w0 n1 w1 ad0 cs0 Q hC F ρ ls stk H hρ h ad cs HH locs arr hI hL
  obtain ⟨⟨hx, hb, hml, hown, hts⟩, hall, hKC, hSF, hin, hfr, hlo, hnc, hns, hA⟩ := F
  unfold qx_ic_eq at h
  dsimp only at h
  split at h
  · refine lv_icmp_eq hx hb hd ht (fun q => ?_) (fun q => ?_)
    · rw [if_pos q] at h
      exact h.2 ad cs HH locs arr hI hL
    · rw [if_neg q] at h
      exact h.2 ad cs HH locs arr hI hL
  · exact h.elim
theorem qs_if_ne {off : Int} {tgt : Nat} (hd : decode cc pc = .ok (.ifCond .ne off, 3)) (ht : (pc : Int) + off = (tgt : Int)) : qx_Sw cl shC vC vN vD st ALL mi own isI cc nL rt pc (qx_if_ne tgt) := by
  intro C d Ts D sd A p l e R s m args below meth c n0 w0 n1 w1 ad0 cs0 Q hC F ρ ls stk H hρ h ad cs HH locs arr hI hL
  obtain ⟨⟨hx, hb, hml, hown, hts⟩, hall, hKC, hSF, hin, hfr, hlo, hnc, hns, hA⟩ := F
  unfold qx_if_ne at h
  dsimp only at h
  split at h
  · refine lv_if_ne hx hb hd ht (fun q => ?_) (fun q => ?_)
    · rw [if_neg q] at h
      exact h.2 ad cs HH locs arr hI hL
    · rw [if_pos q] at h
      exact h.2 ad cs HH locs arr hI hL
  · exact h.elim
theorem qs_ic_ne {off : Int} {tgt : Nat} (hd : decode cc pc = .ok (.if_icmp .ne off, 3)) (ht : (pc : Int) + off = (tgt : Int)) : qx_Sw cl shC vC vN vD st ALL mi own isI cc nL rt pc (qx_ic_ne tgt) := by
  intro C d Ts D sd A p l e R s m args below meth c n0 w0 n1 w1 ad0 cs0 Q hC F ρ ls stk H hρ h ad cs HH locs arr hI hL
  obtain ⟨⟨hx, hb, hml, hown, hts⟩, hall, hKC, hSF, hin, hfr, hlo, hnc, hns, hA⟩ := F
  unfold qx_ic_ne at h
  dsimp only at h
  split at h
  · refine lv_icmp_ne hx hb hd ht (fun q => ?_) (fun q => ?_)
    · rw [if_neg q] at h
      exact h.2 ad cs HH locs arr hI hL
    · rw [if_pos q] at h
      exact h.2 ad cs HH locs arr hI hL
  · exact h.elim
theorem qs_if_lt {off : Int} {tgt : Nat} (hd : decode cc pc = .ok (.ifCond .lt off, 3)) (ht : (pc : Int) + off = (tgt : Int)) : qx_Sw cl shC vC vN vD st ALL mi own isI cc nL rt pc (qx_if_lt tgt) := by
  intro C d Ts D sd A p l e R s m args below meth c n0 w0 n1 w1 ad0 cs0 Q hC F ρ ls stk H hρ h ad cs HH locs arr hI hL
  obtain ⟨⟨hx, hb, hml, hown, hts⟩, hall, hKC, hSF, hin, hfr, hlo, hnc, hns, hA⟩ := F
  unfold qx_if_lt at h
  dsimp only at h
  split at h
  · refine lv_if_lt hx hb hd ht (fun q => ?_) (fun q => ?_)
    · rw [if_pos q] at h
      exact h.2 ad cs HH locs arr hI hL
    · rw [if_neg q] at h
      exact h.2 ad cs HH locs arr hI hL
  · exact h.elim
theorem qs_ic_lt {off : Int} {tgt : Nat} (hd : decode cc pc = .ok (.if_icmp .lt off, 3)) (ht : (pc : Int) + off = (tgt : Int)) : qx_Sw cl shC vC vN vD st ALL mi own isI cc nL rt pc (qx_ic_lt tgt) := by
  intro C d Ts D sd A p l e R s m args below meth c n0 w0 n1 w1 ad0 cs0 Q hC F ρ ls stk H hρ h ad cs HH locs arr hI hL
  obtain ⟨⟨hx, hb, hml, hown, hts⟩, hall, hKC, hSF, hin, hfr, hlo, hnc, hns, hA⟩ := F
  unfold qx_ic_lt at h
  dsimp only at h
  split at h
  · refine lv_icmp_lt hx hb hd ht (fun q => ?_) (fun q => ?_)
    · rw [if_pos q] at h
      exact h.2 ad cs HH locs arr hI hL
    · rw [if_neg q] at h
      exact h.2 ad cs HH locs arr hI hL
  · exact h.elim
theorem qs_if_ge {off : Int} {tgt : Nat} (hd : decode cc pc = .ok (.ifCond .ge off, 3)) (ht : (pc : Int) + off = (tgt : Int)) : qx_Sw cl shC vC vN vD st ALL mi own isI cc nL rt pc (qx_if_ge tgt) := by
  intro C d Ts D sd A p l e R s m args below meth c n0 w0 n1 w1 ad0 cs0 Q hC F ρ ls stk H hρ h ad cs HH locs arr hI hL
  obtain ⟨⟨hx, hb, hml, hown, hts⟩, hall, hKC, hSF, hin, hfr, hlo, hnc, hns, hA⟩ := F
  unfold qx_if_ge at h
  dsimp only at h
  split at h
  · refine lv_if_ge hx hb hd ht (fun q => ?_) (fun q => ?_)
    · rw [if_pos q] at h
      exact h.2 ad cs HH locs arr hI hL
    · rw [if_neg q] at h
      exact h.2 ad cs HH locs arr hI hL
  · exact h.elim
theorem qs_ic_ge {off : Int} {tgt : Nat} (hd : decode cc pc = .ok (.if_icmp .ge off, 3)) (ht : (pc : Int) + off = (tgt : Int)) : qx_Sw cl shC vC vN vD st ALL mi own isI cc nL rt pc (qx_ic_ge tgt) := by
  intro C d Ts D sd A p l e R s m args below meth c n0 w0 n1 w1 ad0 cs0 Q hC F ρ ls stk H hρ h ad cs HH locs arr hI hL
  obtain ⟨⟨hx, hb, hml, hown, hts⟩, hall, hKC, hSF, hin, hfr, hlo, hnc, hns, hA⟩ := F
  unfold qx_ic_ge at h
  dsimp only at h
  split at h
  · refine lv_icmp_ge hx hb hd ht (fun q => ?_) (fun q => ?_)
    · rw [if_pos q] at h
      exact h.2 ad cs HH locs arr hI hL
    · rw [if_neg q] at h
      exact h.2 ad cs HH locs arr hI hL
  · exact h.elim
theorem qs_if_gt {off : Int} {tgt : Nat} (hd : decode cc pc = .ok (.ifCond .gt off, 3)) (ht : (pc : Int) + off = (tgt : Int)) : qx_Sw cl shC vC vN vD st ALL mi own isI cc nL rt pc (qx_if_gt tgt) := by
  intro C d Ts D sd A p l e R s m args below meth c n0 w0 n1 w1 ad0 cs0 Q hC F ρ ls stk H hρ h ad cs HH locs arr hI hL
  obtain ⟨⟨hx, hb, hml, hown, hts⟩, hall, hKC, hSF, hin, hfr, hlo, hnc, hns, hA⟩ := F
  unfold qx_if_gt at h
  dsimp only at h
  split at h
  · refine lv_if_gt hx hb hd ht (fun q => ?_) (fun q => ?_)
    · rw [if_pos q] at h
      exact h.2 ad cs HH locs arr hI hL
    · rw [if_neg q] at h
      exact h.2 ad cs HH locs arr hI hL
  · exact h.elim
theorem qs_ic_gt {off : Int} {tgt : Nat} (hd : decode cc pc = .ok (.if_icmp .gt off, 3)) (ht : (pc : Int) + off = (tgt : Int)) : qx_Sw cl shC vC vN vD st ALL mi own isI cc nL rt pc (qx_ic_gt tgt) := by
  intro C d Ts D sd A p l e R s m args below meth c n0 w0 n1 w1 ad0 cs0 Q hC F ρ ls stk H hρ h ad cs HH locs arr hI hL
  obtain ⟨⟨hx, hb, hml, hown, hts⟩, hall, hKC, hSF, hin, hfr, hlo, hnc, hns, hA⟩ := F
  unfold qx_ic_gt at h
  dsimp only at h
  split at h
  · refine lv_icmp_gt hx hb hd ht (fun q => ?_) (fun q => ?_)
    · rw [if_pos q] at h
      exact h.2 ad cs HH locs arr hI hL
    · rw [if_neg q] at h
      exact h.2 ad cs HH locs arr hI hL
  · exact h.elim
theorem qs_if_le {off : Int} {tgt : Nat} (hd : decode cc pc = .ok (.ifCond .le off, 3)) (ht : (pc : Int) + off = (tgt : Int)) : qx_Sw cl shC vC vN vD st ALL mi own isI cc nL rt pc (qx_if_le tgt) := by
  intro C d Ts D sd A p l e R s m args below meth c n0 w0 n1 w1 ad0 cs0 Q hC F ρ ls stk H hρ h ad cs HH locs arr hI hL
  obtain ⟨⟨hx, hb, hml, hown, hts⟩, hall, hKC, hSF, hin, hfr, hlo, hnc, hns, hA⟩ := F
  unfold qx_if_le at h
  dsimp only at h
  split at h
  · refine lv_if_le hx hb hd ht (fun q => ?_) (fun q => ?_)
    · rw [if_pos q] at h
      exact h.2 ad cs HH locs arr hI hL
    · rw [if_neg q] at h
      exact h.2 ad cs HH locs arr hI hL
  · exact h.elim
theorem qs_ic_le {off : Int} {tgt : Nat} (hd : decode cc pc = .ok (.if_icmp .le off, 3)) (ht : (pc : Int) + off = (tgt : Int)) : qx_Sw cl shC vC vN vD st ALL mi own isI cc nL rt pc (qx_ic_le tgt) := by
  intro C d Ts D sd A p l e R s m args below meth c n0 w0 n1 w1 ad0 cs0 Q hC F ρ ls stk H hρ h ad cs HH locs arr hI hL
  obtain ⟨⟨hx, hb, hml, hown, hts⟩, hall, hKC, hSF, hin, hfr, hlo, hnc, hns, hA⟩ := F
  unfold qx_ic_le at h
  dsimp only at h
  split at h
  · refine lv_icmp_le hx hb hd ht (fun q => ?_) (fun q => ?_)
    · rw [if_pos q] at h
      exact h.2 ad cs HH locs arr hI hL
    · rw [if_neg q] at h
      exact h.2 ad cs HH locs arr hI hL
  · exact h.elim
theorem qs_goto {off : Int} {tgt : Nat} (hd : decode cc pc = .ok (.goto off, 3)) (ht : (pc : Int) + off = (tgt : Int)) : qx_Sw cl shC vC vN vD st ALL mi own isI cc nL rt pc (qx_goto tgt) := by
  intro C d Ts D sd A p l e R s m args below meth c n0 w0 n1 w1 ad0 cs0 Q hC F ρ ls stk H hρ h ad cs HH locs arr hI hL
  obtain ⟨⟨hx, hb, hml, hown, hts⟩, hall, hKC, hSF, hin, hfr, hlo, hnc, hns, hA⟩ := F
  have h : qx_P cl shC D sd A p l e R s m args below meth c nL n0 w0 n1 w1 ad0 cs0 Q (tgt, ls, stk, H) := h
  exact lv_goto hx hb hd ht (h.2 ad cs HH locs arr hI hL)
def qx_tbOk (pc : Nat) : Int → List Int → List (Int32 × Nat) → Bool
  | _, [], [] => true
  | lo, o :: os, (c, t) :: tb => decide (c.toInt = lo) && decide ((pc : Int) + o = (t : Int)) && qx_tbOk pc (lo + 1) os tb
  | _, _, _ => false
theorem qx_tb_in {pc D : Nat} : ∀ {lo : Int} {os : List Int} {tb : List (Int32 × Nat)}, qx_tbOk pc lo os tb = true → ∀ (x : Int32) (j : Nat), x.toInt = lo + j → j < os.length → ∃ off, os[j]? = some off ∧ (pc : Int) + off = (qx_swt x D tb : Nat)
  | _, [], [], _, _, _, _, h => absurd h (by simp)
  | lo, o :: os, (c, t) :: tb, h, x, 0, hx, _ => by
    simp only [qx_tbOk, Bool.and_eq_true, decide_eq_true_eq] at h
    refine ⟨o, rfl, ?_⟩
    have e : x = c := Int32.toInt_inj.mp (by rw [h.1.1, hx]; simp)
    simp only [qx_swt, e, if_true]
    exact h.1.2
  | lo, o :: os, (c, t) :: tb, h, x, j + 1, hx, hl => by
    simp only [qx_tbOk, Bool.and_eq_true, decide_eq_true_eq] at h
    obtain ⟨off, h1, h2⟩ := qx_tb_in (D := D) h.2 x j (by rw [hx]; omega) (by simpa using hl)
    refine ⟨off, by simpa using h1, ?_⟩
    have e : ¬ x = c := fun q => by
      subst q
      rw [h.1.1] at hx
      omega
    simp only [qx_swt, e, if_false]
    exact h2
theorem qx_tb_out {pc D : Nat} : ∀ {lo : Int} {os : List Int} {tb : List (Int32 × Nat)}, qx_tbOk pc lo os tb = true → ∀ x : Int32, x.toInt < lo ∨ lo + os.length ≤ x.toInt → qx_swt x D tb = D
  | _, [], [], _, _, _ => rfl
  | lo, o :: os, (c, t) :: tb, h, x, hx => by
    simp only [qx_tbOk, Bool.and_eq_true, decide_eq_true_eq] at h
    have e : ¬ x = c := fun q => by
      subst q
      rw [h.1.1] at hx
      simp at hx
      omega
    simp only [qx_swt, e, if_false]
    refine qx_tb_out h.2 x ?_
    simp at hx
    omega
  | _, [], _ :: _, h, _, _ => by simp [qx_tbOk] at h
  | _, _ :: _, [], h, _, _ => by simp [qx_tbOk] at h
def qx_lkOk (pc : Nat) : List (Int × Int) → List (Int32 × Nat) → Bool
  | [], [] => true
  | (a, o) :: os, (c, t) :: tb => decide (c.toInt = a) && decide ((pc : Int) + o = (t : Int)) && qx_lkOk pc os tb
  | _, _ => false
theorem qx_lk {pc D : Nat} {dflt : Int} (hD : (pc : Int) + dflt = (D : Int)) : ∀ {os : List (Int × Int)} {tb : List (Int32 × Nat)}, qx_lkOk pc os tb = true → ∀ x : Int32, (pc : Int) + Op.lookupswitch.offset os dflt x.toInt = (qx_swt x D tb : Nat)
  | [], [], _, _ => hD
  | (a, o) :: os, (c, t) :: tb, h, x => by
    simp only [qx_lkOk, Bool.and_eq_true, decide_eq_true_eq] at h
    rw [Op.lookupswitch.offset_cons]
    by_cases e : x = c
    · subst e
      simp only [qx_swt, h.1.1, if_true]
      exact h.1.2
    · have e2 : ¬ a = x.toInt := fun q => e (Int32.toInt_inj.mp (by rw [h.1.1, q]))
      simp only [qx_swt, e, e2, if_false]
      exact qx_lk hD h.2 x
  | [], _ :: _, h, _ => by simp [qx_lkOk] at h
  | _ :: _, [], h, _ => by simp [qx_lkOk] at h
theorem qs_tsw {dflt lo hi : Int} {offs : Array Int} {len D0 : Nat} {tb : List (Int32 × Nat)} (hd : decode cc pc = .ok (.tableswitch dflt lo hi offs, len)) (hD : (pc : Int) + dflt = (D0 : Int)) (ht : qx_tbOk pc lo offs.toList tb = true) (hh : hi + 1 = lo + offs.toList.length) : qx_Sw cl shC vC vN vD st ALL mi own isI cc nL rt pc (qx_sw D0 tb) := by
  intro C d Ts D sd A p l e R s m args below meth c n0 w0 n1 w1 ad0 cs0 Q hC F ρ ls stk H hρ h ad cs HH locs arr hI hL
  obtain ⟨⟨hx, hb, hml, hown, hts⟩, hall, hKC, hSF, hin, hfr, hlo, hnc, hns, hA⟩ := F
  unfold qx_sw at h
  dsimp only at h
  split at h
  · rename_i x r
    by_cases q : x.toInt < lo ∨ hi < x.toInt
    · refine lv_tableOut hx hb hd q hD ?_
      rw [qx_tb_out ht x (by omega)] at h
      exact (h.2 ad cs HH locs arr hI hL)
    · have q1 : ¬ x.toInt < lo := fun z => q (Or.inl z)
      have q2 : ¬ hi < x.toInt := fun z => q (Or.inr z)
      obtain ⟨off, e1, e2⟩ := qx_tb_in (D := D0) ht x (x.toInt - lo).toNat (by omega) (by omega)
      exact lv_tableIn hx hb hd q1 q2 (by rw [← Array.getElem?_toList]; exact e1) e2 (h.2 ad cs HH locs arr hI hL)
  · exact h.elim
theorem qs_lsw {dflt : Int} {ps : Array (Int × Int)} {len D0 : Nat} {tb : List (Int32 × Nat)} (hd : decode cc pc = .ok (.lookupswitch dflt ps, len)) (hp : (ps.toList.zip (ps.toList.drop 1)).all (fun (a, next) => a.1 < next.1) = true) (hD : (pc : Int) + dflt = (D0 : Int)) (ht : qx_lkOk pc ps.toList tb = true) : qx_Sw cl shC vC vN vD st ALL mi own isI cc nL rt pc (qx_sw D0 tb) := by
  intro C d Ts D sd A p l e R s m args below meth c n0 w0 n1 w1 ad0 cs0 Q hC F ρ ls stk H hρ h ad cs HH locs arr hI hL
  obtain ⟨⟨hx, hb, hml, hown, hts⟩, hall, hKC, hSF, hin, hfr, hlo, hnc, hns, hA⟩ := F
  unfold qx_sw at h
  dsimp only at h
  split at h
  · rename_i x r
    exact lv_lookup hx hb hd hp rfl (qx_lk hD ht x) (h.2 ad cs HH locs arr hI hL)
  · exact h.elim
theorem qs_reti  (hd : decode cc pc = .ok (.ireturn, 1)) (hr : rt = some .int) : qx_Sw cl shC vC vN vD st ALL mi own isI cc nL rt pc (qx_reti) := by
  intro C d Ts D sd A p l e R s m args below meth c n0 w0 n1 w1 ad0 cs0 Q hC F ρ ls stk H hρ h ad cs HH locs arr hI hL
  obtain ⟨⟨hx, hb, hml, hown, hts⟩, hall, hKC, hSF, hin, hfr, hlo, hnc, hns, hA⟩ := F
  unfold qx_reti at h
  dsimp only at h
  split at h
  · exact hρ _ _ h ad cs HH locs arr _ _ hI ⟨rfl, Or.inl ⟨hd, _, _, rfl, hr, rfl⟩⟩
  · exact h.elim
theorem qs_retl  (hd : decode cc pc = .ok (.lreturn, 1)) (hr : rt = some .long) : qx_Sw cl shC vC vN vD st ALL mi own isI cc nL rt pc (qx_retl) := by
  intro C d Ts D sd A p l e R s m args below meth c n0 w0 n1 w1 ad0 cs0 Q hC F ρ ls stk H hρ h ad cs HH locs arr hI hL
  obtain ⟨⟨hx, hb, hml, hown, hts⟩, hall, hKC, hSF, hin, hfr, hlo, hnc, hns, hA⟩ := F
  unfold qx_retl at h
  dsimp only at h
  split at h
  · exact hρ _ _ h ad cs HH locs arr _ _ hI ⟨rfl, Or.inr (Or.inl ⟨hd, _, rfl, hr⟩)⟩
  · exact h.elim
theorem qs_reta {Z : String} (hd : decode cc pc = .ok (.areturn, 1)) (hr : rt = some (.object Z)) : qx_Sw cl shC vC vN vD st ALL mi own isI cc nL rt pc (qx_reta) := by
  intro C d Ts D sd A p l e R s m args below meth c n0 w0 n1 w1 ad0 cs0 Q hC F ρ ls stk H hρ h ad cs HH locs arr hI hL
  obtain ⟨⟨hx, hb, hml, hown, hts⟩, hall, hKC, hSF, hin, hfr, hlo, hnc, hns, hA⟩ := F
  unfold qx_reta at h
  dsimp only at h
  split at h
  · exact hρ _ _ h ad cs HH locs arr _ _ hI ⟨rfl, Or.inr (Or.inr ⟨hd, _, _, rfl, hr⟩)⟩
  · exact h.elim
theorem qs_ret0  (hd : decode cc pc = .ok (.return_, 1)) (hr : rt = none) : qx_Sw cl shC vC vN vD st ALL mi own isI cc nL rt pc (qx_ret0) := by
  intro C d Ts D sd A p l e R s m args below meth c n0 w0 n1 w1 ad0 cs0 Q hC F ρ ls stk H hρ h ad cs HH locs arr hI hL
  obtain ⟨⟨hx, hb, hml, hown, hts⟩, hall, hKC, hSF, hin, hfr, hlo, hnc, hns, hA⟩ := F
  unfold qx_ret0 at h
  dsimp only at h
  split at h
  · exact hρ _ _ h ad cs HH locs arr _ _ hI ⟨rfl, hd, hr⟩
  · exact h.elim
theorem qs_retz  (hd : decode cc pc = .ok (.ireturn, 1)) (hr : rt = some .boolean) : qx_Sw cl shC vC vN vD st ALL mi own isI cc nL rt pc (qx_retz) := by
  intro C d Ts D sd A p l e R s m args below meth c n0 w0 n1 w1 ad0 cs0 Q hC F ρ ls stk H hρ h ad cs HH locs arr hI hL
  obtain ⟨⟨hx, hb, hml, hown, hts⟩, hall, hKC, hSF, hin, hfr, hlo, hnc, hns, hA⟩ := F
  unfold qx_retz at h
  dsimp only at h
  split at h
  · split at h
    · rename_i x q
      refine hρ _ _ h ad cs HH locs arr _ _ hI ⟨rfl, Or.inl ⟨hd, _, _, rfl, hr, ?_⟩⟩
      rcases q with rfl | rfl <;> rfl
    · exact h.elim
  · exact h.elim
theorem qs_mmax {i : Nat} (hd : decode cc pc = .ok (.invokestatic i, 3)) (v1 : Cond.methodLink own i Lib.Math.max.name ∈ ALL) (v2 : Cond.static Lib.Math.max.name ∈ ALL) (v3 : Cond.initialized "java/lang/Math" ∈ ALL) (v4 : Cond.code Lib.Math.max.name Lib.Math.max.code 2 (some .int) ∈ ALL) : qx_Sw cl shC vC vN vD st ALL mi own isI cc nL rt pc (qx_bin3 (fun x y => if x < y then y else x)) := by
  intro C d Ts D sd A p l e R s m args below meth c n0 w0 n1 w1 ad0 cs0 Q hC F ρ ls stk H hρ h ad cs HH locs arr hI hL
  obtain ⟨⟨hx, hb, hml, hown, hts⟩, hall, hKC, hSF, hin, hfr, hlo, hnc, hns, hA⟩ := F
  unfold qx_bin3 at h
  dsimp only at h
  split at h
  · split at h
    · rename_i q
      have g := hI.1
      exact va_mmax hx hb (by rw [hml]; exact hL.1.symm) hown (hts _ (hall _ v1)) (hts _ (hall _ v2)) (hts _ (hall _ v3)) (hts _ (hall _ v4)) (by omega) (by rw [qx_cats]; omega) (Nat.le_trans (Nat.sub_le_sub_right h.1.1 _) hnc) (Nat.le_trans (Nat.sub_le_sub_right h.1.2 _) hns) hd (h.2 ad cs HH locs arr hI hL)
    · exact h.elim
  · exact h.elim
theorem qs_mmin {i : Nat} (hd : decode cc pc = .ok (.invokestatic i, 3)) (v1 : Cond.methodLink own i Lib.Math.min.name ∈ ALL) (v2 : Cond.static Lib.Math.min.name ∈ ALL) (v3 : Cond.initialized "java/lang/Math" ∈ ALL) (v4 : Cond.code Lib.Math.min.name Lib.Math.min.code 2 (some .int) ∈ ALL) : qx_Sw cl shC vC vN vD st ALL mi own isI cc nL rt pc (qx_bin3 (fun x y => if y < x then y else x)) := by
  intro C d Ts D sd A p l e R s m args below meth c n0 w0 n1 w1 ad0 cs0 Q hC F ρ ls stk H hρ h ad cs HH locs arr hI hL
  obtain ⟨⟨hx, hb, hml, hown, hts⟩, hall, hKC, hSF, hin, hfr, hlo, hnc, hns, hA⟩ := F
  unfold qx_bin3 at h
  dsimp only at h
  split at h
  · split at h
    · rename_i q
      have g := hI.1
      exact va_mmin hx hb (by rw [hml]; exact hL.1.symm) hown (hts _ (hall _ v1)) (hts _ (hall _ v2)) (hts _ (hall _ v3)) (hts _ (hall _ v4)) (by omega) (by rw [qx_cats]; omega) (Nat.le_trans (Nat.sub_le_sub_right h.1.1 _) hnc) (Nat.le_trans (Nat.sub_le_sub_right h.1.2 _) hns) hd (h.2 ad cs HH locs arr hI hL)
    · exact h.elim
  · exact h.elim
theorem qs_oinit {i : Nat} (hd : decode cc pc = .ok (.invokespecial i, 3)) (v1 : Cond.methodLink own i Lib.objectInit ∈ ALL) (v2 : Cond.instanceMethod Lib.objectInit ∈ ALL) (v3 : Cond.code Lib.objectInit ⟨#[0xb1]⟩ 1 none ∈ ALL) : qx_Sw cl shC vC vN vD st ALL mi own isI cc nL rt pc (qx_oinit) := by
  intro C d Ts D sd A p l e R s m args below meth c n0 w0 n1 w1 ad0 cs0 Q hC F ρ ls stk H hρ h ad cs HH locs arr hI hL
  obtain ⟨⟨hx, hb, hml, hown, hts⟩, hall, hKC, hSF, hin, hfr, hlo, hnc, hns, hA⟩ := F
  unfold qx_oinit at h
  dsimp only at h
  split at h
  · split at h
    · rename_i q
      exact W.objInit hx hb hown (hts _ (hall _ v1)) (hts _ (hall _ v2)) (hts _ (hall _ v3)) rfl (by rw [hml]; exact hL.1) rfl hd (by omega) (by
        rw [qx_cats]
        have e2 : ∀ z, (F0 m pc arr z).monitorRoom = 0 := fun _ => rfl
        rw [e2]
        omega) (h.2 ad cs HH locs arr hI hL)
    · exact h.elim
  · exact h.elim
end QS
