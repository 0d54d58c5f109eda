/-! EVERY METHOD OF A TABLE MEETS ITS CONTRACT -/
section QZ
variable {cl : List vw_C} {shC vC vN vD : String} {st : UInt32 → Option (Nat × (Nat → Int32))} {ALL : List Cond} {mi : Nat → MethodName × ByteArray × Nat × Option FieldType}
/-- what is known of a method of the table -/
def qx_Md (cl : List vw_C) (shC vC vN vD : String) (st : UInt32 → Option (Nat × (Nat → Int32))) (ALL : List Cond) (mi : Nat → MethodName × ByteArray × Nat × Option FieldType) (cd : List qx_O) (k : Nat) : Prop :=
  plainName (mi k).1.cls = true ∧ (mi k).2.2.1 ≤ 21 ∧ (∀ op ∈ cd, qx_Mn op) ∧ ∃ isI : Bool, (isI = true → (mi k).1.name = "<init>") ∧ ∀ (pc : Nat) (op : qx_O), cd[pc]? = some op → qx_Sw cl shC vC vN vD st ALL mi (mi k).1.cls isI (mi k).2.1 (mi k).2.2.1 (mi k).2.2.2 pc op
/-- the frame's run, by the machine -/
theorem qx_frame {C : qx_K} {d : Nat} {cd : List qx_O} {own : String} {isI : Bool} {cc : ByteArray} {nL : Nat} {rt : Option FieldType} {Ts : List Cond} {D : va_G} {sd : UInt32 → Nat} {A : Nat → Prop} {p : Program} {l : Launch} {e : Env} {R : Room} {s : State} {m : MethodId} {args : Array Value} {below : List Frame} {meth : Method} {c : Code} {n0 w0 n1 w1 : Nat} {ad0 : Nat → Nat} {cs0 : Nat → ClassId} {Q : State → Prop} {ρ : Option Value → qx_H → Prop} {σ : qx_S}
    (hC : qx_Ok cl shC vC vN vD st ALL mi C d) (hF : qx_F cl vC vN vD st ALL own isI cc nL d Ts D sd A p R s m args meth c n0 w0 n1 w1) (hM : ∀ op ∈ cd, qx_Mn op) (hS : ∀ (pc : Nat) (op : qx_O), cd[pc]? = some op → qx_Sw cl shC vC vN vD st ALL mi own isI cc nL rt pc op)
    (hρ : qx_Rt cl shC cc rt D sd A p l e R s m args below meth c n0 w0 ad0 cs0 Q ρ) (hρ1 : ∀ v H, ρ v H → H.length ≤ n1 ∧ qx_wt H ≤ w1) (h : qx_V C ρ cd σ) : qx_P cl shC D sd A p l e R s m args below meth c nL n0 w0 n1 w1 ad0 cs0 Q σ := by
  refine h _ ?_
  intro σ h
  obtain ⟨pc, ls, stk, H⟩ := σ
  refine ⟨?_, ?_⟩
  · -- the heap's size
    have hm : ∀ r, qx_mn H r → qx_app C ρ (qx_P cl shC D sd A p l e R s m args below meth c nL n0 w0 n1 w1 ad0 cs0 Q) r → H.length ≤ n1 ∧ qx_wt H ≤ w1 := by
      intro r hm hh
      match r, hm, hh with
      | some (.inl σ'), hm, hh => exact ⟨Nat.le_trans hm.1 hh.1.1, Nat.le_trans hm.2 hh.1.2⟩
      | some (.inr (.inl (v, H'))), hm, hh =>
        have hm2 : H' = H := hm
        have hh2 := hρ1 v H' hh
        rw [hm2] at hh2
        exact hh2
      | some (.inr (.inr (k, as, H0, ct))), hm, hh =>
        obtain ⟨v, H1, σ1, a, b, d1⟩ := hh
        obtain ⟨e1, e2⟩ := (show H0 = H ∧ ∀ v H' σ', ct v H' = some σ' → σ'.2.2.2 = H' from hm)
        subst e1
        have e3 := e2 v H1 σ1 b
        have h2 := (hC _ _ _ _ _ a).1
        have d2 := d1.1
        rw [e3] at d2
        exact ⟨Nat.le_trans h2.1 d2.1, Nat.le_trans h2.2 d2.2⟩
    unfold qx_step at h
    split at h
    · rename_i f hf
      exact hm _ (hM f (List.mem_of_getElem? hf) pc ls stk H) h
    · exact h.elim
  · intro ad cs HH locs arr hI hL
    unfold qx_step at h
    split at h
    · rename_i f hf
      exact hS pc f hf C d Ts D sd A p l e R s m args below meth c n0 w0 n1 w1 ad0 cs0 Q hC hF ρ ls stk H hρ h ad cs HH locs arr hI hL
    · exact h.elim
theorem qx_sound {cds : Nat → List qx_O} {nLs : Nat → Nat} (hnL : ∀ k, nLs k = (mi k).2.2.1) (hMd : ∀ k, cds k ≠ [] → qx_Md cl shC vC vN vD st ALL mi (cds k) k) : ∀ d, qx_Ok cl shC vC vN vD st ALL mi (qx_Ev cds nLs d) d := by
  intro d
  induction d with
  | zero => intro k as H v H' h; exact h.elim
  | succ d ih =>
    intro k as H v H' h
    obtain ⟨hn, h⟩ := h
    have hne : cds k ≠ [] := by
      intro q
      rw [q] at h
      refine h (fun _ => False) (fun σ h => ?_)
      have e : qx_step [] σ = none := by simp [qx_step]
      rw [e] at h
      exact h
    obtain ⟨hpl, hmL, hMn, isI, hisI, hSw⟩ := hMd k hne
    have hmono := qx_V_mono (n1 := H'.length) (w1 := qx_wt H') (fun k as H v H' h => (ih k as H v H' h).1) (fun v1 H1 q => by rw [q.2]; exact ⟨Nat.le_refl _, Nat.le_refl _⟩) hMn h
    refine ⟨hmono, ?_⟩
    intro l D sd ad cs sz
    refine Met.ofW (cc := (mi k).2.1) (maxL := (mi k).2.2.1) (ret := (mi k).2.2.2) hpl rfl ?_
    intro p e s m args below meth c s₁ B hml hv
    obtain ⟨rfl, hsz, hW, hKC, hSF⟩ := hv
    have hts := atoms_spec (ws := qx_w1 ALL (mi k)) B.pre
    have hown : s.vm.findClass (mi k).1.cls = some m.cls := findClass_of_methodNamed B.named
    have hlocks := B.notSynchronized
    subst hsz
    have hW' : qx_W cl shC D sd ad cs H (va_A (qx_ws sd ad cs H) s.heap.size) s s.heap := ⟨hW.1, hW.2.1.self, hW.2.2⟩
    have hF : qx_F cl vC vN vD st ALL (mi k).1.cls isI (mi k).2.1 (mi k).2.2.1 d (qx_w1 ALL (mi k)) D sd (va_A (qx_ws sd ad cs H) s.heap.size) p (headSpec (qx_w1 ALL (mi k)) (qx_rm (d + 1) (H'.length - H.length) (qx_wt H' - qx_wt H))).room s m (as.map (qx_v sd ad)).toArray meth c H.length (qx_wt H) H'.length (qx_wt H') :=
      ⟨⟨B.exec, B.bytes, hml, hown, hts⟩, fun w hw => List.mem_cons_of_mem _ hw, hKC, hSF, fun q => by rw [← hisI q]; exact (name_of_methodNamed B.named B.method).1, Nat.le_refl _, Nat.le_refl _, Nat.le_refl _, Nat.le_refl _, fun q hq => Or.inr hq⟩
    have hρ : qx_Rt cl shC (mi k).2.1 (mi k).2.2.2 D sd (va_A (qx_ws sd ad cs H) s.heap.size) p l e (headSpec (qx_w1 ALL (mi k)) (qx_rm (d + 1) (H'.length - H.length) (qx_wt H' - qx_wt H))).room s m (as.map (qx_v sd ad)).toArray below meth c H.length (qx_wt H) ad cs (MQ below (qx_Post cl shC D sd ad cs H s.heap.size v H') (as.map (qx_v sd ad)).toArray s (H'.length - H.length) (qx_wt H' - qx_wt H) (va_A (qx_ws sd ad cs H) s.heap.size)) (fun v1 H1 => v1 = v ∧ H1 = H') := by
      rintro v1 H1 ⟨rfl, rfl⟩ ad' cs' HH locs arr pc stk hI hret
      have hq : ∀ (o : Outcome) (t : State), o = .returned (v1.map (qx_v sd ad')) → t.heap = HH → s.WarmedH t.vm → qx_Post cl shC D sd ad cs H s.heap.size v1 H1 (as.map (qx_v sd ad)).toArray s o t := by
        intro o t ho ht hWm
        obtain ⟨⟨i1, i2, i3, i4⟩, hW1, hS⟩ := hI
        refine ⟨⟨ad', cs', i3, i4, ho, ⟨by rw [ht]; exact hW1.1, hW1.2.1, fun i c ty hi hty => qx_TA.moved hWm.alike hKC (hW1.2.2 i c ty hi hty)⟩⟩, hS.F ht⟩
      match v1, hret, hq with
      | none, hret, hq =>
        obtain ⟨rfl, hd, hr⟩ := hret
        exact W.vret B.exec B.bytes (B.returns.trans hr) (fun t ht hWm => hq _ t rfl ht hWm) hI.2.2.2.2 hd
      | some x, hret, hq =>
        obtain ⟨e0, hr1⟩ := hret
        subst e0
        rcases hr1 with ⟨hd, i, ty, rfl, hr, hnr⟩ | ⟨hd, i, rfl, hr⟩ | ⟨hd, a, C, rfl, hr⟩
        · exact W.zret (v := i) B.exec B.bytes (B.returns.trans hr) hnr (fun t ht hWm => hq _ t rfl ht hWm) hI.2.2.2.2 hd
        · exact W.lret (v := i) B.exec B.bytes (B.returns.trans hr) (fun t ht hWm => hq _ t rfl ht hWm) hI.2.2.2.2 hd
        · exact W.aret (v := .ref (ad' a)) B.exec B.bytes (B.returns.trans hr) (Or.inl ⟨_, rfl⟩) (Or.inr ⟨_, rfl⟩) (fun t ht hWm => hq _ t rfl ht hWm) hI.2.2.2.2 hd
    have hP := qx_frame (ad0 := ad) (cs0 := cs) ih hF hMn hSw hρ (fun v1 H1 q => by rw [q.2]; exact ⟨Nat.le_refl _, Nat.le_refl _⟩) h
    have hg := hP.2 ad cs s.heap [] ((lg_sl (as.map (qx_v sd ad)) ++ List.replicate ((mi k).2.2.1 - (lg_sl (as.map (qx_v sd ad))).length) Slot.unset).toArray) ⟨⟨Nat.le_refl _, Nat.le_refl _, fun _ _ => ⟨rfl, rfl⟩, fun _ => ⟨rfl, rfl⟩⟩, hW', va_S.rf⟩ (by
      have := qx_L.entry (sd := sd) (ad := ad) hn
      rw [hnL] at this ⊢
      exact this)
    rw [lg_entry_eq]
    dsimp only at hg
    rw [Nat.sub_self, Nat.sub_self] at hg
    exact hg
end QZ
