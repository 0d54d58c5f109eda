/-! PAIRS OF CALLS: TOOLS -/
theorem ob2_eta {α β : Type} {o : Option (α × β)} : ob2 o (fun v H => some (v, H)) = o := by
  rcases o with _ | ⟨a, b⟩ <;> rfl
def pr (m : xM2) (f g : qx_H → Option (Int32 × qx_H)) : Prop := ∃ v m1 m2, f (mk m) = some (v, mk m1) ∧ g (mk m1) = some (v, mk m2) ∧ Rel m2
theorem below_in {a : Int32} {n : Nat} (h : n + 1 < 2 ^ 31) : fm_X10_isBelow a (nI (n + 1)) = fm_X11_in a 0 (nI n) := by
  unfold fm_X10_isBelow fm_X11_in
  by_cases h0 : a < 0
  · rw [if_pos h0, if_pos h0]
  · rw [if_neg h0, if_neg h0]
    obtain ⟨j, hj, rfl⟩ := nI_of h0
    by_cases h1 : n < j
    · rw [if_pos ((nI_leI h hj).mpr h1), if_pos ((nI_ltI (by omega) hj).mpr h1)]
    · rw [if_neg (fun q => h1 ((nI_leI h hj).mp q)), if_neg (fun q => h1 ((nI_ltI (by omega) hj).mp q))]
theorem below2 {a : Int32} : fm_X10_isBelow a 2 = fm_X11_in a 0 1 := below_in (n := 1) (by decide)
theorem below3 {a : Int32} : fm_X10_isBelow a 3 = fm_X11_in a 0 2 := below_in (n := 2) (by decide)
theorem below4 {a : Int32} : fm_X10_isBelow a 4 = fm_X11_in a 0 3 := below_in (n := 3) (by decide)
theorem below5 {a : Int32} : fm_X10_isBelow a 5 = fm_X11_in a 0 4 := below_in (n := 4) (by decide)
theorem below6 {a : Int32} : fm_X10_isBelow a 6 = fm_X11_in a 0 5 := below_in (n := 5) (by decide)
theorem below7 {a : Int32} : fm_X10_isBelow a 7 = fm_X11_in a 0 6 := below_in (n := 6) (by decide)
theorem below20 {a : Int32} : fm_X10_isBelow a 20 = fm_X11_in a 0 19 := below_in (n := 19) (by decide)
theorem below31 {a : Int32} : fm_X10_isBelow a 31 = fm_X11_in a 0 30 := below_in (n := 30) (by decide)
theorem below70 {a : Int32} : fm_X10_isBelow a 70 = fm_X11_in a 0 69 := below_in (n := 69) (by decide)
theorem within_in {a x y : Int32} : fm_X10_isWithin a x y = fm_X11_in a x y := rfl
theorem inC (a : Int32) {lo hi : Int32} (l n : Nat) (hlo : lo = nI l := by rfl) (hhi : hi = nI n := by rfl) (hn : n < 2 ^ 31 := by decide) (hl : l < 2 ^ 31 := by decide) : (∃ k, l ≤ k ∧ k ≤ n ∧ a = nI k ∧ fm_X11_in a lo hi = 1) ∨ fm_X11_in a lo hi = 0 := by
  subst hlo
  subst hhi
  rw [in_eq]
  by_cases h : nI l ≤ a ∧ a ≤ nI n
  · left
    have h0 : ¬ a < 0 := by
      intro q
      exact Int32.lt_irrefl (Int32.lt_of_le_of_lt (Int32.le_trans (nI_pos' hl) h.1) q)
    obtain ⟨j, hj, rfl⟩ := nI_of h0
    exact ⟨j, (nI_leI hl hj).mp h.1, (nI_leI hj hn).mp h.2, rfl, if_pos h⟩
  · right
    exact if_neg h
def er (m m' : xM2) : Prop := m'.2 = m.2 ∧ ∀ a, a ≠ 80 → m'.1 a = m.1 a
theorem er.at {m m' : xM2} (h : er m m') {a : Nat} (ha : a ≠ 80 := by decide) : m'.1 a = m.1 a := h.2 a ha
theorem kpR.A {m : xM2} {a : Nat} {f : Nat → Int32} (h : 89 ≤ a ∧ a ≠ 91 ∧ a ≠ 93 ∧ a ≠ 100 ∧ a ≠ 101 ∧ a ≠ 102 ∧ a ≠ 103 := by decide) : kpR m (sA m a f) :=
  ⟨fun b hb => ⟨sA_n (by omega), rfl⟩, sA_n (by omega), sA_n (by omega), sA_n (by omega), sA_n (by omega), sA_n (by omega), sA_n (by omega), rfl, rfl⟩
theorem kpR.F {m : xM2} {k : Nat} {x : Int32} (h : k ≠ 3 ∧ k ≠ 16 := by decide) : kpR m (sF m 89 k x) :=
  ⟨fun b hb => ⟨rfl, sF_n (by omega)⟩, rfl, rfl, rfl, rfl, rfl, rfl, by rw [sF_s, upd_n (by omega)], by rw [sF_s, upd_n (by omega)]⟩
theorem kpC.A {m : xM2} {a : Nat} {f : Nat → Int32} (h : a < 19 ∨ (37 ≤ a ∧ a < 77) := by decide) : kpC m (sA m a f) := ⟨fun b hb => ⟨sA_n (by omega), rfl⟩, rfl⟩
theorem kpC.F {m : xM2} {o k : Nat} {x : Int32} (h : (0 < o ∧ o < 19) ∨ (37 ≤ o ∧ o < 77) := by decide) : kpC m (sF m o k x) := ⟨fun b hb => ⟨rfl, sF_n (by omega)⟩, by rw [sF_n (by omega)]⟩
theorem scN.C {o : Nat} {m m' : xM2} (h : scN o m m') (ho : o = 2 ∨ o = 37 ∨ o = 51 := by decide) : kpC m m' := by
  refine ⟨fun a ha => ?_, ?_⟩
  · exact h a (by omega)
  · rw [(h 0 (by omega)).2]
theorem scD.R {m m' : xM2} (h : scD m m') : kpR m m' := by
  obtain ⟨a, b⟩ := h
  exact ⟨fun c hc => ⟨b c (by omega) (by omega) (by omega), by rw [a]⟩, b _ (by decide) (by decide) (by decide), b _ (by decide) (by decide) (by decide), b _ (by decide) (by decide) (by decide), b _ (by decide) (by decide) (by decide), b _ (by decide) (by decide) (by decide), b _ (by decide) (by decide) (by decide), by rw [a], by rw [a]⟩
theorem scR.R {m m' : xM2} (h : scR m m') : kpR m m' := h.D.R
theorem same_A {m : xM2} {a b : Nat} {f : Nat → Int32} (h : a ≠ b) : same m (sA m b f) a := ⟨sA_n h, rfl⟩
/-- both refuse, the class and the reference each after scratch work of its own -/
theorem Rel.errs {m0 m : xM2} {k : Nat} {f g : qx_H → Option (Int32 × qx_H)} (h : Rel m) (h1 : 1 ≤ k) (h2 : k ≤ 6) (hf : f (mk m0) = fm_X10_refuse 0 (-1000000000 - nI k) (mk m))
    (hg : ∀ m', er m m' → ∃ m2, kpR m' m2 ∧ m2.1 90 = m'.1 90 ∧ g (mk m') = fm_X11_error 89 (nI k) (mk m2)) : pr m0 f g := by
  obtain ⟨m2, a1, a2, a3⟩ := hg (sA m 80 (upd (m.1 80) k (m.1 80 k + 1))) ⟨rfl, fun a ha => sA_n ha⟩
  have a2' : m2.1 90 = m.1 90 := a2
  obtain ⟨hq, hw, ⟨i1, i2⟩, he, hsh, ⟨n, n1, n2, n3, n4⟩⟩ := h
  obtain ⟨r1, r2, r3, r4, r5, r6, r7, r8, r9⟩ := a1
  have st : ∀ a, a < 89 → a ≠ 80 → same m (sA m2 93 (upd (m2.1 93) k (m2.1 93 k + 1))) a := fun a ha hb => ⟨(sA_n (by omega)).trans ((r1 a ha).1.trans (sA_n hb)), (r1 a ha).2⟩
  have e3 : m2.2 89 3 = m.2 89 3 := r8
  have e16 : m2.2 89 16 = m.2 89 16 := r9
  refine ⟨_, _, sA m2 93 (upd (m2.1 93) k (m2.1 93 k + 1)), hf.trans (refuse_ok h1 h2), a3.trans (error_ok (by omega)), ?_, ?_, ⟨?_, fun q => ?_⟩, fun j j1 j2 => ?_, fun i hi => ?_, ⟨n, n1, ?_, ?_, fun j hj => ?_⟩⟩
  · rw [sA_n (by decide), a2']
    exact hq.mv fun a h1 h2 => st a (by omega) (by omega)
  · rw [sA_n (by decide), a2']
    exact hw
  · rw [(st 0 (by decide) (by decide)).2, sA_2, e3]
    exact i1
  · rw [sA_2, e3] at q
    rw [sA_n (by decide), r2]
    exact ⟨(i2 q).1.mv fun a h1 h2 => st a (by omega) (by omega), (i2 q).2⟩
  · rw [sA_s, sA_n (by decide), (r1 80 (by decide)).1, sA_s, r3]
    show upd (m.1 80) k (m.1 80 k + 1) j = upd (m.1 93) k (m.1 93 k + 1) j
    by_cases e : j = k
    · rw [e, upd_s, upd_s, he k h1 h2]
    · rw [upd_n e, upd_n e]
      exact he j j1 j2
  · have c5 : m2.1 101 = m.1 101 := r5
    have c6 : m2.1 102 = m.1 102 := r6
    have c7 : m2.1 103 = m.1 103 := r7
    exact (hsh i hi).mv (st _ (by omega) (by omega)) (st _ (by omega) (by omega)) (by rw [sA_n (by decide), c5]) (by rw [sA_n (by decide), c6]) (by rw [sA_n (by decide), c7])
  · rw [(st 77 (by decide) (by decide)).2]
    exact n2
  · rw [sA_2, e16]
    exact n3
  · rw [(st 78 (by decide) (by decide)).1, sA_n (by decide), r4]
    exact n4 j hj
theorem Rel.err {m : xM2} {f g : qx_H → Option (Int32 × qx_H)} (h : Rel m) (k : Nat) (h1 : 1 ≤ k ∧ k ≤ 6) (hf : f (mk m) = fm_X10_refuse 0 (-1000000000 - nI k) (mk m))
    (hg : ∀ m', er m m' → g (mk m') = fm_X11_error 89 (nI k) (mk m')) : pr m f g :=
  h.errs h1.1 h1.2 hf fun m' e => ⟨m', kpR.rf, rfl, hg m' e⟩
theorem Rel.ok {m m1 m2 : xM2} {v : Int32} {s' : Nat → Int32} {f g : qx_H → Option (Int32 × qx_H)} (h : Rel m) (hf : f (mk m) = some (v, mk m1)) (hg : g (mk m1) = some (v, mk m2)) (hc : kpC m m1) (hr : kpR m1 m2) (hq : quayR m1 1 s') (hs : m2.1 90 = s') (hw : wf s') : pr m f g :=
  ⟨v, m1, m2, hf, hg, h.step hc hr hq hs hw⟩
/-- a call that changes nothing but scratch rows -/
theorem Rel.see {m m1 m2 : xM2} {v : Int32} {f g : qx_H → Option (Int32 × qx_H)} (h : Rel m) (hf : f (mk m) = some (v, mk m1)) (hg : g (mk m1) = some (v, mk m2)) (hc : kpC m m1) (hq : quayR m1 1 (m.1 90)) (hr : kpR m1 m2) (hs : m2.1 90 = m1.1 90) : pr m f g :=
  h.ok hf hg hc hr hq (by rw [hs, (hc.1 90 (Or.inr (by decide))).1]) h.2.1
theorem Rel.e1 {m : xM2} {f g : qx_H → Option (Int32 × qx_H)} (h : Rel m) (hf : f (mk m) = fm_X10_refuse 0 (-1000000001) (mk m)) (hg : ∀ m', er m m' → g (mk m') = fm_X11_error 89 1 (mk m')) : pr m f g :=
  h.err 1 (by decide) (by rw [show (-1000000000 - nI 1 : Int32) = -1000000001 by decide]; exact hf) hg
theorem Rel.e2 {m : xM2} {f g : qx_H → Option (Int32 × qx_H)} (h : Rel m) (hf : f (mk m) = fm_X10_refuse 0 (-1000000002) (mk m)) (hg : ∀ m', er m m' → g (mk m') = fm_X11_error 89 2 (mk m')) : pr m f g :=
  h.err 2 (by decide) (by rw [show (-1000000000 - nI 2 : Int32) = -1000000002 by decide]; exact hf) hg
theorem Rel.e3 {m : xM2} {f g : qx_H → Option (Int32 × qx_H)} (h : Rel m) (hf : f (mk m) = fm_X10_refuse 0 (-1000000003) (mk m)) (hg : ∀ m', er m m' → g (mk m') = fm_X11_error 89 3 (mk m')) : pr m f g :=
  h.err 3 (by decide) (by rw [show (-1000000000 - nI 3 : Int32) = -1000000003 by decide]; exact hf) hg
theorem Rel.e4 {m : xM2} {f g : qx_H → Option (Int32 × qx_H)} (h : Rel m) (hf : f (mk m) = fm_X10_refuse 0 (-1000000004) (mk m)) (hg : ∀ m', er m m' → g (mk m') = fm_X11_error 89 4 (mk m')) : pr m f g :=
  h.err 4 (by decide) (by rw [show (-1000000000 - nI 4 : Int32) = -1000000004 by decide]; exact hf) hg
theorem Rel.e5 {m : xM2} {f g : qx_H → Option (Int32 × qx_H)} (h : Rel m) (hf : f (mk m) = fm_X10_refuse 0 (-1000000005) (mk m)) (hg : ∀ m', er m m' → g (mk m') = fm_X11_error 89 5 (mk m')) : pr m f g :=
  h.err 5 (by decide) (by rw [show (-1000000000 - nI 5 : Int32) = -1000000005 by decide]; exact hf) hg
