/-! A NET CHANGED BY CALLS -/
theorem scN.K {o w : Nat} {m : xM2} {f : Nat → Int32} (h : w < 4) : scN o m (sA m (o + 1 + w) f) := by
  rw [show o + 1 + w = o + (1 + w) by omega]
  exact scN.A (by omega)
theorem tieAnew_ok {m : xM2} {o k : Nat} {s : Nat → Int32} {x : Int32} (ho : isNet o) (h : netR m o s) (hk : k < 20) : ∃ m', scN o m m' ∧ netR m' o (upd (upd s (8 + 4 * k + 2) x) (8 + 4 * k + 3) (s 0)) ∧ fm_X5_tieAnew o (nI k) x (mk m) = some (mk m') := by
  have a8 := h.2.2.2.2.2.2.2.1
  have n1 := h.knot hk (w := 2) (by decide) (x := x)
  have n2 := n1.knot hk (w := 3) (by decide) (x := m.2 o 10)
  rw [a8] at n2
  refine ⟨_, (scN.K (by decide)).tr (scN.K (by decide)), n2, ?_⟩
  unfold fm_X5_tieAnew
  simp only [ntR2 ho, ntR3 ho, Option.bind_some, ob2_some, if_true, if_false, reduceIte, ntS3 ho _ hk, ntS4 ho _ hk, ntI10 ho, sA_2, a8]
theorem kind_ok {m : xM2} {o k : Nat} {s : Nat → Int32} {x y : Int32} (ho : isNet o) (h : netR m o s) (hk : k < 20) : ∃ m', scN o m m' ∧ netR m' o (upd (upd s (8 + 4 * k + 0) x) (8 + 4 * k + 1) y) ∧ ∃ m1, hp_ast (mk m) (o + 1) (nI k) x = some (mk m1) ∧ hp_ast (mk m1) (o + 2) (nI k) y = some (mk m') := by
  have n1 := h.knot hk (w := 0) (by decide) (x := x)
  have n2 := n1.knot hk (w := 1) (by decide) (x := y)
  exact ⟨_, (scN.K (by decide)).tr (scN.K (by decide)), n2, _, ntS1 ho _ hk, ntS2 ho _ hk⟩
/-- reference rows -/
theorem tiedBy_ok {m : xM2} {k : Nat} {x : Int32} (hk : k < 20) : fm_X11_tiedBy 89 (nI k) x (mk m) = some (mk (sA m 90 (upd (upd (m.1 90) (8 + 4 * k + 2) x) (8 + 4 * k + 3) (m.1 90 0)))) := by
  unfold fm_X11_tiedBy
  rw [show ((8 : Int32) + 4 * nI k) + 2 = nI (8 + 4 * k + 2) from ix_its (w := 2), show ((8 : Int32) + 4 * nI k) + 3 = nI (8 + 4 * k + 3) from ix_its (w := 3)]
  simp only [gR_89_0, Option.bind_some, ob2_some, if_true, if_false, reduceIte, al0, as_90 _ (show 8 + 4 * k + 2 < 515 by omega), as_90 _ (show 8 + 4 * k + 3 < 515 by omega), sA_s, sA_sA]
  rw [upd_n (show 0 ≠ 8 + 4 * k + 2 by omega)]
theorem renews_ok {m : xM2} {t : Nat} (ht : t < 31) : fm_X11_renews 89 (nI t) (mk m) = some (mk (sA m 90 (upd (upd (upd (m.1 90) (88 + 3 * t + 0) 1) (88 + 3 * t + 1) 0) (88 + 3 * t + 2) (m.1 90 0)))) := by
  unfold fm_X11_renews
  rw [show ((88 : Int32) + 3 * nI t) + 0 = nI (88 + 3 * t + 0) from ix_of (w := 0), show ((88 : Int32) + 3 * nI t) + 1 = nI (88 + 3 * t + 1) from ix_of (w := 1), show ((88 : Int32) + 3 * nI t) + 2 = nI (88 + 3 * t + 2) from ix_of (w := 2)]
  simp only [gR_89_0, Option.bind_some, ob2_some, if_true, if_false, reduceIte, al0, as_90 _ (show 88 + 3 * t + 0 < 515 by omega), as_90 _ (show 88 + 3 * t + 1 < 515 by omega), as_90 _ (show 88 + 3 * t + 2 < 515 by omega), sA_s, sA_sA]
  rw [upd_n (show 0 ≠ 88 + 3 * t + 1 by omega), upd_n (show 0 ≠ 88 + 3 * t + 0 by omega)]
theorem change1_ok {m : xM2} {j : Nat} {x : Int32} (hj : j < 515) : fm_X11_change1 89 (nI j) x (mk m) = some (m.1 90 j, mk (sA m 90 (upd (m.1 90) j x))) := by
  unfold fm_X11_change1
  simp only [gR_89_0, Option.bind_some, ob2_some, if_true, if_false, reduceIte, al_90 _ hj, as_90 _ hj]
theorem wf.k12 {s : Nat → Int32} {k w : Nat} {x : Int32} (h : wf s) (hk : k < 20) (hw : w = 1 ∨ w = 2 := by decide) : wf (upd s (8 + 4 * k + w) x) := h.knot hk (by omega) (fun q => absurd q (by omega)) (fun q => absurd q (by omega))
theorem wf.k0 {s : Nat → Int32} {k : Nat} {x : Int32} (h : wf s) (hk : k < 20) (hx : ∃ c, c ≤ 6 ∧ x = nI c) : wf (upd s (8 + 4 * k + 0) x) := h.knot hk (by decide) (fun _ => hx) (fun q => absurd q (by decide))
theorem wf.k3 {s : Nat → Int32} {k : Nat} {x : Int32} (h : wf s) (hk : k < 20) (hx : x = s 0) : wf (upd s (8 + 4 * k + 3) x) := h.knot hk (by decide) (fun q => absurd q (by decide)) (fun _ => hx)
