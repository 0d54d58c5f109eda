/-! CALLS: KNOTS AND THREADS -/
theorem ix0 {k : Nat} : ((8 : Int32) + 4 * nI k) + 0 = nI (8 + 4 * k + 0) := ix_its (w := 0)
theorem ix1 {k : Nat} : ((8 : Int32) + 4 * nI k) + 1 = nI (8 + 4 * k + 1) := ix_its (w := 1)
theorem scN.s {o : Nat} {m m' : xM2} (h : scN o m m') (ho : o ≤ 51 := by decide) : m'.1 90 = m.1 90 := (h 90 (by omega)).1
theorem p_tie {m : xM2} (h : Rel m) (a b c : Int32) : pr m (fm_X10_tie 0 a b c) (fm_X11_tie 89 a b c) := by
  rcases inC a (lo := 0) (hi := 19) 0 19 with ⟨k, -, hk, rfl, ea⟩ | ea
  · rcases inC b (lo := 0) (hi := 69) 0 69 with ⟨x, -, hx, rfl, eb⟩ | eb
    · rcases inC c (lo := 0) (hi := 4) 0 4 with ⟨y, -, hy, rfl, ec⟩ | ec
      · obtain ⟨hq, hw, -⟩ := id h
        obtain ⟨a1, a2, a3, a4, a5, a6, a7, a8, a9, b1⟩ := id hq.1
        have hk' : k < 20 := by omega
        have no : isNet 2 := Or.inl rfl
        have e10 : ∃ c, c ≤ 6 ∧ nI x / 10 = nI c := ⟨x / 10, by omega, pk_div (d := 10) (by omega) (by decide) (by decide)⟩
        obtain ⟨m1, c1, c2, m1', c3, c4⟩ := kind_ok (x := nI x / 10) (y := ji_rem (nI x) 10) no hq.1 hk'
        obtain ⟨m2, d1, d2, d3⟩ := tieAnew_ok (x := nI y) no c2 hk'
        have w1 := (((hw.k0 hk' e10).k12 hk' (w := 1) (x := ji_rem (nI x) 10)).k12 hk' (w := 2) (x := nI y)).k3 hk' (x := m.1 90 0) (by rw [upd_n (by omega), upd_n (by omega), upd_n (by omega)])
        rw [upd_n (by omega), upd_n (by omega)] at d2
        have e90 : m2.1 90 = m.1 90 := (c1.tr d1).s
        refine h.ok (v := 10 * m.1 90 (8 + 4 * k) + m.1 90 (8 + 4 * k + 1)) (m1 := m2) (m2 := sA m2 90 (upd (upd (upd (upd (m.1 90) (8 + 4 * k + 0) (nI x / 10)) (8 + 4 * k + 1) (ji_rem (nI x) 10)) (8 + 4 * k + 2) (nI y)) (8 + 4 * k + 3) (m.1 90 0))) ?_ ?_ (c1.tr d1).C kpR.A (hq.net (c1.tr d1) d2 fun j h1 h2 => by rw [upd_n (by omega), upd_n (by omega), upd_n (by omega), upd_n (by omega)]) sA_s w1
        · have c3' : hp_ast (mk m) 3 (nI k) (nI x / 10) = some (mk m1') := c3
          have c4' : hp_ast (mk m1') 4 (nI k) (ji_rem (nI x) 10) = some (mk m1) := c4
          have v1 : m.1 3 k = m.1 90 (8 + 4 * k) := a1 k hk'
          have v2 : m.1 4 k = m.1 90 (8 + 4 * k + 1) := a2 k hk'
          simp only [fm_X10_tie, below2, below3, below4, below5, below6, below7, below20, below31, below70, within_in, fm_X11_isKnot, fm_X11_isThread, fm_X11_isHand, fm_X11_isSheet, ea, eb, ec, one_ne, Option.bind_some, ob2_some, if_true, if_false, reduceIte, gR_0_0, gR_1_0, gR_2_0, gR_2_1, al_3 _ hk', al_4 _ hk', c3', c4', his_2, d3, v1, v2]
        · simp only [fm_X11_tie, below2, below3, below4, below5, below6, below7, below20, below31, below70, within_in, fm_X11_isKnot, fm_X11_isThread, fm_X11_isHand, fm_X11_isSheet, ea, eb, ec, one_ne, Option.bind_some, ob2_some, if_true, if_false, reduceIte, his_89, gR_89_0, its0 hk', its1 hk', ix0, ix1, as_90 _ (show 8 + 4 * k + 0 < 515 by omega), as_90 _ (show 8 + 4 * k + 1 < 515 by omega), tiedBy_ok hk', sA_s, sA_sA, e90]
          rw [upd_n (show 0 ≠ 8 + 4 * k + 1 by omega), upd_n (show 0 ≠ 8 + 4 * k + 0 by omega)]
      · refine h.e1 ?_ fun m' e => ?_ <;> simp only [fm_X10_tie, fm_X11_tie, fm_X10_tie_b26, fm_X11_tie_b24, below2, below3, below4, below5, below6, below7, below20, below31, below70, within_in, fm_X11_isKnot, fm_X11_isThread, fm_X11_isHand, fm_X11_isSheet, his_0, his_89, Option.bind_some, ob2_some, if_true, if_false, reduceIte, ob2_eta, one_ne, ea, eb, ec]
    · refine h.e1 ?_ fun m' e => ?_ <;> simp only [fm_X10_tie, fm_X11_tie, fm_X10_tie_b26, fm_X11_tie_b24, below2, below3, below4, below5, below6, below7, below20, below31, below70, within_in, fm_X11_isKnot, fm_X11_isThread, fm_X11_isHand, fm_X11_isSheet, his_0, his_89, Option.bind_some, ob2_some, if_true, if_false, reduceIte, ob2_eta, one_ne, ea, eb]
  · refine h.e1 ?_ fun m' e => ?_ <;> simp only [fm_X10_tie, fm_X11_tie, fm_X10_tie_b26, fm_X11_tie_b24, below2, below3, below4, below5, below6, below7, below20, below31, below70, within_in, fm_X11_isKnot, fm_X11_isThread, fm_X11_isHand, fm_X11_isSheet, his_0, his_89, Option.bind_some, ob2_some, if_true, if_false, reduceIte, ob2_eta, one_ne, ea]
