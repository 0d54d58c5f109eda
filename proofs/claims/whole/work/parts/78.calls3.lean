/-! CALLS: IMAGES, TALES, COUNTS -/
theorem quayR.cg {m : xM2} {q : Nat} {s s' : Nat → Int32} (h : quayR m q s) (he : ∀ j, j < 515 → s' j = s j) : quayR m q s' := by
  obtain ⟨a1, a2, a3, a4, a5, a6, a7, a8⟩ := h
  refine ⟨a1.cg (he 0 (by decide)) (fun j _ h2 => he j (by omega)), fun i hi => ?_, fun i hi => ?_, fun i hi => ?_, ?_, ?_, ?_, ?_⟩
  · rw [he _ (by omega)]; exact a2 i hi
  · rw [he _ (by omega)]; exact a3 i hi
  · rw [he _ (by omega)]; exact a4 i hi
  · rw [he _ (by omega)]; exact a5
  · rw [he _ (by omega)]; exact a6
  · rw [he _ (by omega)]; exact a7
  · rw [he _ (by omega)]; exact a8
theorem wf.cg {s s' : Nat → Int32} (h : wf s) (he : ∀ j, j < 515 → s' j = s j) : wf s' := by
  obtain ⟨⟨t0, t1, ⟨d, d1, d2, d3⟩, w1, w2⟩, hk6, hw1, a2, a3, hsp⟩ := h
  have eT : eqT s s' := fun j _ h2 => he j (by omega)
  refine ⟨⟨eT.ok (by decide) t0, eT.ok (by decide) t1, ⟨d, d1, by rw [he _ (by omega)]; exact d2, fun k hk => by rw [he _ (by omega)]; exact d3 k hk⟩, fun t ht => by rw [he _ (by omega)]; exact w1 t ht, fun t ht => by rw [he _ (by omega), he _ (by omega)]; exact w2 t ht⟩, fun k hk => by rw [he _ (by omega)]; exact hk6 k hk, fun t ht => by rw [he _ (by omega)]; exact hw1 t ht, by rw [he _ (by omega)]; exact a2, by rw [he _ (by omega)]; exact a3, fun i hi => by rw [he _ (by omega)]; exact hsp i hi⟩
theorem cpy_lt {f g : Nat → Int32} {n i : Nat} (h : i < n) : cpy f g n i = f i := if_pos h
theorem cpy_ge {f g : Nat → Int32} {n i : Nat} (h : n ≤ i) : cpy f g n i = g i := if_neg (by omega)
theorem back_eq {s s' p : Nat → Int32} (h : ∀ j, 181 ≤ j → s' j = s j) : cpy (cpy s p 181) s' 181 = s := by
  funext j
  by_cases e : j < 181
  · rw [cpy_lt e, cpy_lt e]
  · rw [cpy_ge (by omega), h j (by omega)]
theorem carryK_ok {m : xM2} : fm_X11_carry 90 91 515 (mk m) = some (mk (sA m 91 (cpy (m.1 90) (m.1 91) 515))) := by
  have h := carry_loop (m := m) (a := 90) (b := 91) (N := 515) (by decide) mA_90 mA_91 mS_91 (by decide) (by decide) (by decide) (by decide) 515 0 5000 rfl (by decide)
  rw [cpy_0, sA_self] at h
  unfold fm_X11_carry
  rw [show (515 : Int32) = nI 515 from rfl, show (0 : Int32) = nI 0 from rfl, h]
theorem carryS_ok {m : xM2} : fm_X11_carry 91 90 515 (mk m) = some (mk (sA m 90 (cpy (m.1 91) (m.1 90) 515))) := by
  have h := carry_loop (m := m) (a := 91) (b := 90) (N := 515) (by decide) mA_91 mA_90 mS_90 (by decide) (by decide) (by decide) (by decide) 515 0 5000 rfl (by decide)
  rw [cpy_0, sA_self] at h
  unfold fm_X11_carry
  rw [show (515 : Int32) = nI 515 from rfl, show (0 : Int32) = nI 0 from rfl, h]
theorem p_image {m : xM2} (h : Rel m) : pr m (fm_X10_image 0) (fm_X11_image 89) := by
  obtain ⟨hq, hw, ⟨i1, i2⟩, he, hsh, ⟨n, n1, n2, n3, n4⟩⟩ := h
  obtain ⟨m1, a1, a2, a3⟩ := qbecome_ok (q := 19) (p := 1) (Or.inr rfl) (Or.inl rfl) (by decide) hq
  have a1' : ∀ a, a < 19 ∨ 37 ≤ a → m1.1 a = m.1 a ∧ m1.2 a = m.2 a := a1
  have e3 : m1.2 89 3 = m.2 89 3 := by rw [(a1' 89 (by decide)).2]
  have e10 : m1.2 0 10 = m.2 0 10 := by rw [(a1' 0 (by decide)).2]
  refine ⟨m.2 89 3 + 1, sF m1 0 10 (m.2 89 3 + 1), sF (sA (sF m1 0 10 (m.2 89 3 + 1)) 91 (cpy (m1.1 90) (m1.1 91) 515)) 89 3 (m.2 89 3 + 1), ?_, ?_, ?_, ?_, ⟨?_, fun _ => ⟨?_, ?_⟩⟩, fun k k1 k2 => ?_, fun i hi => ?_, ⟨n, n1, ?_, ?_, fun j hj => ?_⟩⟩
  · simp only [fm_X10_image, gR_0_0, gR_0_1, Option.bind_some, ob2_some, if_true, if_false, reduceIte, his_19, a3, gI_0_10, mP_0_10, e10, i1, sF_s, upd_s]
  · have c : fm_X11_carry 90 91 515 (mk (sF m1 0 10 (m.2 89 3 + 1))) = some (mk (sA (sF m1 0 10 (m.2 89 3 + 1)) 91 (cpy (m1.1 90) (m1.1 91) 515))) := carryK_ok
    have x3 : (sA (sF m1 0 10 (m.2 89 3 + 1)) 91 (cpy (m1.1 90) (m1.1 91) 515)).2 89 3 = m.2 89 3 := e3
    simp only [fm_X11_image, gR_89_0, gR_89_1, Option.bind_some, ob2_some, if_true, if_false, reduceIte, c, gI_89_3, mP_89_3, x3, sF_s, upd_s]
  · show quayR _ 1 (m1.1 90)
    rw [(a1' 90 (by decide)).1]
    exact hq.mv fun a h1 h2 => ⟨(sA_n (m := sF m1 0 10 (m.2 89 3 + 1)) (by omega)).trans (a1' a (by omega)).1, (sF_n (by omega)).trans ((sF_n (m := m1) (by omega)).trans (a1' a (by omega)).2)⟩
  · show wf (m1.1 90)
    rw [(a1' 90 (by decide)).1]
    exact hw
  · rw [sF_s, upd_s]
    show (sF m1 0 10 (m.2 89 3 + 1)).2 0 10 = _
    rw [sF_s, upd_s]
  · show quayR _ 19 (cpy (m1.1 90) (m1.1 91) 515)
    refine quayR.cg (s := m.1 90) ?_ fun j hj => by rw [cpy_lt hj, (a1' 90 (by decide)).1]
    exact a2.mv fun a h1 h2 => ⟨sA_n (m := sF m1 0 10 (m.2 89 3 + 1)) (by omega), (sF_n (by omega)).trans (sF_n (m := m1) (by omega))⟩
  · show wf (cpy (m1.1 90) (m1.1 91) 515)
    exact hw.cg fun j hj => by rw [cpy_lt hj, (a1' 90 (by decide)).1]
  · show m1.1 80 k = m1.1 93 k
    rw [(a1' 80 (by decide)).1, (a1' 93 (by decide)).1]
    exact he k k1 k2
  · refine (hsh i hi).mv ⟨?_, ?_⟩ ⟨?_, ?_⟩ ?_ ?_ ?_
    · exact (sA_n (m := sF m1 0 10 (m.2 89 3 + 1)) (by omega)).trans (a1' _ (by omega)).1
    · exact (sF_n (by omega)).trans ((sF_n (m := m1) (by omega)).trans (a1' _ (by omega)).2)
    · exact (sA_n (m := sF m1 0 10 (m.2 89 3 + 1)) (by omega)).trans (a1' _ (by omega)).1
    · exact (sF_n (by omega)).trans ((sF_n (m := m1) (by omega)).trans (a1' _ (by omega)).2)
    · exact (a1' 101 (by decide)).1
    · exact (a1' 102 (by decide)).1
    · exact (a1' 103 (by decide)).1
  · show m1.2 77 1 = _
    rw [(a1' 77 (by decide)).2]; exact n2
  · rw [sF_s, upd_n (by decide)]
    show m1.2 89 16 = _
    rw [(a1' 89 (by decide)).2]; exact n3
  · show m1.1 78 j = m1.1 100 j
    rw [(a1' 78 (by decide)).1, (a1' 100 (by decide)).1]
    exact n4 j hj
theorem p_restore {m : xM2} (h : Rel m) : pr m (fm_X10_restore 0) (fm_X11_restore 89) := by
  obtain ⟨hq, hw, ⟨i1, i2⟩, -⟩ := id h
  by_cases e0 : m.2 89 3 = 0
  · refine h.e2 ?_ fun m' e => ?_
    · simp only [fm_X10_restore, below2, below3, below4, below5, below6, below7, below20, below31, below70, within_in, fm_X11_isKnot, fm_X11_isThread, fm_X11_isHand, fm_X11_isSheet, his_0, his_89, Option.bind_some, ob2_some, if_true, if_false, reduceIte, ob2_eta, one_ne, gI_0_10, i1, e0]
    · simp only [fm_X11_restore, below2, below3, below4, below5, below6, below7, below20, below31, below70, within_in, fm_X11_isKnot, fm_X11_isThread, fm_X11_isHand, fm_X11_isSheet, his_0, his_89, Option.bind_some, ob2_some, if_true, if_false, reduceIte, ob2_eta, one_ne, gI_89_3, e.1, e0]
  · obtain ⟨k1, k2⟩ := i2 e0
    obtain ⟨m1, a1, a2, a3⟩ := qbecome_ok (q := 1) (p := 19) (Or.inl rfl) (Or.inr rfl) (by decide) k1
    have a1' : ∀ a, a < 1 ∨ 19 ≤ a → m1.1 a = m.1 a ∧ m1.2 a = m.2 a := a1
    have e3 : m1.2 89 3 = m.2 89 3 := by rw [(a1' 89 (by decide)).2]
    have hc : ∀ j, j < 515 → cpy (m1.1 91) (m1.1 90) 515 j = m.1 91 j := fun j hj => by rw [cpy_lt hj, (a1' 91 (by decide)).1]
    refine h.ok (v := m.1 91 0) (m1 := m1) (m2 := sA m1 90 (cpy (m1.1 91) (m1.1 90) 515)) ?_ ?_ ⟨fun a ha => a1' a (by omega), by rw [(a1' 0 (by decide)).2]⟩ kpR.A (a2.cg hc) sA_s (k2.cg hc)
    · have v : m1.2 2 10 = m.1 91 0 := a2.1.2.2.2.2.2.2.2.1
      simp only [fm_X10_restore, below2, below3, below4, below5, below6, below7, below20, below31, below70, within_in, fm_X11_isKnot, fm_X11_isThread, fm_X11_isHand, fm_X11_isSheet, his_0, his_89, Option.bind_some, ob2_some, if_true, if_false, reduceIte, ob2_eta, one_ne, gI_0_10, i1, e0, gR_0_0, gR_0_1, his_1, a3, gR_1_0, gI_2_10, v]
    · simp only [fm_X11_restore, below2, below3, below4, below5, below6, below7, below20, below31, below70, within_in, fm_X11_isKnot, fm_X11_isThread, fm_X11_isHand, fm_X11_isSheet, his_0, his_89, Option.bind_some, ob2_some, if_true, if_false, reduceIte, ob2_eta, one_ne, gI_89_3, e3, e0, gR_89_0, gR_89_1, carryS_ok, al0, sA_s]
      rw [hc 0 (by decide)]
theorem p_tell {m : xM2} (h : Rel m) (a : Int32) : pr m (fm_X10_tell 0 a) (fm_X11_tell 89 a) := by
  obtain ⟨hq, hw, -⟩ := id h
  obtain ⟨c, hc, ec⟩ := hw.2.2.2.2.1
  have w1 : m.2 1 5 = nI c := hq.2.2.2.2.2.1.trans ec
  have al3 : ∀ m : xM2, hp_ald (mk m) 90 3 = some (m.1 90 3) := fun m => al_90 m (i := 3) (by decide)
  have as3 : ∀ (m : xM2) x, hp_ast (mk m) 90 3 x = some (mk (sA m 90 (upd (m.1 90) 3 x))) := fun m x => as_90 m (i := 3) (by decide)
  by_cases e : c = 24
  · subst e
    refine h.e4 ?_ fun m' e => ?_
    · simp only [fm_X10_tell, below2, below3, below4, below5, below6, below7, below20, below31, below70, within_in, fm_X11_isKnot, fm_X11_isThread, fm_X11_isHand, fm_X11_isSheet, his_0, his_89, Option.bind_some, ob2_some, if_true, if_false, reduceIte, ob2_eta, one_ne, gR_0_0, gI_1_5, w1, show ¬ nI 24 < 24 by decide]
    · simp only [fm_X11_tell, below2, below3, below4, below5, below6, below7, below20, below31, below70, within_in, fm_X11_isKnot, fm_X11_isThread, fm_X11_isHand, fm_X11_isSheet, his_0, his_89, Option.bind_some, ob2_some, if_true, if_false, reduceIte, ob2_eta, one_ne, gR_89_0, al3, e.at (a := 90), ec, show nI 24 = 24 from rfl]
  · have hc' : c < 24 := by omega
    have q1 := hq.row (x := a) (d := 17) (b := 491) (n := 24) (by decide) hc'
    have q2 := q1.fld (k := 5) (j := 3) (x := nI (c + 1))
    have lt : (nI c : Int32) < 24 := nI_lt (b := 24) hc' (by decide)
    have ne : ¬ (nI c : Int32) = 24 := fun q => e ((nI_eq (b := 24) (by omega) (by decide)).mp q)
    refine h.ok (v := nI (c + 1)) (m1 := sF (sA m 18 (upd (m.1 18) c a)) 1 5 (nI (c + 1))) (m2 := sA (sF (sA m 18 (upd (m.1 18) c a)) 1 5 (nI (c + 1))) 90 (upd (upd (m.1 90) (491 + c) a) 3 (nI (c + 1)))) ?_ ?_ (kpC.tr kpC.A kpC.F) kpR.A q2 sA_s ((hw.low (by omega)).waits (by omega))
    · simp only [fm_X10_tell, below2, below3, below4, below5, below6, below7, below20, below31, below70, within_in, fm_X11_isKnot, fm_X11_isThread, fm_X11_isHand, fm_X11_isSheet, his_0, his_89, Option.bind_some, ob2_some, if_true, if_false, reduceIte, ob2_eta, one_ne, gR_0_0, gI_1_5, w1, lt, gR_1_3, as_18 _ hc', sA_2, mP_1_5, nI_1, sF_s, upd_s]
    · have r3 : (sF (sA m 18 (upd (m.1 18) c a)) 1 5 (nI (c + 1))).1 90 = m.1 90 := rfl
      have x3 : (upd (m.1 90) (491 + c) a) 3 = nI c := by rw [upd_n (by omega)]; exact ec
      simp only [fm_X11_tell, below2, below3, below4, below5, below6, below7, below20, below31, below70, within_in, fm_X11_isKnot, fm_X11_isThread, fm_X11_isHand, fm_X11_isSheet, his_0, his_89, Option.bind_some, ob2_some, if_true, if_false, reduceIte, ob2_eta, one_ne, gR_89_0, al3, as3, r3, ec, ne, show (491 : Int32) + nI c = nI (491 + c) from nI_add 491 c, as_90 _ (show 491 + c < 515 by omega), sA_s, x3, nI_1, upd_s, sA_sA]
theorem Rel.val {m : xM2} {v : Int32} {f g : qx_H → Option (Int32 × qx_H)} (h : Rel m) (hf : f (mk m) = some (v, mk m)) (hg : g (mk m) = some (v, mk m)) : pr m f g := ⟨v, m, m, hf, hg, h⟩
theorem p_told {m : xM2} (h : Rel m) (a : Int32) : pr m (fm_X10_told 0 a) (fm_X11_told 89 a) := by
  rcases inC a (lo := 1) (hi := 6) 1 6 with ⟨k, k1, k2, rfl, ea⟩ | ea
  · have he := h.2.2.2.1 k k1 k2
    refine h.val (v := m.1 93 k) ?_ ?_
    · simp only [fm_X10_told, below2, below3, below4, below5, below6, below7, below20, below31, below70, within_in, fm_X11_isKnot, fm_X11_isThread, fm_X11_isHand, fm_X11_isSheet, his_0, his_89, Option.bind_some, ob2_some, if_true, if_false, reduceIte, ob2_eta, one_ne, ea, gR_0_9, al_80 _ (show k < 7 by omega), he]
    · simp only [fm_X11_told, below2, below3, below4, below5, below6, below7, below20, below31, below70, within_in, fm_X11_isKnot, fm_X11_isThread, fm_X11_isHand, fm_X11_isSheet, his_0, his_89, Option.bind_some, ob2_some, if_true, if_false, reduceIte, ob2_eta, one_ne, ea, gR_89_4, al_93 _ (show k < 7 by omega)]
  · refine h.e1 ?_ fun m' e => ?_ <;> simp only [fm_X10_told, fm_X11_told, below2, below3, below4, below5, below6, below7, below20, below31, below70, within_in, fm_X11_isKnot, fm_X11_isThread, fm_X11_isHand, fm_X11_isSheet, his_0, his_89, Option.bind_some, ob2_some, if_true, if_false, reduceIte, ob2_eta, one_ne, ea]
theorem p_body {m : xM2} (h : Rel m) (a : Int32) : pr m (fm_X10_body 0 a) (fm_X11_body 89 a) := by
  obtain ⟨n, n1, n2, n3, n4⟩ := id h.2.2.2.2.2
  rcases n with _ | n
  · have e1 : fm_X10_isBelow a (nI 0) = 0 := by
      unfold fm_X10_isBelow
      by_cases q : a < 0
      · rw [if_pos q]
      · rw [if_neg q]
        exact if_pos (Int32.not_lt.mp q)
    have e2 : fm_X11_in a 0 (nI 0 - 1) = 0 := by
      rw [in_eq, if_neg]
      rintro ⟨q1, q2⟩
      exact absurd (Int32.le_trans q1 q2) (by decide)
    refine h.e2 ?_ fun m' e => ?_
    · simp only [fm_X10_body, below2, below3, below4, below5, below6, below7, below20, below31, below70, within_in, fm_X11_isKnot, fm_X11_isThread, fm_X11_isHand, fm_X11_isSheet, his_0, his_89, Option.bind_some, ob2_some, if_true, if_false, reduceIte, ob2_eta, one_ne, gR_0_7, gI_77_1, n2, e1]
    · simp only [fm_X11_body, below2, below3, below4, below5, below6, below7, below20, below31, below70, within_in, fm_X11_isKnot, fm_X11_isThread, fm_X11_isHand, fm_X11_isSheet, his_0, his_89, Option.bind_some, ob2_some, if_true, if_false, reduceIte, ob2_eta, one_ne, gI_89_16, e.1, n3, e2]
  · have eb : fm_X10_isBelow a (nI (n + 1)) = fm_X11_in a 0 (nI n) := below_in (by omega)
    rcases inC a (lo := 0) (hi := nI n) 0 n rfl rfl (by omega) with ⟨k, -, k2, rfl, ea⟩ | ea
    · have v := n4 k (by omega)
      refine h.val (v := m.1 100 k) ?_ ?_
      · simp only [fm_X10_body, below2, below3, below4, below5, below6, below7, below20, below31, below70, within_in, fm_X11_isKnot, fm_X11_isThread, fm_X11_isHand, fm_X11_isSheet, his_0, his_89, Option.bind_some, ob2_some, if_true, if_false, reduceIte, ob2_eta, one_ne, gR_0_7, gI_77_1, n2, eb, ea, gR_77_0, al_78 _ (show k < 30 by omega), v]
      · simp only [fm_X11_body, below2, below3, below4, below5, below6, below7, below20, below31, below70, within_in, fm_X11_isKnot, fm_X11_isThread, fm_X11_isHand, fm_X11_isSheet, his_0, his_89, Option.bind_some, ob2_some, if_true, if_false, reduceIte, ob2_eta, one_ne, gI_89_16, n3, nI_pred, ea, gR_89_15, al_100 _ (show k < 30 by omega)]
    · refine h.e2 ?_ fun m' e => ?_
      · simp only [fm_X10_body, below2, below3, below4, below5, below6, below7, below20, below31, below70, within_in, fm_X11_isKnot, fm_X11_isThread, fm_X11_isHand, fm_X11_isSheet, his_0, his_89, Option.bind_some, ob2_some, if_true, if_false, reduceIte, ob2_eta, one_ne, gR_0_7, gI_77_1, n2, eb, ea]
      · simp only [fm_X11_body, below2, below3, below4, below5, below6, below7, below20, below31, below70, within_in, fm_X11_isKnot, fm_X11_isThread, fm_X11_isHand, fm_X11_isSheet, his_0, his_89, Option.bind_some, ob2_some, if_true, if_false, reduceIte, ob2_eta, one_ne, gI_89_16, e.1, n3, nI_pred, ea]
