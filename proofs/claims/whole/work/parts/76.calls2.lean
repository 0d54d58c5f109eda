/-! CALLS: MORE OF KNOTS AND THREADS -/
theorem no2 : isNet 2 := Or.inl rfl
theorem in0_ne {a lo hi : Int32} {l n k : Nat} (h : fm_X11_in a lo hi = 0) (hk : l ≤ k ∧ k ≤ n) (hlo : lo = nI l := by rfl) (hhi : hi = nI n := by rfl) (hn : n < 2 ^ 31 := by decide) : ¬ a = nI k := by
  intro e
  subst e
  subst hlo
  subst hhi
  rw [in_eq, if_pos ⟨(nI_leI (by omega) (by omega)).mpr hk.1, (nI_leI (by omega) hn).mpr hk.2⟩] at h
  exact absurd h (by decide)
theorem under_ok : ∀ c, c ≤ 6 → ∀ k, k ≤ 6 → ∀ H, fm_X2_isUnder (nI c) (nI k) H = some (fm_X11_isUnder (nI c) (nI k)) := by
  intro c hc k hk H
  have key : ∀ c, c ≤ 6 → ∀ k, k ≤ 6 → fm_X2_isUnder_b4 8 (nI k) (nI c) 0 [] = some (fm_X11_isUnder (nI c) (nI k)) := by decide +kernel
  have hH : ∀ n a b i, fm_X2_isUnder_b4 n a b i H = fm_X2_isUnder_b4 n a b i [] := by
    intro n
    induction n with
    | zero => intro a b i; rfl
    | succ n ih => intro a b i; rw [fm_X2_isUnder_b4, fm_X2_isUnder_b4, ih]
  have hm : ∀ n a b i v, fm_X2_isUnder_b4 n a b i [] = some v → fm_X2_isUnder_b4 (n + 1) a b i [] = some v := by
    intro n
    induction n with
    | zero => intro a b i v h; exact absurd h (by simp [fm_X2_isUnder_b4])
    | succ n ih =>
      intro a b i v h
      rw [fm_X2_isUnder_b4] at h ⊢
      split
      · rw [if_pos (by assumption)] at h; exact h
      · rw [if_neg (by assumption)] at h
        split
        · rw [if_pos (by assumption)] at h; exact h
        · rw [if_neg (by assumption)] at h
          split
          · rw [if_pos (by assumption)] at h; exact h
          · rw [if_neg (by assumption)] at h
            exact ih _ _ _ _ h
  unfold fm_X2_isUnder
  rw [hH]
  have : ∀ j n, 8 + j = n → fm_X2_isUnder_b4 n (nI k) (nI c) 0 [] = some (fm_X11_isUnder (nI c) (nI k)) := by
    intro j
    induction j with
    | zero => intro n e; subst e; exact key c hc k hk
    | succ j ih => intro n e; subst e; exact hm _ _ _ _ _ (ih _ rfl)
  exact this 4992 5000 rfl
theorem quayR.scC {m m' : xM2} {s : Nat → Int32} (h : quayR m 1 s) (hs : scC 2 m m') : quayR m' 1 s := h.net hs.N (h.1.sc hs) (fun _ _ _ => rfl)
theorem wf.d {s : Nat → Int32} (h : wf s) : dayOk s 9999 := h.1
theorem p_as {m : xM2} (h : Rel m) (a b : Int32) : pr m (fm_X10_as 0 a b) (fm_X11_as 89 a b) := by
  rcases inC a (lo := 0) (hi := 19) 0 19 with ⟨k, -, hk, rfl, ea⟩ | ea
  · rcases inC b (lo := 0) (hi := 6) 0 6 with ⟨x, -, hx, rfl, eb⟩ | eb
    · obtain ⟨hq, hw, -⟩ := id h
      have hk' : k < 20 := by omega
      obtain ⟨c, hc, kc⟩ := hw.2.1 k hk'
      have kd : m.1 3 k = nI c := (hq.1.1 k hk').trans kc
      by_cases hu : fm_X11_isUnder (nI c) (nI x) = 0
      · refine h.e5 ?_ fun m' e => ?_
        · simp only [fm_X10_as, below2, below3, below4, below5, below6, below7, below20, below31, below70, within_in, fm_X11_isKnot, fm_X11_isThread, fm_X11_isHand, fm_X11_isSheet, his_0, his_89, Option.bind_some, ob2_some, if_true, if_false, reduceIte, ob2_eta, one_ne, ea, eb, gR_0_0, gR_1_0, gR_2_0, al_3 _ hk', kd, under_ok c hc x hx, hu]
        · simp only [fm_X11_as, below2, below3, below4, below5, below6, below7, below20, below31, below70, within_in, fm_X11_isKnot, fm_X11_isThread, fm_X11_isHand, fm_X11_isSheet, his_0, his_89, Option.bind_some, ob2_some, if_true, if_false, reduceIte, ob2_eta, one_ne, ea, eb, its0 hk', e.at (a := 90), kc, hu]
      · obtain ⟨m1, c1, c2⟩ := holdsOf_ok no2 hq.1 hw.d (by decide) hk'
        have e90 := c1.N.s
        obtain ⟨m2, d1, d2⟩ := holds_ok (m := m1) hk' (by rw [e90]; exact hw.1.1)
        rw [e90] at d2
        refine h.see (v := holdsS (m.1 90) k) (m1 := m1) (m2 := m2) ?_ ?_ c1.N.C (hq.scC c1) d1.R d1.s
        · simp only [fm_X10_as, below2, below3, below4, below5, below6, below7, below20, below31, below70, within_in, fm_X11_isKnot, fm_X11_isThread, fm_X11_isHand, fm_X11_isSheet, his_0, his_89, Option.bind_some, ob2_some, if_true, if_false, reduceIte, ob2_eta, one_ne, ea, eb, gR_0_0, gR_1_0, gR_2_0, al_3 _ hk', kd, under_ok c hc x hx, hu, his_2, c2]
        · simp only [fm_X11_as, below2, below3, below4, below5, below6, below7, below20, below31, below70, within_in, fm_X11_isKnot, fm_X11_isThread, fm_X11_isHand, fm_X11_isSheet, his_0, his_89, Option.bind_some, ob2_some, if_true, if_false, reduceIte, ob2_eta, one_ne, ea, eb, its0 hk', e90, kc, hu, d2]
    · refine h.e1 ?_ fun m' e => ?_ <;> simp only [fm_X10_as, fm_X11_as, fm_X10_as_b18, fm_X11_as_b17, below2, below3, below4, below5, below6, below7, below20, below31, below70, within_in, fm_X11_isKnot, fm_X11_isThread, fm_X11_isHand, fm_X11_isSheet, his_0, his_89, Option.bind_some, ob2_some, if_true, if_false, reduceIte, ob2_eta, one_ne, ea, eb]
  · refine h.e1 ?_ fun m' e => ?_ <;> simp only [fm_X10_as, fm_X11_as, fm_X10_as_b18, fm_X11_as_b17, below2, below3, below4, below5, below6, below7, below20, below31, below70, within_in, fm_X11_isKnot, fm_X11_isThread, fm_X11_isHand, fm_X11_isSheet, his_0, his_89, Option.bind_some, ob2_some, if_true, if_false, reduceIte, ob2_eta, one_ne, ea]
/-- a thread's facts, both sides -/
def factS (s : Nat → Int32) (t w : Nat) : Int32 := if w = 0 then (if gn s t then 0 else 1) else if w = 1 then s (88 + 3 * t + 1) else if w = 2 then s (88 + 3 * t + 2) else if w = 3 then strS s t (s (88 + 3 * t + 1)) else if w = 4 then nI (kL t) else nI (kR t)
theorem fact_ok {m : xM2} {o t w B : Nat} {s : Nat → Int32} (ho : isNet o) (h : netR m o s) (hd : dayOk s B) (hB : B < 100000) (ht : t < 31) (hw : w ≤ 5) : ∃ m', scC o m m' ∧ fm_X5_threadFact o (nI t) (nI w) (mk m) = some (factS s t w, mk m') := by
  obtain ⟨-, -, -, -, a5, a6, a7, -⟩ := id h
  have : w = 0 ∨ w = 1 ∨ w = 2 ∨ w = 3 ∨ w = 4 ∨ w = 5 := by omega
  rcases this with rfl | rfl | rfl | rfl | rfl | rfl
  · refine ⟨m, scC.rf, ?_⟩
    unfold fm_X5_threadFact factS
    rw [if_pos (show nI 0 = 0 from rfl), if_pos (ntH ho m), nmiss_ok ho a7 ht, Option.bind_some]
    cases gn s t <;> rfl
  · refine ⟨m, scC.rf, ?_⟩
    unfold fm_X5_threadFact factS
    rw [if_neg (by decide), if_pos (by decide), ntR4 ho, Option.bind_some, ntA5 ho _ ht, Option.bind_some, a5 t ht]
    rfl
  · refine ⟨m, scC.rf, ?_⟩
    unfold fm_X5_threadFact factS
    rw [if_neg (by decide), if_neg (by decide), if_pos (by decide), ntR5 ho, Option.bind_some, ntA6 ho _ ht, Option.bind_some, a6 t ht]
    rfl
  · obtain ⟨m', c1, c2⟩ := strengthOf_ok ho h hd hB ht
    refine ⟨m', c1, ?_⟩
    unfold fm_X5_threadFact factS
    rw [if_neg (by decide), if_neg (by decide), if_neg (by decide), if_pos (by decide), if_pos (ntH ho m), c2, ob2_some]
    rfl
  · refine ⟨m, scC.rf, ?_⟩
    unfold fm_X5_threadFact factS
    rw [if_neg (by decide), if_neg (by decide), if_neg (by decide), if_neg (by decide), if_pos (by decide), lesser_eq t ht]
    rfl
  · refine ⟨m, scC.rf, ?_⟩
    unfold fm_X5_threadFact factS
    rw [if_neg (by decide), if_neg (by decide), if_neg (by decide), if_neg (by decide), if_neg (by decide), greater_eq t ht]
    rfl
theorem told_ok {m : xM2} {t w : Nat} (ht : t < 31) (hw : w ≤ 5) (hx : txOk (m.1 90) 0) (h01 : m.1 90 (88 + 3 * t) = 0 ∨ m.1 90 (88 + 3 * t) = 1) : ∃ m', scR m m' ∧ fm_X11_toldThread 89 (nI t) (nI w) (mk m) = some (factS (m.1 90) t w, mk m') := by
  have : w = 0 ∨ w = 1 ∨ w = 2 ∨ w = 3 ∨ w = 4 ∨ w = 5 := by omega
  rcases this with rfl | rfl | rfl | rfl | rfl | rfl
  · refine ⟨m, scR.rf, ?_⟩
    unfold fm_X11_toldThread factS gn
    rw [if_neg (by decide), if_pos (his_89 m), of_ok ht (by decide), Option.bind_some, if_pos rfl]
    rcases h01 with e | e <;> rw [show 88 + 3 * t + 0 = 88 + 3 * t from rfl, e] <;> rfl
  · refine ⟨m, scR.rf, ?_⟩
    unfold fm_X11_toldThread factS
    rw [if_neg (by decide), if_pos (his_89 m), of_ok ht (by decide), Option.bind_some]
    rfl
  · refine ⟨m, scR.rf, ?_⟩
    unfold fm_X11_toldThread factS
    rw [if_neg (by decide), if_pos (his_89 m), of_ok ht (by decide), Option.bind_some]
    rfl
  · obtain ⟨m', c1, c2⟩ := strength_ok ht hx
    refine ⟨m', c1, ?_⟩
    unfold fm_X11_toldThread factS
    rw [if_pos (by decide), if_pos (by decide), if_pos (his_89 m), c2, ob2_some]
    rfl
  · refine ⟨m, scR.rf, ?_⟩
    unfold fm_X11_toldThread factS
    rw [if_pos (by decide), if_neg (by decide), if_pos (by decide), lessOf_eq t ht]
    rfl
  · refine ⟨m, scR.rf, ?_⟩
    unfold fm_X11_toldThread factS
    rw [if_pos (by decide), if_neg (by decide), if_neg (by decide), otherOf_eq t ht]
    rfl
theorem p_threadIs {m : xM2} (h : Rel m) (a b : Int32) : pr m (fm_X10_threadIs 0 a b) (fm_X11_threadIs 89 a b) := by
  rcases inC a (lo := 0) (hi := 30) 0 30 with ⟨t, -, ht, rfl, ea⟩ | ea
  · rcases inC b (lo := 0) (hi := 5) 0 5 with ⟨w, -, hw', rfl, eb⟩ | eb
    · obtain ⟨hq, hw, -⟩ := id h
      have ht' : t < 31 := by omega
      obtain ⟨m1, c1, c2⟩ := fact_ok no2 hq.1 hw.d (by decide) ht' hw'
      have e90 := c1.N.s
      obtain ⟨m2, d1, d2⟩ := told_ok (m := m1) ht' hw' (by rw [e90]; exact hw.1.1) (by rw [e90]; exact hw.2.2.1 t ht')
      rw [e90] at d2
      refine h.see (v := factS (m.1 90) t w) (m1 := m1) (m2 := m2) ?_ ?_ c1.N.C (hq.scC c1) d1.R d1.s
      · simp only [fm_X10_threadIs, below2, below3, below4, below5, below6, below7, below20, below31, below70, within_in, fm_X11_isKnot, fm_X11_isThread, fm_X11_isHand, fm_X11_isSheet, his_0, his_89, Option.bind_some, ob2_some, if_true, if_false, reduceIte, ob2_eta, one_ne, ea, eb, gR_0_0, gR_1_0, his_2, c2]
      · simp only [fm_X11_threadIs, below2, below3, below4, below5, below6, below7, below20, below31, below70, within_in, fm_X11_isKnot, fm_X11_isThread, fm_X11_isHand, fm_X11_isSheet, his_0, his_89, Option.bind_some, ob2_some, if_true, if_false, reduceIte, ob2_eta, one_ne, ea, eb, d2]
    · refine h.e1 ?_ fun m' e => ?_ <;> simp only [fm_X10_threadIs, fm_X11_threadIs, fm_X10_threadIs_b18, fm_X11_threadIs_b25, below2, below3, below4, below5, below6, below7, below20, below31, below70, within_in, fm_X11_isKnot, fm_X11_isThread, fm_X11_isHand, fm_X11_isSheet, his_0, his_89, Option.bind_some, ob2_some, if_true, if_false, reduceIte, ob2_eta, one_ne, ea, eb]
  · refine h.e1 ?_ fun m' e => ?_ <;> simp only [fm_X10_threadIs, fm_X11_threadIs, fm_X10_threadIs_b18, fm_X11_threadIs_b25, below2, below3, below4, below5, below6, below7, below20, below31, below70, within_in, fm_X11_isKnot, fm_X11_isThread, fm_X11_isHand, fm_X11_isSheet, his_0, his_89, Option.bind_some, ob2_some, if_true, if_false, reduceIte, ob2_eta, one_ne, ea]
theorem p_cut {m : xM2} (h : Rel m) (a : Int32) : pr m (fm_X10_cut 0 a) (fm_X11_cut 89 a) := by
  rcases inC a (lo := 0) (hi := 30) 0 30 with ⟨t, -, ht, rfl, ea⟩ | ea
  · obtain ⟨hq, hw, -⟩ := id h
    have ht' : t < 31 := by omega
    have hg := hq.1.2.2.2.2.2.2.1
    cases g : gn (m.1 90) t
    · obtain ⟨m1, c1, c2, c3, -⟩ := lose_ok no2 hq.1 ht'
      have e90 := c1.s
      refine h.ok (v := nI (cnt (gn (upd (upd (m.1 90) (88 + 3 * t + 0) 0) (88 + 3 * t + 1) 0)) 31)) (m1 := m1) (m2 := sA m1 90 (upd (upd (m.1 90) (88 + 3 * t + 0) 0) (88 + 3 * t + 1) 0)) ?_ ?_ c1.C kpR.A (hq.net c1 c2 fun j h1 h2 => by rw [upd_n (by omega), upd_n (by omega)]) sA_s (hw.lose ht')
      · simp only [fm_X10_cut, below2, below3, below4, below5, below6, below7, below20, below31, below70, within_in, fm_X11_isKnot, fm_X11_isThread, fm_X11_isHand, fm_X11_isSheet, his_0, his_89, Option.bind_some, ob2_some, if_true, if_false, reduceIte, ob2_eta, one_ne, ea, gR_0_0, gR_1_0, his_2, nmiss_ok no2 hg ht', g, c3, missT_ok no2 c2, Bool.false_eq_true]
      · simp only [fm_X11_cut, below2, below3, below4, below5, below6, below7, below20, below31, below70, within_in, fm_X11_isKnot, fm_X11_isThread, fm_X11_isHand, fm_X11_isSheet, his_0, his_89, Option.bind_some, ob2_some, if_true, if_false, reduceIte, ob2_eta, one_ne, ea, isMissing_ok ht', e90, g, loses_ok ht', missing_ok, sA_s, Bool.false_eq_true]
    · refine h.e3 ?_ fun m' e => ?_
      · simp only [fm_X10_cut, below2, below3, below4, below5, below6, below7, below20, below31, below70, within_in, fm_X11_isKnot, fm_X11_isThread, fm_X11_isHand, fm_X11_isSheet, his_0, his_89, Option.bind_some, ob2_some, if_true, if_false, reduceIte, ob2_eta, one_ne, ea, gR_0_0, gR_1_0, his_2, nmiss_ok no2 hg ht', g]
      · simp only [fm_X11_cut, below2, below3, below4, below5, below6, below7, below20, below31, below70, within_in, fm_X11_isKnot, fm_X11_isThread, fm_X11_isHand, fm_X11_isSheet, his_0, his_89, Option.bind_some, ob2_some, if_true, if_false, reduceIte, ob2_eta, one_ne, ea, isMissing_ok ht', e.at (a := 90), g]
  · refine h.e1 ?_ fun m' e => ?_ <;> simp only [fm_X10_cut, fm_X11_cut, below2, below3, below4, below5, below6, below7, below20, below31, below70, within_in, fm_X11_isKnot, fm_X11_isThread, fm_X11_isHand, fm_X11_isSheet, his_0, his_89, Option.bind_some, ob2_some, if_true, if_false, reduceIte, ob2_eta, one_ne, ea]
theorem p_wear {m : xM2} (h : Rel m) (a b : Int32) : pr m (fm_X10_wear 0 a b) (fm_X11_wear 89 a b) := by
  rcases inC a (lo := 0) (hi := 30) 0 30 with ⟨t, -, ht, rfl, ea⟩ | ea
  · rcases inC b (lo := 0) (hi := 99) 0 99 with ⟨w, -, hw', rfl, eb⟩ | eb
    · obtain ⟨hq, hw, -⟩ := id h
      have ht' : t < 31 := by omega
      have hg := hq.1.2.2.2.2.2.2.1
      have hv := hq.1.2.2.2.2.1 t ht'
      cases g : gn (m.1 90) t
      · have c2 := hq.1.worn (x := nI w) ht'
        have c1 : scN 2 m (sA m 7 (upd (m.1 7) t (nI w))) := scN.A (o := 2) (d := 5) (by decide)
        have hj : 88 + 3 * t + 1 < 515 := by omega
        refine h.ok (v := m.1 90 (88 + 3 * t + 1)) (m1 := sA m 7 (upd (m.1 7) t (nI w))) (m2 := sA (sA m 7 (upd (m.1 7) t (nI w))) 90 (upd (m.1 90) (88 + 3 * t + 1) (nI w))) ?_ ?_ c1.C kpR.A (hq.net c1 c2 fun j h1 h2 => by rw [upd_n (by omega)]) sA_s (hw.worn ht' hw' fun q => absurd q (of_decide_eq_false g))
        · have hv' : m.1 7 t = m.1 90 (88 + 3 * t + 1) := hv
          simp only [fm_X10_wear, below2, below3, below4, below5, below6, below7, below20, below31, below70, within_in, fm_X11_isKnot, fm_X11_isThread, fm_X11_isHand, fm_X11_isSheet, his_0, his_89, Option.bind_some, ob2_some, if_true, if_false, reduceIte, ob2_eta, one_ne, ea, eb, gR_0_0, gR_1_0, gR_2_4, his_2, nmiss_ok no2 hg ht', g, Bool.false_eq_true, al_7 _ ht', as_7 _ ht', hv']
        · simp only [fm_X11_wear, below2, below3, below4, below5, below6, below7, below20, below31, below70, within_in, fm_X11_isKnot, fm_X11_isThread, fm_X11_isHand, fm_X11_isSheet, his_0, his_89, Option.bind_some, ob2_some, if_true, if_false, reduceIte, ob2_eta, one_ne, ea, eb, isMissing_ok ht', c1.s, g, Bool.false_eq_true, show ((88 : Int32) + 3 * nI t) + 1 = nI (88 + 3 * t + 1) from ix_of (w := 1), change1_ok hj]
      · refine h.e3 ?_ fun m' e => ?_
        · simp only [fm_X10_wear, below2, below3, below4, below5, below6, below7, below20, below31, below70, within_in, fm_X11_isKnot, fm_X11_isThread, fm_X11_isHand, fm_X11_isSheet, his_0, his_89, Option.bind_some, ob2_some, if_true, if_false, reduceIte, ob2_eta, one_ne, ea, eb, gR_0_0, gR_1_0, his_2, nmiss_ok no2 hg ht', g]
        · simp only [fm_X11_wear, below2, below3, below4, below5, below6, below7, below20, below31, below70, within_in, fm_X11_isKnot, fm_X11_isThread, fm_X11_isHand, fm_X11_isSheet, his_0, his_89, Option.bind_some, ob2_some, if_true, if_false, reduceIte, ob2_eta, one_ne, ea, eb, isMissing_ok ht', e.at (a := 90), g]
    · refine h.e1 ?_ fun m' e => ?_ <;> simp only [fm_X10_wear, fm_X11_wear, fm_X10_wear_b19, fm_X11_wear_b17, below2, below3, below4, below5, below6, below7, below20, below31, below70, within_in, fm_X11_isKnot, fm_X11_isThread, fm_X11_isHand, fm_X11_isSheet, his_0, his_89, Option.bind_some, ob2_some, if_true, if_false, reduceIte, ob2_eta, one_ne, ea, eb]
  · refine h.e1 ?_ fun m' e => ?_ <;> simp only [fm_X10_wear, fm_X11_wear, fm_X10_wear_b19, fm_X11_wear_b17, below2, below3, below4, below5, below6, below7, below20, below31, below70, within_in, fm_X11_isKnot, fm_X11_isThread, fm_X11_isHand, fm_X11_isSheet, his_0, his_89, Option.bind_some, ob2_some, if_true, if_false, reduceIte, ob2_eta, one_ne, ea]
theorem p_twine {m : xM2} (h : Rel m) (a : Int32) : pr m (fm_X10_twine 0 a) (fm_X11_twine 89 a) := by
  rcases inC a (lo := 0) (hi := 9999) 0 9999 with ⟨v, -, hv, rfl, ea⟩ | ea
  · obtain ⟨hq, hw, -⟩ := id h
    refine h.ok (v := m.1 90 1) (m1 := sF m 1 6 (nI v)) (m2 := sA (sF m 1 6 (nI v)) 90 (upd (m.1 90) 1 (nI v))) ?_ ?_ kpC.F kpR.A (hq.fld (k := 6) (j := 1)) sA_s (hw.low (by decide))
    · simp only [fm_X10_twine, below2, below3, below4, below5, below6, below7, below20, below31, below70, within_in, fm_X11_isKnot, fm_X11_isThread, fm_X11_isHand, fm_X11_isSheet, his_0, his_89, Option.bind_some, ob2_some, if_true, if_false, reduceIte, ob2_eta, one_ne, ea, gR_0_0, gI_1_6, mP_1_6, hq.2.2.2.2.2.2.1]
    · simp only [fm_X11_twine, below2, below3, below4, below5, below6, below7, below20, below31, below70, within_in, fm_X11_isKnot, fm_X11_isThread, fm_X11_isHand, fm_X11_isSheet, his_0, his_89, Option.bind_some, ob2_some, if_true, if_false, reduceIte, ob2_eta, one_ne, ea, show fm_X11_change1 89 1 _ _ = _ from change1_ok (j := 1) (by decide), sF_1]
  · refine h.e1 ?_ fun m' e => ?_ <;> simp only [fm_X10_twine, fm_X11_twine, below2, below3, below4, below5, below6, below7, below20, below31, below70, within_in, fm_X11_isKnot, fm_X11_isThread, fm_X11_isHand, fm_X11_isSheet, his_0, his_89, Option.bind_some, ob2_some, if_true, if_false, reduceIte, ob2_eta, one_ne, ea]
theorem p_seed {m : xM2} (h : Rel m) (a : Int32) : pr m (fm_X10_seed 0 a) (fm_X11_seed 89 a) := by
  obtain ⟨hq, hw, -⟩ := id h
  refine h.ok (v := m.1 90 4) (m1 := sF m 1 7 a) (m2 := sA (sF m 1 7 a) 90 (upd (m.1 90) 4 a)) ?_ ?_ kpC.F kpR.A (hq.fld (k := 7) (j := 4)) sA_s (hw.low (by decide))
  · simp only [fm_X10_seed, below2, below3, below4, below5, below6, below7, below20, below31, below70, within_in, fm_X11_isKnot, fm_X11_isThread, fm_X11_isHand, fm_X11_isSheet, his_0, his_89, Option.bind_some, ob2_some, if_true, if_false, reduceIte, ob2_eta, one_ne, gR_0_0, gI_1_7, mP_1_7, hq.2.2.2.2.2.2.2]
  · simp only [fm_X11_seed, below2, below3, below4, below5, below6, below7, below20, below31, below70, within_in, fm_X11_isKnot, fm_X11_isThread, fm_X11_isHand, fm_X11_isSheet, his_0, his_89, Option.bind_some, ob2_some, if_true, if_false, reduceIte, ob2_eta, one_ne, show fm_X11_change1 89 4 _ _ = _ from change1_ok (j := 4) (by decide), sF_1]
theorem p_speed {m : xM2} (h : Rel m) (a b : Int32) : pr m (fm_X10_speed 0 a b) (fm_X11_speed 89 a b) := by
  rcases inC a (lo := 0) (hi := 2) 0 2 with ⟨k, -, hk, rfl, ea⟩ | ea
  · rcases inC b (lo := 1) (hi := 30) 1 30 with ⟨v, hv1, hv, rfl, eb⟩ | eb
    · obtain ⟨hq, hw, -⟩ := id h
      have hk' : k < 3 := by omega
      have h1 : m.1 16 k = m.1 90 (5 + k) := hq.2.1 k hk'
      refine h.ok (v := m.1 90 (5 + k)) (m1 := sA m 16 (upd (m.1 16) k (nI v))) (m2 := sA (sA m 16 (upd (m.1 16) k (nI v))) 90 (upd (m.1 90) (5 + k) (nI v))) ?_ ?_ kpC.A kpR.A (hq.row (d := 15) (b := 5) (n := 3) (by decide) hk') sA_s (hw.speed hk' hv1 hv)
      · simp only [fm_X10_speed, below2, below3, below4, below5, below6, below7, below20, below31, below70, within_in, fm_X11_isKnot, fm_X11_isThread, fm_X11_isHand, fm_X11_isSheet, his_0, his_89, Option.bind_some, ob2_some, if_true, if_false, reduceIte, ob2_eta, one_ne, ea, eb, gR_0_0, gR_1_1, al_16 _ hk', as_16 _ hk', h1]
      · simp only [fm_X11_speed, below2, below3, below4, below5, below6, below7, below20, below31, below70, within_in, fm_X11_isKnot, fm_X11_isThread, fm_X11_isHand, fm_X11_isSheet, his_0, his_89, Option.bind_some, ob2_some, if_true, if_false, reduceIte, ob2_eta, one_ne, ea, eb, show (5 : Int32) + nI k = nI (5 + k) from nI_add 5 k, change1_ok (show 5 + k < 515 by omega)]
        rw [sA_n (by decide)]
    · refine h.e1 ?_ fun m' e => ?_ <;> simp only [fm_X10_speed, fm_X11_speed, fm_X10_speed_b18, fm_X11_speed_b30, below2, below3, below4, below5, below6, below7, below20, below31, below70, within_in, fm_X11_isKnot, fm_X11_isThread, fm_X11_isHand, fm_X11_isSheet, his_0, his_89, Option.bind_some, ob2_some, if_true, if_false, reduceIte, ob2_eta, one_ne, ea, eb]
  · refine h.e1 ?_ fun m' e => ?_ <;> simp only [fm_X10_speed, fm_X11_speed, fm_X10_speed_b18, fm_X11_speed_b30, below2, below3, below4, below5, below6, below7, below20, below31, below70, within_in, fm_X11_isKnot, fm_X11_isThread, fm_X11_isHand, fm_X11_isSheet, his_0, his_89, Option.bind_some, ob2_some, if_true, if_false, reduceIte, ob2_eta, one_ne, ea]
