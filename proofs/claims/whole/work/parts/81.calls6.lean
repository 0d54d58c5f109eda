/-! CALLS: HANDS, COUNTS, CHECKS -/
theorem hands_c {m : xM2} {s : Nat → Int32} {a b : Int32} (h : netR m 2 s) : ∀ (j i n : Nat), i + j = 20 → j < n → fm_X10_hands_b31 n 0 a b (nI (cnt (fun k => decide (s (8 + 4 * k + 2) = a) && !decide (s (8 + 4 * k + 3) < b)) i)) (nI i) (mk m) = some (nI (cnt (fun k => decide (s (8 + 4 * k + 2) = a) && !decide (s (8 + 4 * k + 3) < b)) 20), mk m) := by
  obtain ⟨-, -, a3, a4, -⟩ := h
  intro j
  induction j with
  | zero =>
    intro i n hi hn
    obtain ⟨n, rfl⟩ : ∃ n', n = n' + 1 := ⟨n - 1, by omega⟩
    have : i = 20 := by omega
    subst this
    rw [fm_X10_hands_b31, if_pos le20]
  | succ j ih =>
    intro i n hi hn
    obtain ⟨n, rfl⟩ : ∃ n', n = n' + 1 := ⟨n - 1, by omega⟩
    have hk : i < 20 := by omega
    have v1 : m.1 5 i = s (8 + 4 * i + 2) := a3 i hk
    have v2 : m.1 6 i = s (8 + 4 * i + 3) := a4 i hk
    have := ih (i + 1) n (by omega) (by omega)
    rw [cnt] at this
    rw [fm_X10_hands_b31, if_neg (n20 hk)]
    simp only [gR_0_0, gR_1_0, gR_2_2, gR_2_3, al_5 _ hk, al_6 _ hk, Option.bind_some, ob2_some, if_true, if_false, reduceIte, v1, v2, fm_X10_hands_b75, nI_1]
    by_cases e1 : s (8 + 4 * i + 2) = a
    · by_cases e2 : s (8 + 4 * i + 3) < b
      · simpa [e1, e2] using this
      · simpa [e1, e2] using this
    · simpa [e1] using this
theorem hands_r {m : xM2} {a b : Int32} : ∀ (j i n : Nat), i + j = 20 → j < n → fm_X11_hands_b29 n 89 a b (nI (cnt (fun k => decide (m.1 90 (8 + 4 * k + 2) = a) && !decide (m.1 90 (8 + 4 * k + 3) < b)) i)) (nI i) (mk m) = some (nI (cnt (fun k => decide (m.1 90 (8 + 4 * k + 2) = a) && !decide (m.1 90 (8 + 4 * k + 3) < b)) 20), mk m) := by
  intro j
  induction j with
  | zero =>
    intro i n hi hn
    obtain ⟨n, rfl⟩ : ∃ n', n = n' + 1 := ⟨n - 1, by omega⟩
    have : i = 20 := by omega
    subst this
    rw [fm_X11_hands_b29, if_pos le20]
  | succ j ih =>
    intro i n hi hn
    obtain ⟨n, rfl⟩ : ∃ n', n = n' + 1 := ⟨n - 1, by omega⟩
    have hk : i < 20 := by omega
    have := ih (i + 1) n (by omega) (by omega)
    rw [cnt] at this
    rw [fm_X11_hands_b29, if_neg (n20 hk)]
    simp only [his_89, its2 hk, its3 hk, Option.bind_some, ob2_some, if_true, if_false, reduceIte, fm_X11_hands_b63, nI_1]
    by_cases e1 : m.1 90 (8 + 4 * i + 2) = a
    · by_cases e2 : m.1 90 (8 + 4 * i + 3) < b
      · simpa [e1, e2] using this
      · simpa [e1, e2, nI_1] using this
    · simpa [e1] using this
theorem p_hands {m : xM2} (h : Rel m) (a b : Int32) : pr m (fm_X10_hands 0 a b) (fm_X11_hands 89 a b) := by
  rcases inC a (lo := 0) (hi := 4) 0 4 with ⟨x, -, hx, rfl, ea⟩ | ea
  · rcases inC b (lo := 0) (hi := 9999) 0 9999 with ⟨y, -, hy, rfl, eb⟩ | eb
    · have c1 := hands_c (a := nI x) (b := nI y) h.1.1 20 0 5000 (by omega) (by omega)
      have c2 := hands_r (m := m) (a := nI x) (b := nI y) 20 0 5000 (by omega) (by omega)
      rw [show nI 0 = 0 from rfl] at c1 c2
      refine h.val (v := nI (cnt (fun k => decide (m.1 90 (8 + 4 * k + 2) = nI x) && !decide (m.1 90 (8 + 4 * k + 3) < nI y)) 20)) ?_ ?_
      · simp only [fm_X10_hands, below2, below3, below4, below5, below6, below7, below20, below31, below70, within_in, fm_X11_isKnot, fm_X11_isThread, fm_X11_isHand, fm_X11_isSheet, his_0, his_89, Option.bind_some, ob2_some, if_true, if_false, reduceIte, ob2_eta, one_ne, ea, eb]
        exact c1
      · simp only [fm_X11_hands, below2, below3, below4, below5, below6, below7, below20, below31, below70, within_in, fm_X11_isKnot, fm_X11_isThread, fm_X11_isHand, fm_X11_isSheet, his_0, his_89, Option.bind_some, ob2_some, if_true, if_false, reduceIte, ob2_eta, one_ne, ea, eb]
        exact c2
    · refine h.e1 ?_ fun m' e => ?_ <;> simp only [fm_X10_hands, fm_X11_hands, fm_X10_hands_b19, fm_X11_hands_b18, below2, below3, below4, below5, below6, below7, below20, below31, below70, within_in, fm_X11_isKnot, fm_X11_isThread, fm_X11_isHand, fm_X11_isSheet, his_0, his_89, Option.bind_some, ob2_some, if_true, if_false, reduceIte, ob2_eta, one_ne, ea, eb]
  · refine h.e1 ?_ fun m' e => ?_ <;> simp only [fm_X10_hands, fm_X11_hands, fm_X10_hands_b19, fm_X11_hands_b18, below2, below3, below4, below5, below6, below7, below20, below31, below70, within_in, fm_X11_isKnot, fm_X11_isThread, fm_X11_isHand, fm_X11_isSheet, his_0, his_89, Option.bind_some, ob2_some, if_true, if_false, reduceIte, ob2_eta, one_ne, ea]
def sumI (f : Nat → Int32) : Nat → Int32
  | 0 => 0
  | n + 1 => sumI f n + f n
def newS (s : Nat → Int32) : Nat → Bool := fun t => !gn s t && decide (s (88 + 3 * t + 2) = 0)
theorem first_c {m : xM2} {s : Nat → Int32} (h : netR m 2 s) : ∀ (j i n : Nat), i + j = 31 → j < n → fm_X5_firstThreads_b4 n 2 (nI (cnt (newS s) i)) (nI i) (mk m) = some (nI (cnt (newS s) 31)) := by
  obtain ⟨-, -, -, -, -, a6, a7, -⟩ := h
  intro j
  induction j with
  | zero =>
    intro i n hi hn
    obtain ⟨n, rfl⟩ : ∃ n', n = n' + 1 := ⟨n - 1, by omega⟩
    have : i = 31 := by omega
    subst this
    rw [fm_X5_firstThreads_b4, if_pos le31]
  | succ j ih =>
    intro i n hi hn
    obtain ⟨n, rfl⟩ : ∃ n', n = n' + 1 := ⟨n - 1, by omega⟩
    have hk : i < 31 := by omega
    have v : m.1 8 i = s (88 + 3 * i + 2) := a6 i hk
    have := ih (i + 1) n (by omega) (by omega)
    rw [cnt, newS] at this
    rw [fm_X5_firstThreads_b4, if_neg (n31 hk)]
    simp only [his_2, nmiss_ok no2 a7 hk, gR_2_5, al_8 _ hk, Option.bind_some, ob2_some, if_true, if_false, reduceIte, v, fm_X5_firstThreads_b30, nI_1]
    cases e1 : gn s i
    · by_cases e2 : s (88 + 3 * i + 2) = 0
      · simpa [e1, e2] using this
      · simpa [e1, e2] using this
    · simpa [e1] using this
theorem worn_c {m : xM2} {s : Nat → Int32} (h : netR m 2 s) : ∀ (j i n : Nat), i + j = 31 → j < n → fm_X5_wornInAll_b4 n 2 (sumI (fun t => s (88 + 3 * t + 1)) i) (nI i) (mk m) = some (sumI (fun t => s (88 + 3 * t + 1)) 31) := by
  obtain ⟨-, -, -, -, a5, -⟩ := h
  intro j
  induction j with
  | zero =>
    intro i n hi hn
    obtain ⟨n, rfl⟩ : ∃ n', n = n' + 1 := ⟨n - 1, by omega⟩
    have : i = 31 := by omega
    subst this
    rw [fm_X5_wornInAll_b4, if_pos le31]
  | succ j ih =>
    intro i n hi hn
    obtain ⟨n, rfl⟩ : ∃ n', n = n' + 1 := ⟨n - 1, by omega⟩
    have hk : i < 31 := by omega
    have v : m.1 7 i = s (88 + 3 * i + 1) := a5 i hk
    rw [fm_X5_wornInAll_b4, if_neg (n31 hk)]
    simp only [gR_2_4, al_7 _ hk, Option.bind_some, ob2_some, if_true, if_false, reduceIte, v, nI_1]
    exact ih (i + 1) n (by omega) (by omega)
theorem count_r {m : xM2} {a : Int32} : ∀ (j i n : Nat), i + j = 31 → j < n → fm_X11_count_b7 n 89 a (nI (cnt (newS (m.1 90)) i)) (sumI (fun t => m.1 90 (88 + 3 * t + 1)) i) (nI i) (mk m) = fm_X11_count_b7 1 89 a (nI (cnt (newS (m.1 90)) 31)) (sumI (fun t => m.1 90 (88 + 3 * t + 1)) 31) (nI 31) (mk m) := by
  intro j
  induction j with
  | zero =>
    intro i n hi hn
    obtain ⟨n, rfl⟩ : ∃ n', n = n' + 1 := ⟨n - 1, by omega⟩
    have : i = 31 := by omega
    subst this
    rw [fm_X11_count_b7, if_pos le31, fm_X11_count_b7, if_pos le31]
  | succ j ih =>
    intro i n hi hn
    obtain ⟨n, rfl⟩ : ∃ n', n = n' + 1 := ⟨n - 1, by omega⟩
    have hk : i < 31 := by omega
    have := ih (i + 1) n (by omega) (by omega)
    rw [cnt, newS, sumI] at this
    rw [fm_X11_count_b7, if_neg (n31 hk)]
    simp only [his_89, isMissing_ok hk, of1 hk, of2 hk, Option.bind_some, ob2_some, if_true, if_false, reduceIte, fm_X11_count_b38, nI_1]
    cases e1 : gn (m.1 90) i
    · by_cases e2 : m.1 90 (88 + 3 * i + 2) = 0
      · simpa [e1, e2, nI_1] using this
      · simpa [e1, e2] using this
    · simpa [e1] using this
theorem p_count {m : xM2} (h : Rel m) (a : Int32) : pr m (fm_X10_count 0 a) (fm_X11_count 89 a) := by
  have al : ∀ {j}, j < 515 → ∀ m : xM2, hp_ald (mk m) 90 (nI j) = some (m.1 90 j) := fun hj m => al_90 m hj
  have c0 : ∀ m : xM2, fm_X11_count 89 a (mk m) = fm_X11_count_b7 1 89 a (nI (cnt (newS (m.1 90)) 31)) (sumI (fun t => m.1 90 (88 + 3 * t + 1)) 31) (nI 31) (mk m) := fun m => count_r (m := m) (a := a) 31 0 5000 (by omega) (by omega)
  have e31 : (31 : Int32) ≤ nI 31 := le31
  obtain ⟨hq, hw, -, -, -, ⟨n, n1, n2, n3, -⟩⟩ := id h
  obtain ⟨h1, h2, h3, h4, h5, h6, h7, h8⟩ := hq
  rcases inC a (lo := 0) (hi := 11) 0 11 with ⟨w, -, hw', rfl, ea⟩ | ea
  · have : w = 0 ∨ w = 1 ∨ w = 2 ∨ w = 3 ∨ w = 4 ∨ w = 5 ∨ w = 6 ∨ w = 7 ∨ w = 8 ∨ 9 ≤ w := by omega
    rcases this with rfl | rfl | rfl | rfl | rfl | rfl | rfl | rfl | rfl | q9
    · refine h.val (v := m.1 90 0) ?_ ((c0 m).trans ?_)
      · have v : m.2 2 10 = m.1 90 0 := h1.2.2.2.2.2.2.2.1
        simp only [fm_X10_count, below2, below3, below4, below5, below6, below7, below20, below31, below70, within_in, fm_X11_isKnot, fm_X11_isThread, fm_X11_isHand, fm_X11_isSheet, his_0, his_89, Option.bind_some, ob2_some, if_true, if_false, reduceIte, ob2_eta, one_ne, show nI 0 = 0 from rfl, gR_0_0, gR_1_0, gI_2_10, v]
      · simp only [fm_X11_count_b7, e31, below2, below3, below4, below5, below6, below7, below20, below31, below70, within_in, fm_X11_isKnot, fm_X11_isThread, fm_X11_isHand, fm_X11_isSheet, his_0, his_89, Option.bind_some, ob2_some, if_true, if_false, reduceIte, ob2_eta, one_ne, show nI 0 = 0 from rfl, gR_89_0, al0]
    · refine h.val (v := nI (cnt (gn (m.1 90)) 31)) ?_ ((c0 m).trans ?_)
      · simp only [fm_X10_count, below2, below3, below4, below5, below6, below7, below20, below31, below70, within_in, fm_X11_isKnot, fm_X11_isThread, fm_X11_isHand, fm_X11_isSheet, his_0, his_89, Option.bind_some, ob2_some, if_true, if_false, reduceIte, ob2_eta, one_ne, show ¬ (1 : Int32) = 0 by decide, show nI 1 = 1 from rfl, gR_0_0, gR_1_0, his_2, missT_ok no2 h1]
      · simp only [fm_X11_count_b7, e31, below2, below3, below4, below5, below6, below7, below20, below31, below70, within_in, fm_X11_isKnot, fm_X11_isThread, fm_X11_isHand, fm_X11_isSheet, his_0, his_89, Option.bind_some, ob2_some, if_true, if_false, reduceIte, ob2_eta, one_ne, show ¬ (1 : Int32) = 0 by decide, show nI 1 = 1 from rfl, missing_ok]
    · refine h.val (v := nI (cnt (newS (m.1 90)) 31)) ?_ ((c0 m).trans ?_)
      · have v : fm_X5_firstThreads 2 (mk m) = _ := first_c h1 31 0 5000 (by omega) (by omega)
        simp only [fm_X10_count, below2, below3, below4, below5, below6, below7, below20, below31, below70, within_in, fm_X11_isKnot, fm_X11_isThread, fm_X11_isHand, fm_X11_isSheet, his_0, his_89, Option.bind_some, ob2_some, if_true, if_false, reduceIte, ob2_eta, one_ne, show ¬ (2 : Int32) = 0 by decide, show ¬ (2 : Int32) = 1 by decide, show nI 2 = 2 from rfl, gR_0_0, gR_1_0, his_2, v]
      · simp only [fm_X11_count_b7, e31, below2, below3, below4, below5, below6, below7, below20, below31, below70, within_in, fm_X11_isKnot, fm_X11_isThread, fm_X11_isHand, fm_X11_isSheet, his_0, his_89, Option.bind_some, ob2_some, if_true, if_false, reduceIte, ob2_eta, one_ne, show ¬ (2 : Int32) = 0 by decide, show ¬ (2 : Int32) = 1 by decide, show nI 2 = 2 from rfl]
    · refine h.val (v := m.1 90 1) ?_ ((c0 m).trans ?_)
      · simp only [fm_X10_count, below2, below3, below4, below5, below6, below7, below20, below31, below70, within_in, fm_X11_isKnot, fm_X11_isThread, fm_X11_isHand, fm_X11_isSheet, his_0, his_89, Option.bind_some, ob2_some, if_true, if_false, reduceIte, ob2_eta, one_ne, show ¬ (3 : Int32) = 0 by decide, show ¬ (3 : Int32) = 1 by decide, show ¬ (3 : Int32) = 2 by decide, show nI 3 = 3 from rfl, gR_0_0, gI_1_6, h7]
      · simp only [fm_X11_count_b7, e31, below2, below3, below4, below5, below6, below7, below20, below31, below70, within_in, fm_X11_isKnot, fm_X11_isThread, fm_X11_isHand, fm_X11_isSheet, his_0, his_89, Option.bind_some, ob2_some, if_true, if_false, reduceIte, ob2_eta, one_ne, show ¬ (3 : Int32) = 0 by decide, show ¬ (3 : Int32) = 1 by decide, show ¬ (3 : Int32) = 2 by decide, show nI 3 = 3 from rfl, gR_89_0, show ∀ m : xM2, hp_ald (mk m) 90 1 = some (m.1 90 1) from al (j := 1) (by decide)]
    · refine h.val (v := sumI (fun t => m.1 90 (88 + 3 * t + 1)) 31) ?_ ((c0 m).trans ?_)
      · have v : fm_X5_wornInAll 2 (mk m) = _ := worn_c h1 31 0 5000 (by omega) (by omega)
        simp only [fm_X10_count, below2, below3, below4, below5, below6, below7, below20, below31, below70, within_in, fm_X11_isKnot, fm_X11_isThread, fm_X11_isHand, fm_X11_isSheet, his_0, his_89, Option.bind_some, ob2_some, if_true, if_false, reduceIte, ob2_eta, one_ne, show ¬ (4 : Int32) = 0 by decide, show ¬ (4 : Int32) = 1 by decide, show ¬ (4 : Int32) = 2 by decide, show ¬ (4 : Int32) = 3 by decide, show nI 4 = 4 from rfl, gR_0_0, gR_1_0, his_2, v]
      · simp only [fm_X11_count_b7, e31, below2, below3, below4, below5, below6, below7, below20, below31, below70, within_in, fm_X11_isKnot, fm_X11_isThread, fm_X11_isHand, fm_X11_isSheet, his_0, his_89, Option.bind_some, ob2_some, if_true, if_false, reduceIte, ob2_eta, one_ne, show ¬ (4 : Int32) = 0 by decide, show ¬ (4 : Int32) = 1 by decide, show ¬ (4 : Int32) = 2 by decide, show ¬ (4 : Int32) = 3 by decide, show nI 4 = 4 from rfl]
    · refine h.val (v := m.1 90 2) ?_ ((c0 m).trans ?_)
      · simp only [fm_X10_count, below2, below3, below4, below5, below6, below7, below20, below31, below70, within_in, fm_X11_isKnot, fm_X11_isThread, fm_X11_isHand, fm_X11_isSheet, his_0, his_89, Option.bind_some, ob2_some, if_true, if_false, reduceIte, ob2_eta, one_ne, show ¬ (5 : Int32) = 0 by decide, show ¬ (5 : Int32) = 1 by decide, show ¬ (5 : Int32) = 2 by decide, show ¬ (5 : Int32) = 3 by decide, show ¬ (5 : Int32) = 4 by decide, show nI 5 = 5 from rfl, gR_0_0, gI_1_4, h5]
      · simp only [fm_X11_count_b7, e31, below2, below3, below4, below5, below6, below7, below20, below31, below70, within_in, fm_X11_isKnot, fm_X11_isThread, fm_X11_isHand, fm_X11_isSheet, his_0, his_89, Option.bind_some, ob2_some, if_true, if_false, reduceIte, ob2_eta, one_ne, show ¬ (5 : Int32) = 0 by decide, show ¬ (5 : Int32) = 1 by decide, show ¬ (5 : Int32) = 2 by decide, show ¬ (5 : Int32) = 3 by decide, show ¬ (5 : Int32) = 4 by decide, show nI 5 = 5 from rfl, gR_89_0, show ∀ m : xM2, hp_ald (mk m) 90 2 = some (m.1 90 2) from al (j := 2) (by decide)]
    · refine h.val (v := m.1 90 3) ?_ ((c0 m).trans ?_)
      · simp only [fm_X10_count, below2, below3, below4, below5, below6, below7, below20, below31, below70, within_in, fm_X11_isKnot, fm_X11_isThread, fm_X11_isHand, fm_X11_isSheet, his_0, his_89, Option.bind_some, ob2_some, if_true, if_false, reduceIte, ob2_eta, one_ne, show ¬ (6 : Int32) = 0 by decide, show ¬ (6 : Int32) = 1 by decide, show ¬ (6 : Int32) = 2 by decide, show ¬ (6 : Int32) = 3 by decide, show ¬ (6 : Int32) = 4 by decide, show ¬ (6 : Int32) = 5 by decide, show nI 6 = 6 from rfl, gR_0_0, gI_1_5, h6]
      · simp only [fm_X11_count_b7, e31, below2, below3, below4, below5, below6, below7, below20, below31, below70, within_in, fm_X11_isKnot, fm_X11_isThread, fm_X11_isHand, fm_X11_isSheet, his_0, his_89, Option.bind_some, ob2_some, if_true, if_false, reduceIte, ob2_eta, one_ne, show ¬ (6 : Int32) = 0 by decide, show ¬ (6 : Int32) = 1 by decide, show ¬ (6 : Int32) = 2 by decide, show ¬ (6 : Int32) = 3 by decide, show ¬ (6 : Int32) = 4 by decide, show ¬ (6 : Int32) = 5 by decide, show nI 6 = 6 from rfl, gR_89_0, show ∀ m : xM2, hp_ald (mk m) 90 3 = some (m.1 90 3) from al (j := 3) (by decide)]
    · refine h.val (v := nI n) ?_ ((c0 m).trans ?_)
      · simp only [fm_X10_count, below2, below3, below4, below5, below6, below7, below20, below31, below70, within_in, fm_X11_isKnot, fm_X11_isThread, fm_X11_isHand, fm_X11_isSheet, his_0, his_89, Option.bind_some, ob2_some, if_true, if_false, reduceIte, ob2_eta, one_ne, show ¬ (7 : Int32) = 0 by decide, show ¬ (7 : Int32) = 1 by decide, show ¬ (7 : Int32) = 2 by decide, show ¬ (7 : Int32) = 3 by decide, show ¬ (7 : Int32) = 4 by decide, show ¬ (7 : Int32) = 5 by decide, show ¬ (7 : Int32) = 6 by decide, show nI 7 = 7 from rfl, gR_0_7, gI_77_1, n2]
      · simp only [fm_X11_count_b7, e31, below2, below3, below4, below5, below6, below7, below20, below31, below70, within_in, fm_X11_isKnot, fm_X11_isThread, fm_X11_isHand, fm_X11_isSheet, his_0, his_89, Option.bind_some, ob2_some, if_true, if_false, reduceIte, ob2_eta, one_ne, show ¬ (7 : Int32) = 0 by decide, show ¬ (7 : Int32) = 1 by decide, show ¬ (7 : Int32) = 2 by decide, show ¬ (7 : Int32) = 3 by decide, show ¬ (7 : Int32) = 4 by decide, show ¬ (7 : Int32) = 5 by decide, show ¬ (7 : Int32) = 6 by decide, show nI 7 = 7 from rfl, gI_89_16, n3]
    · refine h.val (v := m.1 90 4) ?_ ((c0 m).trans ?_)
      · simp only [fm_X10_count, below2, below3, below4, below5, below6, below7, below20, below31, below70, within_in, fm_X11_isKnot, fm_X11_isThread, fm_X11_isHand, fm_X11_isSheet, his_0, his_89, Option.bind_some, ob2_some, if_true, if_false, reduceIte, ob2_eta, one_ne, show ¬ (8 : Int32) = 0 by decide, show ¬ (8 : Int32) = 1 by decide, show ¬ (8 : Int32) = 2 by decide, show ¬ (8 : Int32) = 3 by decide, show ¬ (8 : Int32) = 4 by decide, show ¬ (8 : Int32) = 5 by decide, show ¬ (8 : Int32) = 6 by decide, show ¬ (8 : Int32) = 7 by decide, show nI 8 = 8 from rfl, gR_0_0, gI_1_7, h8]
      · simp only [fm_X11_count_b7, e31, below2, below3, below4, below5, below6, below7, below20, below31, below70, within_in, fm_X11_isKnot, fm_X11_isThread, fm_X11_isHand, fm_X11_isSheet, his_0, his_89, Option.bind_some, ob2_some, if_true, if_false, reduceIte, ob2_eta, one_ne, show ¬ (8 : Int32) = 0 by decide, show ¬ (8 : Int32) = 1 by decide, show ¬ (8 : Int32) = 2 by decide, show ¬ (8 : Int32) = 3 by decide, show ¬ (8 : Int32) = 4 by decide, show ¬ (8 : Int32) = 5 by decide, show ¬ (8 : Int32) = 6 by decide, show ¬ (8 : Int32) = 7 by decide, show nI 8 = 8 from rfl, gR_89_0, show ∀ m : xM2, hp_ald (mk m) 90 4 = some (m.1 90 4) from al (j := 4) (by decide)]
    · have ne : ∀ k, k < 9 → ¬ nI w = nI k := fun k hk q => by
        have := (nI_eq (by omega) (by omega)).mp q
        omega
      have e9 : fm_X11_in (nI w) 9 11 = 1 := by rw [in_eq, if_pos ⟨nI_le (a := 9) (by omega) (by omega), nI_le (b := 11) (by omega) (by omega)⟩]
      have x1 : nI w - 9 = nI (w - 9) := pk_sub (b := 9) q9
      have x2 : 5 + nI w - 9 = nI (5 + (w - 9)) := by rw [show (5 : Int32) = nI 5 from rfl, nI_add, show (9 : Int32) = nI 9 from rfl, pk_sub (by omega), show 5 + w - 9 = 5 + (w - 9) by omega]
      have hj : w - 9 < 3 := by omega
      have v : m.1 16 (w - 9) = m.1 90 (5 + (w - 9)) := h2 _ hj
      refine h.val (v := m.1 90 (5 + (w - 9))) ?_ ((c0 m).trans ?_)
      · simp only [fm_X10_count, below2, below3, below4, below5, below6, below7, below20, below31, below70, within_in, fm_X11_isKnot, fm_X11_isThread, fm_X11_isHand, fm_X11_isSheet, his_0, his_89, Option.bind_some, ob2_some, if_true, if_false, reduceIte, ob2_eta, one_ne, show ¬ nI w = 0 from ne 0 (by decide), show ¬ nI w = 1 from ne 1 (by decide), show ¬ nI w = 2 from ne 2 (by decide), show ¬ nI w = 3 from ne 3 (by decide), show ¬ nI w = 4 from ne 4 (by decide), show ¬ nI w = 5 from ne 5 (by decide), show ¬ nI w = 6 from ne 6 (by decide), show ¬ nI w = 7 from ne 7 (by decide), show ¬ nI w = 8 from ne 8 (by decide), e9, gR_0_0, gR_1_1, x1, al_16 _ hj, v]
      · simp only [fm_X11_count_b7, e31, below2, below3, below4, below5, below6, below7, below20, below31, below70, within_in, fm_X11_isKnot, fm_X11_isThread, fm_X11_isHand, fm_X11_isSheet, his_0, his_89, Option.bind_some, ob2_some, if_true, if_false, reduceIte, ob2_eta, one_ne, show ¬ nI w = 0 from ne 0 (by decide), show ¬ nI w = 1 from ne 1 (by decide), show ¬ nI w = 2 from ne 2 (by decide), show ¬ nI w = 3 from ne 3 (by decide), show ¬ nI w = 4 from ne 4 (by decide), show ¬ nI w = 5 from ne 5 (by decide), show ¬ nI w = 6 from ne 6 (by decide), show ¬ nI w = 7 from ne 7 (by decide), show ¬ nI w = 8 from ne 8 (by decide), e9, gR_89_0, x2, al (show 5 + (w - 9) < 515 by omega)]
  · have ne : ∀ k, k ≤ 11 → ¬ a = nI k := fun k hk => in0_ne ea ⟨Nat.zero_le k, hk⟩
    have e9 : fm_X11_in a 9 11 = 0 := by
      rcases inC a (lo := 9) (hi := 11) 9 11 with ⟨k, -, k2, q, -⟩ | q
      · exact absurd q (ne k k2)
      · exact q
    refine h.e1 ?_ fun m' e => (c0 m').trans ?_
    · simp only [fm_X10_count, below2, below3, below4, below5, below6, below7, below20, below31, below70, within_in, fm_X11_isKnot, fm_X11_isThread, fm_X11_isHand, fm_X11_isSheet, his_0, his_89, Option.bind_some, ob2_some, if_true, if_false, reduceIte, ob2_eta, one_ne, show ¬ a = 0 from ne 0 (by decide), show ¬ a = 1 from ne 1 (by decide), show ¬ a = 2 from ne 2 (by decide), show ¬ a = 3 from ne 3 (by decide), show ¬ a = 4 from ne 4 (by decide), show ¬ a = 5 from ne 5 (by decide), show ¬ a = 6 from ne 6 (by decide), show ¬ a = 7 from ne 7 (by decide), show ¬ a = 8 from ne 8 (by decide), e9]
    · simp only [fm_X11_count_b7, e31, below2, below3, below4, below5, below6, below7, below20, below31, below70, within_in, fm_X11_isKnot, fm_X11_isThread, fm_X11_isHand, fm_X11_isSheet, his_0, his_89, Option.bind_some, ob2_some, if_true, if_false, reduceIte, ob2_eta, one_ne, show ¬ a = 0 from ne 0 (by decide), show ¬ a = 1 from ne 1 (by decide), show ¬ a = 2 from ne 2 (by decide), show ¬ a = 3 from ne 3 (by decide), show ¬ a = 4 from ne 4 (by decide), show ¬ a = 5 from ne 5 (by decide), show ¬ a = 6 from ne 6 (by decide), show ¬ a = 7 from ne 7 (by decide), show ¬ a = 8 from ne 8 (by decide), e9]
