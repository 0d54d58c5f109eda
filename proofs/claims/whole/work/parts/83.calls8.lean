/-! CALLS: UNTELL, SHEETS -/
theorem ixT {u : Nat} : (181 : Int32) + 125 * nI u = nI (181 + 125 * u) := by
  show nI 181 + nI 125 * nI u = _
  rw [pk_mul, nI_add]
theorem lawOf_ok {m : xM2} {u : Nat} (hu : u < 2) : fm_X5_lawOf 2 (nI u) (mk m) = some (10 + 3 * u) := by
  have : u = 0 ∨ u = 1 := by omega
  rcases this with rfl | rfl
  · simp only [fm_X5_lawOf, show ¬ nI 0 = 1 by decide, Option.bind_some, ob2_some, if_true, if_false, reduceIte, gR_2_7]
  · simp only [fm_X5_lawOf, show nI 1 = 1 from rfl, Option.bind_some, ob2_some, if_true, if_false, reduceIte, gR_2_8]
theorem lw10 {u : Nat} (hu : u < 2) : isLaw (10 + 3 * u) := by unfold isLaw; omega
/-- one text of the row and of the net is another -/
theorem netR.text {m m' : xM2} {s s' : Nat → Int32} {u : Nat} (hu : u < 2) (h : netR m 2 s) (hl : lawR m' (10 + 3 * u) u s') (hs : ∀ a, a ≠ 10 + 3 * u → a ≠ 11 + 3 * u → same m m' a) (he : ∀ j, j < 181 + 125 * u ∨ 306 + 125 * u ≤ j → s' j = s j) : netR m' 2 s' := by
  obtain ⟨a1, a2, a3, a4, a5, a6, a7, a8, a9, b1⟩ := h
  refine ⟨fun k hk => ?_, fun k hk => ?_, fun k hk => ?_, fun k hk => ?_, fun k hk => ?_, fun k hk => ?_, ?_, ?_, ?_, ?_⟩
  · rw [(hs _ (by omega) (by omega)).1, he _ (by omega)]; exact a1 k hk
  · rw [(hs _ (by omega) (by omega)).1, he _ (by omega)]; exact a2 k hk
  · rw [(hs _ (by omega) (by omega)).1, he _ (by omega)]; exact a3 k hk
  · rw [(hs _ (by omega) (by omega)).1, he _ (by omega)]; exact a4 k hk
  · rw [(hs _ (by omega) (by omega)).1, he _ (by omega)]; exact a5 k hk
  · rw [(hs _ (by omega) (by omega)).1, he _ (by omega)]; exact a6 k hk
  · rw [(hs _ (by omega) (by omega)).2, a7]
    exact (goneS_eq fun i hi => he _ (by omega)).symm
  · rw [(hs _ (by omega) (by omega)).2, he _ (by omega)]; exact a8
  · have : u = 0 ∨ u = 1 := by omega
    rcases this with rfl | rfl
    · exact hl
    · refine ⟨?_, fun N n1 n2 k hk => ?_⟩
      · rw [(hs _ (by omega) (by omega)).2]
        exact a9.1.trans (he _ (by omega)).symm
      · rw [(hs _ (by omega) (by omega)).1, a9.2 N ((he _ (by omega)).symm.trans n1) n2 k hk]
        unfold txW txV
        rw [he _ (by omega), he _ (by omega)]
  · have : u = 0 ∨ u = 1 := by omega
    rcases this with rfl | rfl
    · refine ⟨?_, fun N n1 n2 k hk => ?_⟩
      · rw [(hs _ (by omega) (by omega)).2]
        exact b1.1.trans (he _ (by omega)).symm
      · rw [(hs _ (by omega) (by omega)).1, b1.2 N ((he _ (by omega)).symm.trans n1) n2 k hk]
        unfold txW txV
        rw [he _ (by omega), he _ (by omega)]
    · exact hl
theorem wf.text {s s' : Nat → Int32} {u : Nat} (hu : u < 2) (h : wf s) (ht : txOk s' u) (he : ∀ j, j < 181 + 125 * u ∨ (306 + 125 * u ≤ j ∧ j < 515) → s' j = s j) : wf s' := by
  obtain ⟨⟨t0, t1, ⟨d, d1, d2, d3⟩, w1, w2⟩, hk6, hw1, a2, a3, hsp⟩ := h
  have o : ∀ v, v < 2 → v ≠ u → txOk s v → txOk s' v := by
    rintro v hv hne ⟨N, n1, n2⟩
    have := n2.1
    exact ⟨N, (he _ (by omega)).trans n1, tkOk_cg n2 (fun k hk => he _ (by omega)) (fun k hk => he _ (by omega))⟩
  refine ⟨⟨?_, ?_, ⟨d, d1, by rw [he _ (by omega)]; exact d2, fun k hk => by rw [he _ (by omega)]; exact d3 k hk⟩, fun t ht => by rw [he _ (by omega)]; exact w1 t ht, fun t ht => by rw [he _ (by omega), he _ (by omega)]; exact w2 t ht⟩, fun k hk => by rw [he _ (by omega)]; exact hk6 k hk, fun t ht => by rw [he _ (by omega)]; exact hw1 t ht, by rw [he _ (by omega)]; exact a2, by rw [he _ (by omega)]; exact a3, fun i hi => by rw [he _ (by omega)]; exact hsp i hi⟩
  · by_cases e : u = 0
    · subst e; exact ht
    · exact o 0 (by decide) (fun q => e q.symm) t0
  · by_cases e : u = 1
    · subst e; exact ht
    · exact o 1 (by decide) (fun q => e q.symm) t1
theorem p_untell {m : xM2} (h : Rel m) (a : Int32) : pr m (fm_X10_untell 0 a) (fm_X11_untell 89 a) := by
  rcases inC a (lo := 0) (hi := 1) 0 1 with ⟨u, -, hu', rfl, ea⟩ | ea
  · obtain ⟨hq, hw, -⟩ := id h
    have hu : u < 2 := by omega
    have hl : lawR m (10 + 3 * u) u (m.1 90) := by
      have : u = 0 ∨ u = 1 := by omega
      rcases this with rfl | rfl
      · exact hq.1.2.2.2.2.2.2.2.2.1
      · exact hq.1.2.2.2.2.2.2.2.2.2
    have z : txN (upd (m.1 90) (181 + 125 * u) 0) u = 0 := upd_s
    have t0 : txOk (upd (m.1 90) (181 + 125 * u) 0) u := ⟨0, z, by decide, fun k hk => absurd hk (by omega)⟩
    have he : ∀ j, j < 181 + 125 * u ∨ 306 + 125 * u ≤ j → upd (m.1 90) (181 + 125 * u) 0 j = m.1 90 j := fun j hj => upd_n (by omega)
    have hl' : lawR (sF m (10 + 3 * u) 2 0) (10 + 3 * u) u (upd (m.1 90) (181 + 125 * u) 0) := by
      refine ⟨by rw [sF_s, upd_s, z], fun N n1 n2 k hk => ?_⟩
      rw [z] at n1
      have : N = 0 := ((nI_eq (a := 0) (b := N) (by decide) (by omega)).mp n1).symm
      omega
    have sm : ∀ a, a ≠ 10 + 3 * u → same m (sF m (10 + 3 * u) 2 0) a := fun a h1 => ⟨rfl, sF_n h1⟩
    refine h.ok (v := if txN (m.1 90) u ≤ 0 then 0 else 1) (m1 := sF m (10 + 3 * u) 2 0) (m2 := sA (sF m (10 + 3 * u) 2 0) 90 (upd (m.1 90) (181 + 125 * u) 0)) ?_ ?_ (kpC.F (by omega)) kpR.A
      (hq.net (fun a h1 => sm a (by omega)) (hq.1.text hu hl' (fun a h1 _ => sm a h1) he) fun j h1 h2 => he j (by omega)) sA_s (hw.text hu t0 fun j hj => he j (by omega))
    · simp only [fm_X10_untell, below2, below3, below4, below5, below6, below7, below20, below31, below70, within_in, fm_X11_isKnot, fm_X11_isThread, fm_X11_isHand, fm_X11_isSheet, his_0, his_89, Option.bind_some, ob2_some, if_true, if_false, reduceIte, ob2_eta, one_ne, ea, gR_0_0, gR_1_0, his_2, lawOf_ok hu, lwH (lw10 hu), isThere_ok (lw10 hu) hl, fm_X3_forget, lwP2 (lw10 hu)]
      split <;> rfl
    · simp only [fm_X11_untell, below2, below3, below4, below5, below6, below7, below20, below31, below70, within_in, fm_X11_isKnot, fm_X11_isThread, fm_X11_isHand, fm_X11_isSheet, his_0, his_89, Option.bind_some, ob2_some, if_true, if_false, reduceIte, ob2_eta, one_ne, ea, hasText_ok hu, gR_89_0, ixT, as_90 _ (show 181 + 125 * u < 515 by omega), sF_1]
      by_cases c : txN (m.1 90) u ≤ 0 <;> simp [c]
  · refine h.e1 ?_ fun m' e => ?_ <;> simp only [fm_X10_untell, fm_X11_untell, below2, below3, below4, below5, below6, below7, below20, below31, below70, within_in, fm_X11_isKnot, fm_X11_isThread, fm_X11_isHand, fm_X11_isSheet, his_0, his_89, Option.bind_some, ob2_some, if_true, if_false, reduceIte, ob2_eta, one_ne, ea]
theorem ra79 {m : xM2} {i : Nat} (hi : i < 4) : hp_ra (mk m) 79 (nI i) = some (81 + 2 * i) := by
  rcases i with _ | _ | _ | _ | i
  · rfl
  · rfl
  · rfl
  · rfl
  · omega
theorem so {i : Nat} (hi : i < 4) : isSheet (81 + 2 * i) := by unfold isSheet; omega
theorem ix40 {i j : Nat} : (40 : Int32) * nI i + nI j = nI (40 * i + j) := by
  show nI 40 * nI i + nI j = _
  rw [pk_mul, nI_add]
theorem num_in {x y : Int32} (h : numR x y) {n : Nat} (hn : n ≤ 127) : (fm_X11_in x 0 (nI n) = 0 ∧ fm_X11_in y 0 (nI n) = 0) ∨ (x = y ∧ ∃ k, k ≤ n ∧ x = nI k ∧ fm_X11_in x 0 (nI n) = 1) := by
  rcases h with h | ⟨h1, h2⟩
  · subst h
    rcases inC x (lo := 0) (hi := nI n) 0 n rfl rfl (by omega) with ⟨k, -, k2, e, q⟩ | q
    · exact Or.inr ⟨rfl, k, k2, e, q⟩
    · exact Or.inl ⟨q, q⟩
  · have c : (nI n : Int32) ≤ 127 := nI_le (b := 127) hn (by decide)
    refine Or.inl ⟨?_, ?_⟩ <;> rw [in_eq, if_neg]
    · exact fun q => h1 ⟨q.1, Int32.le_trans q.2 c⟩
    · exact fun q => h2 ⟨q.1, Int32.le_trans q.2 c⟩
theorem num_eq {x y : Int32} (h : numR x y) {n : Nat} (hn : n ≤ 127) : x = nI n ↔ y = nI n := by
  rcases h with h | ⟨h1, h2⟩
  · rw [h]
  · have c : (0 : Int32) ≤ nI n ∧ (nI n : Int32) ≤ 127 := ⟨nI_pos' (by omega), nI_le (b := 127) hn (by decide)⟩
    constructor
    · intro e; rw [e] at h1; exact absurd c h1
    · intro e; rw [e] at h2; exact absurd c h2
theorem judge_l {m : xM2} {i N : Nat} {s : Nat → Int32} (hi : i < 4) (hN : N ≤ 40) (hz : m.2 (81 + 2 * i) 2 = nI N) (hz2 : m.1 102 i = nI N) (hn : ∀ j, j < 40 → numR (m.1 (82 + 2 * i) j) (m.1 103 (40 * i + j))) (hq : netR m 2 s) (hs : m.1 90 = s) (hw : dayOk s 9999) :
    ∀ (j k n n' : Nat), k + j = N → j < n → j < n' → ∃ v, fm_X10_judge_b26 n 0 (81 + 2 * i) (nI k) (mk m) = some (v, mk m) ∧ fm_X11_judge_b18 n' 89 (nI i) (nI k) (mk m) = some (v, mk m) := by
  intro j
  induction j with
  | zero =>
    intro k n n' hk h1 h2
    obtain ⟨n, rfl⟩ : ∃ x, n = x + 1 := ⟨n - 1, by omega⟩
    obtain ⟨n', rfl⟩ : ∃ x, n' = x + 1 := ⟨n' - 1, by omega⟩
    have : k = N := by omega
    subst this
    refine ⟨nI k, ?_, ?_⟩
    · rw [fm_X10_judge_b26]
      simp only [stI2 (so hi), Option.bind_some, ob2_some, if_true, if_false, reduceIte, hz, Int32.le_refl]
    · rw [fm_X11_judge_b18]
      simp only [gR_89_20, al_102 _ hi, Option.bind_some, ob2_some, if_true, if_false, reduceIte, hz2, Int32.le_refl]
  | succ j ih =>
    intro k n n' hk h1 h2
    obtain ⟨n, rfl⟩ : ∃ x, n = x + 1 := ⟨n - 1, by omega⟩
    obtain ⟨n', rfl⟩ : ∃ x, n' = x + 1 := ⟨n' - 1, by omega⟩
    have ng : ¬ nI N ≤ nI k := nI_ge (by omega) (by omega)
    rw [fm_X10_judge_b26, fm_X11_judge_b18]
    simp only [stI2 (so hi), Option.bind_some, ob2_some, if_true, if_false, reduceIte, hz, ng, gR_89_20, al_102 _ hi, hz2]
    by_cases e : 31 ≤ k
    · have g : (31 : Int32) ≤ nI k := nI_le (a := 31) e (by omega)
      simp only [g, if_true]
      exact ⟨_, rfl, rfl⟩
    · have g : ¬ (31 : Int32) ≤ nI k := n31 (by omega)
      have k31 : k < 31 := by omega
      obtain ⟨w, w1, w2⟩ := hw.2.2.2.1 k k31
      have v7 : m.1 7 k = nI w := (hq.2.2.2.2.1 k k31).trans w2
      have v90 : m.1 90 (88 + 3 * k + 1) = nI w := by rw [hs]; exact w2
      have nk := num_eq (hn k (by omega)) (n := w) (by omega)
      simp only [g, Option.bind_some, ob2_some, if_true, if_false, reduceIte, stR0 (so hi), show 81 + 2 * i + 1 = 82 + 2 * i by omega, gR_0_0, gR_1_0, gR_2_4, al_7 _ k31, v7, gR_89_21, ix40, al_103 _ (show 40 * i + k < 160 by omega), his_89, of1 k31, v90]
      have sa := stA1 (so hi) m (i := k) (by omega)
      rw [show 81 + 2 * i + 1 = 82 + 2 * i by omega] at sa
      rw [sa, Option.bind_some]
      by_cases q : m.1 (82 + 2 * i) k = nI w
      · rw [if_pos q, if_pos (nk.mp q), nI_1]
        exact ih (k + 1) n n' (by omega) (by omega) (by omega)
      · rw [if_neg q, if_neg (fun x => q (nk.mpr x))]
        exact ⟨_, rfl, rfl⟩
theorem p_judge {m : xM2} (h : Rel m) (a : Int32) : pr m (fm_X10_judge 0 a) (fm_X11_judge 89 a) := by
  rcases inC a (lo := 0) (hi := 3) 0 3 with ⟨i, -, hi', rfl, ea⟩ | ea
  · obtain ⟨hq, hw, -, -, hsh, -⟩ := id h
    have hi : i < 4 := by omega
    obtain ⟨s1, s2, s3, ⟨N, n1, n2⟩, s5, s6⟩ := hsh i hi
    by_cases e0 : m.1 101 i = 0
    · refine h.e2 ?_ fun m' e => ?_
      · simp only [fm_X10_judge, fm_X10_readingError, below2, below3, below4, below5, below6, below7, below20, below31, below70, within_in, fm_X11_isKnot, fm_X11_isThread, fm_X11_isHand, fm_X11_isSheet, his_0, his_89, Option.bind_some, ob2_some, if_true, if_false, reduceIte, ob2_eta, one_ne, ea, gR_0_8, ra79 hi, stH (so hi), fm_X7_isMissing, stI1 (so hi), s1, e0, show ¬ (-1000000002 : Int32) = 0 by decide]
      · simp only [fm_X11_judge, fm_X11_lacks, below2, below3, below4, below5, below6, below7, below20, below31, below70, within_in, fm_X11_isKnot, fm_X11_isThread, fm_X11_isHand, fm_X11_isSheet, his_0, his_89, Option.bind_some, ob2_some, if_true, if_false, reduceIte, ob2_eta, one_ne, ea, gR_89_19, al_101 _ hi, e.at (a := 101), e0, show ¬ (2 : Int32) ≤ 0 by decide]
    · obtain ⟨v, k1, k2⟩ := judge_l hi n1 (s2.trans n2) n2 s6 hq.1 rfl hw.d N 0 5000 5000 (by omega) (by omega) (by omega)
      rw [show nI 0 = 0 from rfl] at k1 k2
      refine h.val (v := v) ?_ ?_
      · simp only [fm_X10_judge, fm_X10_readingError, below2, below3, below4, below5, below6, below7, below20, below31, below70, within_in, fm_X11_isKnot, fm_X11_isThread, fm_X11_isHand, fm_X11_isSheet, his_0, his_89, Option.bind_some, ob2_some, if_true, if_false, reduceIte, ob2_eta, one_ne, ea, gR_0_8, ra79 hi, stH (so hi), fm_X7_isMissing, stI1 (so hi), s1, e0, k1]
      · simp only [fm_X11_judge, fm_X11_lacks, below2, below3, below4, below5, below6, below7, below20, below31, below70, within_in, fm_X11_isKnot, fm_X11_isThread, fm_X11_isHand, fm_X11_isSheet, his_0, his_89, Option.bind_some, ob2_some, if_true, if_false, reduceIte, ob2_eta, one_ne, ea, gR_89_19, al_101 _ hi, e0, k2, Int32.le_refl]
  · refine h.e1 ?_ fun m' e => ?_
    · simp only [fm_X10_judge, fm_X10_readingError, below2, below3, below4, below5, below6, below7, below20, below31, below70, within_in, fm_X11_isKnot, fm_X11_isThread, fm_X11_isHand, fm_X11_isSheet, his_0, his_89, Option.bind_some, ob2_some, if_true, if_false, reduceIte, ob2_eta, one_ne, ea, show ¬ (-1000000001 : Int32) = 0 by decide]
    · simp only [fm_X11_judge, fm_X11_lacks, below2, below3, below4, below5, below6, below7, below20, below31, below70, within_in, fm_X11_isKnot, fm_X11_isThread, fm_X11_isHand, fm_X11_isSheet, his_0, his_89, Option.bind_some, ob2_some, if_true, if_false, reduceIte, ob2_eta, one_ne, ea, show ¬ (1 : Int32) ≤ 0 by decide]
