/-! CALLS: SHEETS WRITTEN -/
theorem in_30 {x : Int32} : fm_X10_isBelow x 31 = fm_X11_in x 0 (nI 30) := below31
theorem cutAll_l {i N : Nat} (hi : i < 4) (hN : N ≤ 40) : ∀ (j k n n' : Nat), k + j = N → j < n → j < n' → ∀ (m : xM2) (s : Nat → Int32), quayR m 1 s → wf s → m.2 (81 + 2 * i) 2 = nI N → ∃ v s' m', fm_X10_cutAll_b26 n 0 (81 + 2 * i) (nI k) (mk m) = some (v, mk m') ∧ scN 2 m m' ∧ quayR m' 1 s' ∧ wf s' ∧
    ∀ mr : xM2, mr.1 90 = s → mr.1 102 i = nI N → (∀ j, j < 40 → numR (m.1 (82 + 2 * i) j) (mr.1 103 (40 * i + j))) → ∃ mr', fm_X11_cutAll_b18 n' 89 (nI i) (nI k) (mk mr) = some (v, mk mr') ∧ kpR mr mr' ∧ mr'.1 90 = s' := by
  intro j
  induction j with
  | zero =>
    intro k n n' hk h1 h2 m s hq hw hz
    obtain ⟨n, rfl⟩ : ∃ x, n = x + 1 := ⟨n - 1, by omega⟩
    obtain ⟨n', rfl⟩ : ∃ x, n' = x + 1 := ⟨n' - 1, by omega⟩
    have : k = N := by omega
    subst this
    refine ⟨nI k, s, m, ?_, scN.rf, hq, hw, fun mr hr hz2 hn => ⟨mr, ?_, kpR.rf, hr⟩⟩
    · rw [fm_X10_cutAll_b26]
      simp only [stI2 (so hi), Option.bind_some, ob2_some, if_true, if_false, reduceIte, hz, Int32.le_refl]
    · rw [fm_X11_cutAll_b18]
      simp only [gR_89_20, al_102 _ hi, Option.bind_some, ob2_some, if_true, if_false, reduceIte, hz2, Int32.le_refl]
  | succ j ih =>
    intro k n n' hk h1 h2 m s hq hw hz
    obtain ⟨n, rfl⟩ : ∃ x, n = x + 1 := ⟨n - 1, by omega⟩
    obtain ⟨n', rfl⟩ : ∃ x, n' = x + 1 := ⟨n' - 1, by omega⟩
    have ng : ¬ nI N ≤ nI k := nI_ge (by omega) (by omega)
    have k40 : k < 40 := by omega
    have sa := stA1 (so hi) m (i := k) k40
    rw [show 81 + 2 * i + 1 = 82 + 2 * i by omega] at sa
    have stop : fm_X11_in (m.1 (82 + 2 * i) k) 0 30 = 0 ∨ (∃ t, t ≤ 30 ∧ m.1 (82 + 2 * i) k = nI t ∧ gn s t = true) ∨ ∃ t, t ≤ 30 ∧ m.1 (82 + 2 * i) k = nI t ∧ gn s t = false := by
      rcases inC (m.1 (82 + 2 * i) k) (lo := 0) (hi := 30) 0 30 with ⟨t, -, t1, t2, -⟩ | q
      · cases g : gn s t
        · exact Or.inr (Or.inr ⟨t, t1, t2, g⟩)
        · exact Or.inr (Or.inl ⟨t, t1, t2, g⟩)
      · exact Or.inl q
    have inT : ∀ t, t ≤ 30 → fm_X11_in (nI t) 0 30 = 1 := fun t ht => by
      rw [in_eq]
      exact if_pos (rng_in (n := 30) ht (by decide))
    rcases stop with q | ⟨t, t1, t2, g⟩ | ⟨t, t1, t2, g⟩
    · refine ⟨nI k, s, m, ?_, scN.rf, hq, hw, fun mr hr hz2 hn => ⟨mr, ?_, kpR.rf, hr⟩⟩
      · rw [fm_X10_cutAll_b26]
        simp only [stI2 (so hi), Option.bind_some, ob2_some, if_true, if_false, reduceIte, hz, ng, stR0 (so hi), show 81 + 2 * i + 1 = 82 + 2 * i by omega, sa, below31, q]
      · have q2 : fm_X11_in (mr.1 103 (40 * i + k)) 0 30 = 0 := by
          rcases num_in (hn k k40) (n := 30) (by decide) with ⟨-, x⟩ | ⟨e, y, y1, y2, y3⟩
          · exact x
          · rw [← e]; exact q
        rw [fm_X11_cutAll_b18]
        simp only [gR_89_20, al_102 _ hi, Option.bind_some, ob2_some, if_true, if_false, reduceIte, hz2, ng, gR_89_21, ix40, al_103 _ (show 40 * i + k < 160 by omega), fm_X11_isThread, q2]
    · have ht : t < 31 := by omega
      refine ⟨nI k, s, m, ?_, scN.rf, hq, hw, fun mr hr hz2 hn => ⟨mr, ?_, kpR.rf, hr⟩⟩
      · rw [fm_X10_cutAll_b26]
        simp only [stI2 (so hi), Option.bind_some, ob2_some, if_true, if_false, reduceIte, hz, ng, stR0 (so hi), show 81 + 2 * i + 1 = 82 + 2 * i by omega, sa, below31, t2, inT t t1, one_ne, gR_0_0, gR_1_0, his_2, nmiss_ok no2 hq.g9 ht, g]
      · have q2 : mr.1 103 (40 * i + k) = nI t := (num_eq (hn k k40) (n := t) (by omega)).mp t2
        rw [fm_X11_cutAll_b18]
        simp only [gR_89_20, al_102 _ hi, Option.bind_some, ob2_some, if_true, if_false, reduceIte, hz2, ng, gR_89_21, ix40, al_103 _ (show 40 * i + k < 160 by omega), fm_X11_isThread, q2, inT t t1, one_ne, his_89, isMissing_ok ht, hr, g]
    · have ht : t < 31 := by omega
      obtain ⟨m1, c1, c2, c3, -⟩ := lose_ok no2 hq.1 ht
      have q1 := hq.net c1 c2 fun j h1 h2 => by rw [upd_n (by omega), upd_n (by omega)]
      have z1 : m1.2 (81 + 2 * i) 2 = nI N := by rw [(c1 _ (by omega)).2]; exact hz
      obtain ⟨v, s', m', d1, d2, d3, d4, d5⟩ := ih (k + 1) n n' (by omega) (by omega) (by omega) m1 _ q1 (hw.lose ht) z1
      refine ⟨v, s', m', ?_, c1.tr d2, d3, d4, fun mr hr hz2 hn => ?_⟩
      · rw [fm_X10_cutAll_b26]
        simp only [stI2 (so hi), Option.bind_some, ob2_some, if_true, if_false, reduceIte, hz, ng, stR0 (so hi), show 81 + 2 * i + 1 = 82 + 2 * i by omega, sa, below31, t2, inT t t1, one_ne, gR_0_0, gR_1_0, his_2, nmiss_ok no2 hq.g9 ht, g, Bool.false_eq_true, c3, nI_1]
        exact d1
      · have q2 : mr.1 103 (40 * i + k) = nI t := (num_eq (hn k k40) (n := t) (by omega)).mp t2
        obtain ⟨mr', f1, f2, f3⟩ := d5 (sA mr 90 (upd (upd s (88 + 3 * t + 0) 0) (88 + 3 * t + 1) 0)) sA_s hz2 (fun j hj => by rw [(c1 _ (by omega)).1]; exact hn j hj)
        refine ⟨mr', ?_, kpR.tr kpR.A f2, f3⟩
        rw [fm_X11_cutAll_b18]
        simp only [gR_89_20, al_102 _ hi, Option.bind_some, ob2_some, if_true, if_false, reduceIte, hz2, ng, gR_89_21, ix40, al_103 _ (show 40 * i + k < 160 by omega), fm_X11_isThread, q2, inT t t1, one_ne, his_89, isMissing_ok ht, hr, g, Bool.false_eq_true, loses_ok ht, nI_1]
        exact f1
theorem p_cutAll {m : xM2} (h : Rel m) (a : Int32) : pr m (fm_X10_cutAll 0 a) (fm_X11_cutAll 89 a) := by
  rcases inC a (lo := 0) (hi := 3) 0 3 with ⟨i, -, hi', rfl, ea⟩ | ea
  · obtain ⟨hq, hw, -, -, hsh, -⟩ := id h
    have hi : i < 4 := by omega
    obtain ⟨s1, s2, s3, ⟨N, n1, n2⟩, s5, s6⟩ := hsh i hi
    by_cases e0 : m.1 101 i = 0
    · refine h.e2 ?_ fun m' e => ?_
      · simp only [fm_X10_cutAll, fm_X10_readingError, below2, below3, below4, below5, below6, below7, below20, below31, below70, within_in, fm_X11_isKnot, fm_X11_isThread, fm_X11_isHand, fm_X11_isSheet, his_0, his_89, Option.bind_some, ob2_some, if_true, if_false, reduceIte, ob2_eta, one_ne, ea, gR_0_8, ra79 hi, stH (so hi), fm_X7_isMissing, stI1 (so hi), s1, e0, show ¬ (-1000000002 : Int32) = 0 by decide]
      · simp only [fm_X11_cutAll, fm_X11_lacks, below2, below3, below4, below5, below6, below7, below20, below31, below70, within_in, fm_X11_isKnot, fm_X11_isThread, fm_X11_isHand, fm_X11_isSheet, his_0, his_89, Option.bind_some, ob2_some, if_true, if_false, reduceIte, ob2_eta, one_ne, ea, gR_89_19, al_101 _ hi, e.at (a := 101), e0, show ¬ (2 : Int32) ≤ 0 by decide]
    · obtain ⟨v, s', m', k1, k2, k3, k4, k5⟩ := cutAll_l hi n1 N 0 5000 5000 (by omega) (by omega) (by omega) m _ hq hw (s2.trans n2)
      have e90 : m'.1 90 = m.1 90 := k2.s
      obtain ⟨mr', f1, f2, f3⟩ := k5 m' e90 (by rw [(k2 102 (by decide)).1]; exact n2) (fun j hj => by rw [(k2 103 (by decide)).1]; exact s6 j hj)
      rw [show nI 0 = 0 from rfl] at k1 f1
      refine h.ok (v := v) (m1 := m') (m2 := mr') ?_ ?_ k2.C f2 k3 f3 k4
      · simp only [fm_X10_cutAll, fm_X10_readingError, below2, below3, below4, below5, below6, below7, below20, below31, below70, within_in, fm_X11_isKnot, fm_X11_isThread, fm_X11_isHand, fm_X11_isSheet, his_0, his_89, Option.bind_some, ob2_some, if_true, if_false, reduceIte, ob2_eta, one_ne, ea, gR_0_8, ra79 hi, stH (so hi), fm_X7_isMissing, stI1 (so hi), s1, e0, k1]
      · have e101 : m'.1 101 i = m.1 101 i := by rw [(k2 101 (by decide)).1]
        simp only [fm_X11_cutAll, fm_X11_lacks, below2, below3, below4, below5, below6, below7, below20, below31, below70, within_in, fm_X11_isKnot, fm_X11_isThread, fm_X11_isHand, fm_X11_isSheet, his_0, his_89, Option.bind_some, ob2_some, if_true, if_false, reduceIte, ob2_eta, one_ne, ea, gR_89_19, al_101 _ hi, e101, e0, f1, Int32.le_refl]
  · refine h.e1 ?_ fun m' e => ?_
    · simp only [fm_X10_cutAll, fm_X10_readingError, below2, below3, below4, below5, below6, below7, below20, below31, below70, within_in, fm_X11_isKnot, fm_X11_isThread, fm_X11_isHand, fm_X11_isSheet, his_0, his_89, Option.bind_some, ob2_some, if_true, if_false, reduceIte, ob2_eta, one_ne, ea, show ¬ (-1000000001 : Int32) = 0 by decide]
    · simp only [fm_X11_cutAll, fm_X11_lacks, below2, below3, below4, below5, below6, below7, below20, below31, below70, within_in, fm_X11_isKnot, fm_X11_isThread, fm_X11_isHand, fm_X11_isSheet, his_0, his_89, Option.bind_some, ob2_some, if_true, if_false, reduceIte, ob2_eta, one_ne, ea, show ¬ (1 : Int32) ≤ 0 by decide]
/-- a call that changes sheets alone -/
theorem Rel.sheets {m m1 m2 : xM2} {v : Int32} {f g : qx_H → Option (Int32 × qx_H)} (h : Rel m) (hf : f (mk m) = some (v, mk m1)) (hg : g (mk m1) = some (v, mk m2)) (hc : ∀ a, a < 81 ∨ 89 ≤ a → same m m1 a) (hr : (∀ a, a < 89 → same m1 m2 a) ∧ m2.2 = m1.2 ∧ ∀ a, a ≠ 101 → a ≠ 102 → a ≠ 103 → a ≠ 104 → m2.1 a = m1.1 a) (hs : ∀ i, i < 4 → shR m2 i) : pr m f g := by
  obtain ⟨hq, hw, ⟨i1, i2⟩, he, hsh, ⟨n, n1, n2, n3, n4⟩⟩ := h
  obtain ⟨r1, r2, r3⟩ := hr
  have st : ∀ a, a < 81 → same m m2 a := fun a ha => ⟨(r1 a (by omega)).1.trans (hc a (by omega)).1, (r1 a (by omega)).2.trans (hc a (by omega)).2⟩
  have rr : ∀ a, 89 ≤ a → a ≠ 101 → a ≠ 102 → a ≠ 103 → a ≠ 104 → m2.1 a = m.1 a := fun a h1 x y z w => (r3 a x y z w).trans (hc a (by omega)).1
  have r89 : m2.2 89 = m.2 89 := by rw [r2, (hc 89 (by decide)).2]
  have r90 := rr 90 (by decide) (by decide) (by decide) (by decide) (by decide)
  refine ⟨v, m1, m2, hf, hg, ?_, ?_, ⟨?_, fun q => ?_⟩, fun k k1 k2 => ?_, hs, ⟨n, n1, ?_, ?_, fun j hj => ?_⟩⟩
  · rw [r90]; exact hq.mv fun a x y => st a (by omega)
  · rw [r90]; exact hw
  · rw [(st 0 (by decide)).2, r89]; exact i1
  · rw [r89] at q
    rw [rr 91 (by decide) (by decide) (by decide) (by decide) (by decide)]
    exact ⟨(i2 q).1.mv fun a x y => st a (by omega), (i2 q).2⟩
  · rw [(st 80 (by decide)).1, rr 93 (by decide) (by decide) (by decide) (by decide) (by decide)]; exact he k k1 k2
  · rw [(st 77 (by decide)).2]; exact n2
  · rw [r89]; exact n3
  · rw [(st 78 (by decide)).1, rr 100 (by decide) (by decide) (by decide) (by decide) (by decide)]; exact n4 j hj
/-- numbers that two ways of masking keep alike -/
theorem mask_ok {b : Nat} (hb : b = 8 ∨ b = 16) (v : Int32) : numR (v &&& ((ji_shl 1 (nI b)) - 1)) (ji_shr (ji_shl v (32 - nI b)) (32 - nI b)) := by
  have e1 : ji_shl 1 (nI b) - 1 = if b = 8 then 255 else 65535 := by rcases hb with rfl | rfl <;> decide
  have e2 : (32 : Int32) - nI b = nI (32 - b) := pk_sub (a := 32) (by omega)
  have bA : ∀ i, i < 32 → bt (v &&& (ji_shl 1 (nI b) - 1)) i = (bt v i && decide (i < b)) := by
    intro i hi
    rw [b_and, e1]
    rcases hb with rfl | rfl
    · rw [if_pos rfl, b_255]
    · rw [if_neg (by decide), b_65535]
  have bB : ∀ i, i < 32 → bt (ji_shr (ji_shl v (32 - nI b)) (32 - nI b)) i = if i < b then bt v i else bt v (b - 1) := by
    intro i hi
    rw [e2]
    unfold ji_shr ji_shl
    rw [b_sshr _ (by omega) _ hi]
    split
    · rw [b_shl _ (by omega) _ (by omega), if_pos (by omega), show 32 - b + i - (32 - b) = i by omega]
      simp
    · rw [b_shl _ (by omega) _ (by decide), if_neg (by omega), show 31 - (32 - b) = b - 1 by omega]
      simp
      omega
  cases g : bt v (b - 1)
  · left
    apply b_ext
    intro i hi
    rw [bA i hi, bB i hi]
    by_cases q : i < b
    · rw [if_pos q]; simp [q]
    · rw [if_neg q, g]; simp [q]
  · right
    have big : ∀ x : Int32, bt x (b - 1) = true → ¬ (0 ≤ x ∧ x ≤ 127) := by
      intro x hx hx2
      obtain ⟨k, k1, rfl⟩ := rng (n := 127) (by decide) hx2
      have key : ∀ k, k < 128 → bt (nI k) 7 = false ∧ bt (nI k) 15 = false := by decide +kernel
      rcases hb with rfl | rfl
      · rw [(key k (by omega)).1] at hx; cases hx
      · rw [(key k (by omega)).2] at hx; cases hx
    refine ⟨big _ ?_, big _ ?_⟩
    · rw [bA _ (by omega), g]; simp; omega
    · rw [bB _ (by omega), g]; simp
theorem mask32 (v : Int32) : ji_shr (ji_shl v (32 - 32)) (32 - 32) = v := by
  apply b_ext
  intro i hi
  rw [show (32 - 32 : Int32) = nI 0 by decide]
  unfold ji_shr ji_shl
  rw [b_sshr _ (by decide) _ hi, if_pos (by omega), b_shl _ (by decide) _ (by omega), show 0 + i - 0 = i by omega]
  simp
theorem p_put {m : xM2} (h : Rel m) (a b c : Int32) : pr m (fm_X10_put 0 a b c) (fm_X11_put 89 a b c) := by
  rcases inC a (lo := 0) (hi := 3) 0 3 with ⟨i, -, hi', rfl, ea⟩ | ea
  · obtain ⟨hq, hw, -, -, hsh, -⟩ := id h
    have hi : i < 4 := by omega
    obtain ⟨s1, s2, s3, ⟨N, n1, n2⟩, s5, s6⟩ := hsh i hi
    by_cases e0 : m.1 101 i = 0
    · refine h.e2 ?_ fun m' e => ?_
      · simp only [fm_X10_put, below2, below3, below4, below5, below6, below7, below20, below31, below70, within_in, fm_X11_isKnot, fm_X11_isThread, fm_X11_isHand, fm_X11_isSheet, his_0, his_89, Option.bind_some, ob2_some, if_true, if_false, reduceIte, ob2_eta, one_ne, ea, gR_0_8, ra79 hi, stH (so hi), fm_X7_isMissing, stI1 (so hi), s1, e0]
      · simp only [fm_X11_put, below2, below3, below4, below5, below6, below7, below20, below31, below70, within_in, fm_X11_isKnot, fm_X11_isThread, fm_X11_isHand, fm_X11_isSheet, his_0, his_89, Option.bind_some, ob2_some, if_true, if_false, reduceIte, ob2_eta, one_ne, ea, gR_89_19, al_101 _ hi, e.at (a := 101), e0]
    · have lim : fm_X10_isBelow b (nI N) = 0 ∧ fm_X11_in b 0 (nI N - 1) = 0 ∨ ∃ k, k < N ∧ b = nI k ∧ fm_X10_isBelow b (nI N) = 1 ∧ fm_X11_in b 0 (nI N - 1) = 1 := by
        rcases N with _ | N
        · left
          constructor
          · unfold fm_X10_isBelow
            by_cases q : b < 0
            · rw [if_pos q]
            · rw [if_neg q]
              exact if_pos (Int32.not_lt.mp q)
          · rw [in_eq, if_neg]
            rintro ⟨q1, q2⟩
            exact absurd (Int32.le_trans q1 q2) (by decide)
        · rw [nI_pred, below_in (by omega)]
          rcases inC b (lo := 0) (hi := nI N) 0 N rfl rfl (by omega) with ⟨k, -, k2, k3, k4⟩ | q
          · exact Or.inr ⟨k, by omega, k3, k4, k4⟩
          · exact Or.inl ⟨q, q⟩
      rcases lim with ⟨l1, l2⟩ | ⟨k, hk, rfl, l1, l2⟩
      · refine h.e1 ?_ fun m' e => ?_
        · simp only [fm_X10_put, below2, below3, below4, below5, below6, below7, below20, below31, below70, within_in, fm_X11_isKnot, fm_X11_isThread, fm_X11_isHand, fm_X11_isSheet, his_0, his_89, Option.bind_some, ob2_some, if_true, if_false, reduceIte, ob2_eta, one_ne, ea, gR_0_8, ra79 hi, stH (so hi), fm_X7_isMissing, stI1 (so hi), s1, e0, stI2 (so hi), s2, n2, l1]
        · simp only [fm_X11_put, below2, below3, below4, below5, below6, below7, below20, below31, below70, within_in, fm_X11_isKnot, fm_X11_isThread, fm_X11_isHand, fm_X11_isSheet, his_0, his_89, Option.bind_some, ob2_some, if_true, if_false, reduceIte, ob2_eta, one_ne, ea, gR_89_19, gR_89_20, al_101 _ hi, al_102 _ hi, e.at (a := 101), e.at (a := 102), e0, n2, l2]
      · have k40 : k < 40 := by omega
        obtain ⟨x, hx1, hx2⟩ : ∃ x, fm_X7_write (81 + 2 * i) (nI k) c (mk m) = some (mk (sA m (82 + 2 * i) (upd (m.1 (82 + 2 * i)) k x))) ∧ numR x (ji_shr (ji_shl c (32 - m.1 101 i)) (32 - m.1 101 i)) := by
          have sw : ∀ x, hp_ast (mk m) (81 + 2 * i + 1) (nI k) x = some (mk (sA m (82 + 2 * i) (upd (m.1 (82 + 2 * i)) k x))) := fun x => by
            rw [stS1 (so hi) m k40, show 81 + 2 * i + 1 = 82 + 2 * i by omega]
          rcases s3 with q | q | q | q
          · exact absurd q e0
          · refine ⟨c &&& (ji_shl 1 8 - 1), ?_, ?_⟩
            · simp only [fm_X7_write, stR0 (so hi), stI1 (so hi), s1, q, Option.bind_some, ob2_some, if_true, if_false, reduceIte, show ¬ (8 : Int32) = 32 by decide, fm_X7_write_b28, sw]
            · rw [q]; exact mask_ok (b := 8) (Or.inl rfl) c
          · refine ⟨c &&& (ji_shl 1 16 - 1), ?_, ?_⟩
            · simp only [fm_X7_write, stR0 (so hi), stI1 (so hi), s1, q, Option.bind_some, ob2_some, if_true, if_false, reduceIte, show ¬ (16 : Int32) = 32 by decide, fm_X7_write_b28, sw]
            · rw [q]; exact mask_ok (b := 16) (Or.inr rfl) c
          · refine ⟨c, ?_, ?_⟩
            · simp only [fm_X7_write, stR0 (so hi), stI1 (so hi), s1, q, Option.bind_some, ob2_some, if_true, if_false, reduceIte, fm_X7_write_b28, sw]
            · rw [q, mask32]; exact Or.inl rfl
        refine h.sheets (v := 1) (m1 := sA m (82 + 2 * i) (upd (m.1 (82 + 2 * i)) k x)) (m2 := sA (sA m (82 + 2 * i) (upd (m.1 (82 + 2 * i)) k x)) 103 (upd (m.1 103) (40 * i + k) (ji_shr (ji_shl c (32 - m.1 101 i)) (32 - m.1 101 i)))) ?_ ?_ (fun a ha => same_A (by omega)) ⟨fun a ha => same_A (by omega), rfl, fun a _ _ x _ => sA_n x⟩ fun r hr => ?_
        · simp only [fm_X10_put, below2, below3, below4, below5, below6, below7, below20, below31, below70, within_in, fm_X11_isKnot, fm_X11_isThread, fm_X11_isHand, fm_X11_isSheet, his_0, his_89, Option.bind_some, ob2_some, if_true, if_false, reduceIte, ob2_eta, one_ne, ea, gR_0_8, ra79 hi, stH (so hi), fm_X7_isMissing, stI1 (so hi), s1, e0, stI2 (so hi), s2, n2, l1, hx1]
        · have g1 : (sA m (82 + 2 * i) (upd (m.1 (82 + 2 * i)) k x)).1 101 = m.1 101 := sA_n (by omega)
          have g2 : (sA m (82 + 2 * i) (upd (m.1 (82 + 2 * i)) k x)).1 102 = m.1 102 := sA_n (by omega)
          have g3 : (sA m (82 + 2 * i) (upd (m.1 (82 + 2 * i)) k x)).1 103 = m.1 103 := sA_n (by omega)
          simp only [fm_X11_put, below2, below3, below4, below5, below6, below7, below20, below31, below70, within_in, fm_X11_isKnot, fm_X11_isThread, fm_X11_isHand, fm_X11_isSheet, his_0, his_89, Option.bind_some, ob2_some, if_true, if_false, reduceIte, ob2_eta, one_ne, ea, gR_89_19, gR_89_20, gR_89_21, al_101 _ hi, al_102 _ hi, g1, g2, g3, e0, n2, l2, ix40, as_103 _ (show 40 * i + k < 160 by omega)]
        · obtain ⟨t1, t2, t3, t4, t5, t6⟩ := hsh r hr
          have g1 : ∀ a, a ≠ 82 + 2 * i → a ≠ 103 → (sA (sA m (82 + 2 * i) (upd (m.1 (82 + 2 * i)) k x)) 103 (upd (m.1 103) (40 * i + k) (ji_shr (ji_shl c (32 - m.1 101 i)) (32 - m.1 101 i)))).1 a = m.1 a := fun a h1 h2 => (sA_n h2).trans (sA_n h1)
          refine ⟨by rw [g1 101 (by omega) (by decide)]; exact t1, by rw [g1 102 (by omega) (by decide)]; exact t2, by rw [g1 101 (by omega) (by decide)]; exact t3, by rw [g1 102 (by omega) (by decide)]; exact t4, by rw [g1 101 (by omega) (by decide), g1 102 (by omega) (by decide)]; exact t5, fun j hj => ?_⟩
          rw [sA_s]
          by_cases er : r = i
          · subst er
            rw [sA_n (by omega), sA_s]
            by_cases ej : j = k
            · subst ej; rw [upd_s, upd_s]; exact hx2
            · rw [upd_n ej, upd_n (by omega)]; exact t6 j hj
          · rw [sA_n (by omega), sA_n (by omega), upd_n (by omega)]; exact t6 j hj
  · refine h.e1 ?_ fun m' e => ?_ <;> simp only [fm_X10_put, fm_X11_put, below2, below3, below4, below5, below6, below7, below20, below31, below70, within_in, fm_X11_isKnot, fm_X11_isThread, fm_X11_isHand, fm_X11_isSheet, his_0, his_89, Option.bind_some, ob2_some, if_true, if_false, reduceIte, ob2_eta, one_ne, ea]
