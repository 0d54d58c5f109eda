/-! CALLS: LOOKS AHEAD -/
theorem bit_first {x : Int32} (hx : ¬ x = 0) : ∃ t, t < 32 ∧ bt x t = true ∧ ∀ u, u < t → bt x u = false := by
  obtain ⟨t, ht, hb⟩ := ne0_iff.mp hx
  obtain ⟨k, k1, k2⟩ := pk_least (fun t => bt x t = true) ⟨t, hb⟩
  refine ⟨k, ?_, k1, fun u hu => Bool.eq_false_iff.mpr (k2 u hu)⟩
  by_cases e : k ≤ t
  · omega
  · exact absurd hb (k2 t (by omega))
theorem firstOf_ok {x : Int32} {t : Nat} (ht : t < 31) (h1 : bt x t = true) (h2 : ∀ u, u < t → bt x u = false) (H : qx_H) : fm_X0_firstOf x H = some (nI t) := by
  have key : ∀ (j i n : Nat), i + j = t → j < n → fm_X0_firstOf_b2 n x (nI i) H = some (nI t) := by
    intro j
    induction j with
    | zero =>
      intro i n hi hn
      obtain ⟨n, rfl⟩ : ∃ n', n = n' + 1 := ⟨n - 1, by omega⟩
      have : i = t := by omega
      subst this
      rw [fm_X0_firstOf_b2, if_neg (n31 ht), if_neg (fun q => by rw [bt_in0 (by omega)] at q; rw [h1] at q; cases q)]
    | succ j ih =>
      intro i n hi hn
      obtain ⟨n, rfl⟩ : ∃ n', n = n' + 1 := ⟨n - 1, by omega⟩
      rw [fm_X0_firstOf_b2, if_neg (n31 (by omega)), if_pos ((bt_in0 (by omega) x).mpr (h2 i (by omega))), nI_1]
      exact ih (i + 1) n (by omega) (by omega)
  exact key t 0 5000 (by omega) (by omega)
theorem least_ok {x : Int32} {t : Nat} (ht : t < 31) (h1 : bt x t = true) (h2 : ∀ u, u < t → bt x u = false) (H : qx_H) : fm_X11_least x H = some (nI t) := by
  have key : ∀ (j i n : Nat), i + j = t → j < n → fm_X11_least_b2 n x (nI i) H = some (nI t) := by
    intro j
    induction j with
    | zero =>
      intro i n hi hn
      obtain ⟨n, rfl⟩ : ∃ n', n = n' + 1 := ⟨n - 1, by omega⟩
      have : i = t := by omega
      subst this
      rw [fm_X11_least_b2, isIn_eq (by omega), h1, if_pos rfl, if_neg (by decide)]
    | succ j ih =>
      intro i n hi hn
      obtain ⟨n, rfl⟩ : ∃ n', n = n' + 1 := ⟨n - 1, by omega⟩
      rw [fm_X11_least_b2, isIn_eq (by omega), h2 i (by omega), if_pos (by decide), nI_1]
      exact ih (i + 1) n (by omega) (by omega)
  exact key t 0 5000 (by omega) (by omega)
theorem day_gn {s : Nat → Int32} {t : Nat} (h : gn s t = true) (ht : t < 31) : gn (dayS s) t = true := by
  unfold gn at *
  have e : s (88 + 3 * t + 0) = 0 := of_decide_eq_true h
  rw [decide_eq_true_iff, dayS, upd_n (by omega), show 88 + 3 * t = 88 + 3 * t + 0 from rfl, dl_at (by decide)]
  split
  · rfl
  · rw [dw_at (by decide), if_neg (by omega)]
    exact e
theorem dayN_gn {s : Nat → Int32} {t : Nat} (h : gn s t = true) (ht : t < 31) : ∀ n, gn (dayN s n) t = true
  | 0 => h
  | n + 1 => day_gn (dayN_gn h ht n) ht
theorem gone_more {s s' : Nat → Int32} (h : ∀ t, t < 31 → gn s t = true → gn s' t = true) : (goneS s' &&& (goneS s ^^^ (-1)) = 0) ↔ goneS s' = goneS s := by
  constructor
  · intro q
    apply lo_ext (n := 31) (lo_enc (by decide)) (lo_enc (by decide))
    intro i hi hi2
    show bt (goneS s') i = bt (goneS s) i
    have : bt (goneS s' &&& (goneS s ^^^ (-1))) i = false := by rw [q, b_0]
    rw [b_and, bt_not _ hi2] at this
    have a := h i hi
    rw [← bt_gone hi, ← bt_gone hi] at a
    cases x : bt (goneS s) i
    · rw [x] at this
      simpa using this
    · exact a x
  · intro q
    rw [q]
    apply b_ext
    intro i hi
    rw [b_and, bt_not _ hi, b_0]
    cases bt (goneS s) i <;> rfl
def goP (s : Nat → Int32) (k : Nat) : Prop := goneS (dayN s k) = goneS s
theorem goes_c {s : Nat → Int32} {N K : Nat} {b : Int32} (hw : dayOk s 9999) (hN : N ≤ 60) (hK : K ≤ N) (hP : ∀ k, k ≤ K → goP s k) : ∀ (j i n : Nat), i + j = K → j < n → ∀ m : xM2, netR m 37 (dayN s i) → m.2 2 9 = goneS s → ∃ m', scN 37 m m' ∧ netR m' 37 (dayN s K) ∧ m'.2 2 9 = goneS s ∧ fm_X10_goes_b41 n 0 (nI N) b (nI (i + 1)) (mk m) = fm_X10_goes_b41 (n - j) 0 (nI N) b (nI (K + 1)) (mk m') := by
  intro j
  induction j with
  | zero =>
    intro i n hi hn m hm h9
    have : i = K := by omega
    subst this
    exact ⟨m, scN.rf, hm, h9, rfl⟩
  | succ j ih =>
    intro i n hi hn m hm h9
    obtain ⟨n, rfl⟩ : ∃ n', n = n' + 1 := ⟨n - 1, by omega⟩
    obtain ⟨m1, a1, a2, a3⟩ := pass_ok no37 hm (dayN_ok hw i) (by omega)
    have h9' : m1.2 2 9 = goneS s := by rw [(a1 2 (by decide)).2]; exact h9
    obtain ⟨m2, b1, b2, b3, b4⟩ := ih (i + 1) n (by omega) (by omega) m1 a2 h9'
    refine ⟨m2, a1.tr b1, b2, b3, ?_⟩
    have e9 : m1.2 37 9 = goneS (dayN s (i + 1)) := a2.2.2.2.2.2.2.1
    have z : goneS (dayN s (i + 1)) &&& (goneS s ^^^ (-1)) = 0 := (gone_more fun t ht h => dayN_gn h ht (i + 1)).mpr (hP (i + 1) (by omega))
    rw [fm_X10_goes_b41, if_neg (nI_nlt (by omega) (by omega))]
    simp only [gR_0_2, gR_0_0, gR_1_0, Option.bind_some, ob2_some, if_true, if_false, reduceIte, his_37, a3, gI_37_9, gI_2_9, e9, h9', z]
    rw [nI_1, b4, show n + 1 - (j + 1) = n - j by omega]
theorem goes_r {s : Nat → Int32} {N K : Nat} {b : Int32} (hw : dayOk s 9999) (hN : N ≤ 60) (hK : K ≤ N) (hP : ∀ k, k < K → goP s k) : ∀ (j i n : Nat), i + j = K → j < n → ∀ m : xM2, m.1 90 = dayN s i → ∃ m', scD m m' ∧ m'.1 90 = dayN s K ∧ fm_X11_goes_b37 n 89 (nI N) b (goneS s) (nI i) (mk m) = fm_X11_goes_b37 (n - j) 89 (nI N) b (goneS s) (nI K) (mk m') := by
  intro j
  induction j with
  | zero =>
    intro i n hi hn m hm
    have : i = K := by omega
    subst this
    exact ⟨m, scD.rf, hm, rfl⟩
  | succ j ih =>
    intro i n hi hn m hm
    obtain ⟨n, rfl⟩ : ∃ n', n = n' + 1 := ⟨n - 1, by omega⟩
    have hd := dayN_ok hw i
    obtain ⟨m1, a1, a2, a3⟩ := day_ok (m := m) (by rw [hm]; exact hd.1) (by rw [hm]; exact hd.2.1)
    obtain ⟨m2, b1, b2, b3⟩ := ih (i + 1) n (by omega) (by omega) m1 (by rw [a2, hm]; rfl)
    refine ⟨m2, a1.tr b1, b2, ?_⟩
    have z : goneS (dayN s i) = goneS s := hP i (by omega)
    rw [fm_X11_goes_b37, if_neg (nI_ge (by omega) (by omega)), if_pos (his_89 m), gone_ok, Option.bind_some, hm, if_pos z, a3, Option.bind_some, nI_1, b3, show n + 1 - (j + 1) = n - j by omega]
theorem goP_0 (s : Nat → Int32) : goP s 0 := rfl
theorem goes_cut (s : Nat → Int32) (N : Nat) : (∀ k, k ≤ N → goP s k) ∨ ∃ K, K < N ∧ (∀ k, k ≤ K → goP s k) ∧ ¬ goP s (K + 1) := by
  induction N with
  | zero => exact Or.inl fun k hk => by rw [show k = 0 by omega]; exact goP_0 s
  | succ N ih =>
    rcases ih with h | ⟨K, h1, h2, h3⟩
    · by_cases e : goP s (N + 1)
      · exact Or.inl fun k hk => by
          rcases Nat.lt_or_ge k (N + 1) with q | q
          · exact h k (by omega)
          · rw [show k = N + 1 by omega]; exact e
      · exact Or.inr ⟨N, by omega, h, e⟩
    · exact Or.inr ⟨K, by omega, h2, h3⟩
theorem quayR.g9 {m : xM2} {s : Nat → Int32} (h : quayR m 1 s) : m.2 2 9 = goneS s := h.1.2.2.2.2.2.2.1
theorem p_goes {m : xM2} (h : Rel m) (a b : Int32) : pr m (fm_X10_goes 0 a b) (fm_X11_goes 89 a b) := by
  rcases inC a (lo := 1) (hi := 60) 1 60 with ⟨N, n1, n2, rfl, ea⟩ | ea
  · rcases inC b (lo := 0) (hi := 1) 0 1 with ⟨w, -, hw', rfl, eb⟩ | eb
    · obtain ⟨hq, hw, -⟩ := id h
      obtain ⟨m1, a1, a2, a3⟩ := become_ok no37 no2 (by decide) hq.1
      have g9 : m1.2 2 9 = goneS (m.1 90) := by rw [(a1 2 (by decide)).2]; exact hq.g9
      rcases goes_cut (m.1 90) N with hP | ⟨K, k1, k2, k3⟩
      · obtain ⟨m2, b1, b2, b3, b4⟩ := goes_c (b := nI w) hw.d n2 (Nat.le_refl N) hP N 0 5000 (by omega) (by omega) m1 a2 g9
        have s2 : scN 37 m m2 := a1.tr b1
        have r2 : Rel m2 := h.step s2.C kpR.rf (hq.far s2 (by decide)) s2.s hw
        refine r2.errs (k := 2) (by decide) (by decide) ?_ fun m' e => ?_
        · rw [show (-1000000000 - nI 2 : Int32) = -1000000002 by decide]
          have c : fm_X10_goes_b41 (5000 - N) 0 (nI N) (nI w) (nI (N + 1)) (mk m2) = fm_X10_refuse 0 (-1000000002) (mk m2) := by
            rw [show 5000 - N = (4999 - N) + 1 by omega, fm_X10_goes_b41, if_pos (nI_lt (by omega) (by omega)), if_pos (his_0 m2), ob2_eta]
          have b4' : fm_X10_goes_b41 5000 0 (nI N) (nI w) 1 (mk m1) = _ := b4.trans c
          simp only [fm_X10_goes, below2, below3, below4, below5, below6, below7, below20, below31, below70, within_in, fm_X11_isKnot, fm_X11_isThread, fm_X11_isHand, fm_X11_isSheet, his_0, his_89, Option.bind_some, ob2_some, if_true, if_false, reduceIte, ob2_eta, one_ne, ea, eb, gR_0_0, gR_0_2, gR_1_0, his_37, a3, b4']
        · have e90 : m'.1 90 = m.1 90 := e.at.trans s2.s
          obtain ⟨m3, d1, d2, d3⟩ := goes_r (b := nI w) hw.d n2 (Nat.le_refl N) (fun k hk => hP k (by omega)) N 0 5000 (by omega) (by omega) (sA m' 92 (cpy (m.1 90) (m'.1 92) 181)) (by rw [sA_n (by decide)]; exact e90)
          have z : goneS (dayN (m.1 90) N) &&& (goneS (m.1 90) ^^^ (-1)) = 0 := (gone_more fun t ht h => dayN_gn h ht N).mpr (hP N (Nat.le_refl N))
          have r92 : m3.1 92 = cpy (m.1 90) (m'.1 92) 181 := by rw [d1.2 92 (by decide) (by decide) (by decide), sA_s]
          have bk : cpy (m3.1 92) (dayN (m.1 90) N) 181 = m.1 90 := by rw [r92]; exact back_eq fun j hj => dayN_at (by omega) _
          refine ⟨sA m3 90 (m.1 90), ((kpR.A (a := 92)).tr d1.R).tr kpR.A, by rw [sA_s, e90], ?_⟩
          have c : fm_X11_goes_b37 (5000 - N) 89 (nI N) (nI w) (goneS (m.1 90)) (nI N) (mk m3) = fm_X11_error 89 2 (mk (sA m3 90 (m.1 90))) := by
            rw [show 5000 - N = (4999 - N) + 1 by omega, fm_X11_goes_b37, if_pos (Int32.le_refl _)]
            simp only [fm_X11_goes_b61, below2, below3, below4, below5, below6, below7, below20, below31, below70, within_in, fm_X11_isKnot, fm_X11_isThread, fm_X11_isHand, fm_X11_isSheet, his_0, his_89, Option.bind_some, ob2_some, if_true, if_false, reduceIte, ob2_eta, one_ne, gone_ok, d2, layBack_ok, bk, z]
          have d3' : fm_X11_goes_b37 5000 89 (nI N) (nI w) (goneS (m.1 90)) 0 (mk (sA m' 92 (cpy (m.1 90) (m'.1 92) 181))) = _ := d3.trans c
          simp only [fm_X11_goes, below2, below3, below4, below5, below6, below7, below20, below31, below70, within_in, fm_X11_isKnot, fm_X11_isThread, fm_X11_isHand, fm_X11_isSheet, his_0, his_89, Option.bind_some, ob2_some, if_true, if_false, reduceIte, ob2_eta, one_ne, ea, eb, gone_ok, layDown_ok, e90, d3']
          rfl
      · obtain ⟨m2, b1, b2, b3, b4⟩ := goes_c (b := nI w) hw.d n2 (K := K) (by omega) k2 K 0 5000 (by omega) (by omega) m1 a2 g9
        obtain ⟨m3, c1, c2, c3⟩ := pass_ok no37 b2 (dayN_ok hw.d K) (by omega)
        have s3 : scN 37 m m3 := (a1.tr b1).tr c1
        have g9' : m3.2 2 9 = goneS (m.1 90) := by rw [(s3 2 (by decide)).2]; exact hq.g9
        have e9 : m3.2 37 9 = goneS (dayN (m.1 90) (K + 1)) := c2.2.2.2.2.2.2.1
        have nz : ¬ goneS (dayN (m.1 90) (K + 1)) &&& (goneS (m.1 90) ^^^ (-1)) = 0 := fun q => k3 ((gone_more fun t ht h => dayN_gn h ht (K + 1)).mp q)
        obtain ⟨t, t1, t2, t3⟩ := bit_first nz
        have t31 : t < 31 := by
          have : bt (goneS (dayN (m.1 90) (K + 1))) t = true := by
            rw [b_and] at t2
            exact (Bool.and_eq_true _ _ ▸ t2 : _ ∧ _).1
          rcases Nat.lt_or_ge t 31 with q | q
          · exact q
          · have lo31 : lo 31 (goneS (dayN (m.1 90) (K + 1))) := lo_enc (by decide)
            rw [lo31 t t1 q] at this
            cases this
        have e90 : m3.1 90 = m.1 90 := s3.s
        obtain ⟨m4, d1, d2, d3⟩ := goes_r (b := nI w) hw.d n2 (K := K + 1) (by omega) (fun k hk => k2 k (by omega)) (K + 1) 0 5000 (by omega) (by omega) (sA m3 92 (cpy (m.1 90) (m3.1 92) 181)) (by rw [sA_n (by decide)]; exact e90)
        have r92 : m4.1 92 = cpy (m.1 90) (m3.1 92) 181 := by rw [d1.2 92 (by decide) (by decide) (by decide), sA_s]
        have bk : cpy (m4.1 92) (dayN (m.1 90) (K + 1)) 181 = m.1 90 := by rw [r92]; exact back_eq fun j hj => dayN_at (by omega) _
        refine h.see (v := if nI w = 0 then nI t else nI (K + 1)) (m1 := m3) (m2 := sA m4 90 (m.1 90)) ?_ ?_ s3.C (hq.far s3 (by decide)) (((kpR.A (a := 92)).tr d1.R).tr kpR.A) (by rw [sA_s, e90])
        · have c : fm_X10_goes_b41 (5000 - K) 0 (nI N) (nI w) (nI (K + 1)) (mk m2) = some (if nI w = 0 then nI t else nI (K + 1), mk m3) := by
            rw [show 5000 - K = (4999 - K) + 1 by omega, fm_X10_goes_b41, if_neg (nI_nlt (by omega) (by omega))]
            simp only [gR_0_2, gR_0_0, gR_1_0, Option.bind_some, ob2_some, if_true, if_false, reduceIte, his_37, c3, gI_37_9, gI_2_9, e9, g9', nz, firstOf_ok t31 t2 t3]
            split <;> rfl
          have b4' : fm_X10_goes_b41 5000 0 (nI N) (nI w) 1 (mk m1) = _ := b4.trans c
          simp only [fm_X10_goes, below2, below3, below4, below5, below6, below7, below20, below31, below70, within_in, fm_X11_isKnot, fm_X11_isThread, fm_X11_isHand, fm_X11_isSheet, his_0, his_89, Option.bind_some, ob2_some, if_true, if_false, reduceIte, ob2_eta, one_ne, ea, eb, gR_0_0, gR_0_2, gR_1_0, his_37, a3, b4']
        · have c : fm_X11_goes_b37 (5000 - (K + 1)) 89 (nI N) (nI w) (goneS (m.1 90)) (nI (K + 1)) (mk m4) = some (if nI w = 0 then nI t else nI (K + 1), mk (sA m4 90 (m.1 90))) := by
            have fin : fm_X11_goes_b61 89 (nI w) (goneS (m.1 90)) (nI (K + 1)) (mk m4) = some (if nI w = 0 then nI t else nI (K + 1), mk (sA m4 90 (m.1 90))) := by
              simp only [fm_X11_goes_b61, below2, below3, below4, below5, below6, below7, below20, below31, below70, within_in, fm_X11_isKnot, fm_X11_isThread, fm_X11_isHand, fm_X11_isSheet, his_0, his_89, Option.bind_some, ob2_some, if_true, if_false, reduceIte, ob2_eta, one_ne, gone_ok, d2, layBack_ok, bk, nz, least_ok t31 t2 t3]
              split <;> rfl
            rw [show 5000 - (K + 1) = (4998 - K) + 1 by omega, fm_X11_goes_b37]
            split
            · exact fin
            · rw [if_pos (his_89 m4), gone_ok, Option.bind_some, d2, if_neg (show ¬ goneS (dayN (m.1 90) (K + 1)) = goneS (m.1 90) from k3)]
              exact fin
          have d3' : fm_X11_goes_b37 5000 89 (nI N) (nI w) (goneS (m.1 90)) 0 (mk (sA m3 92 (cpy (m.1 90) (m3.1 92) 181))) = _ := d3.trans c
          simp only [fm_X11_goes, below2, below3, below4, below5, below6, below7, below20, below31, below70, within_in, fm_X11_isKnot, fm_X11_isThread, fm_X11_isHand, fm_X11_isSheet, his_0, his_89, Option.bind_some, ob2_some, if_true, if_false, reduceIte, ob2_eta, one_ne, ea, eb, gone_ok, layDown_ok, e90, d3']
    · refine h.e1 ?_ fun m' e => ?_ <;> simp only [fm_X10_goes, fm_X11_goes, fm_X10_goes_b18, fm_X11_goes_b19, below2, below3, below4, below5, below6, below7, below20, below31, below70, within_in, fm_X11_isKnot, fm_X11_isThread, fm_X11_isHand, fm_X11_isSheet, his_0, his_89, Option.bind_some, ob2_some, if_true, if_false, reduceIte, ob2_eta, one_ne, ea, eb]
  · refine h.e1 ?_ fun m' e => ?_ <;> simp only [fm_X10_goes, fm_X11_goes, fm_X10_goes_b18, fm_X11_goes_b19, below2, below3, below4, below5, below6, below7, below20, below31, below70, within_in, fm_X11_isKnot, fm_X11_isThread, fm_X11_isHand, fm_X11_isSheet, his_0, his_89, Option.bind_some, ob2_some, if_true, if_false, reduceIte, ob2_eta, one_ne, ea]
