/-! CALLS: CHECK, WHAT SWIMS OUT, UNTELL, SHEETS READ -/
def chkQ (s : Nat → Int32) (k : Nat) : Prop := s (491 + k) = nI (cnt (gn (dayN s (k + 1))) 31)
theorem chk_c {s : Nat → Int32} {W K : Nat} (hw : dayOk s 9999) (hW : W ≤ 24) (hK : K ≤ W) (hP : ∀ k, k < K → chkQ s k) : ∀ (j i n : Nat), i + j = K → j < n → ∀ m : xM2, netR m 37 (dayN s i) → (∀ k, k < 24 → m.1 18 k = s (491 + k)) → ∃ m', scN 37 m m' ∧ netR m' 37 (dayN s K) ∧ (∀ k, k < 24 → m'.1 18 k = s (491 + k)) ∧ fm_X10_check_b32 n 0 (nI W) (nI i) (mk m) = fm_X10_check_b32 (n - j) 0 (nI W) (nI K) (mk m') := by
  intro j
  induction j with
  | zero =>
    intro i n hi hn m hm h9
    have : i = K := by omega
    subst this
    exact ⟨m, scN.rf, hm, h9, rfl⟩
  | succ j ih =>
    intro i n hi hn m hm h9
    obtain ⟨n, rfl⟩ : ∃ n', n = n' + 1 := ⟨n - 1, by omega⟩
    obtain ⟨m1, a1, a2, a3⟩ := pass_ok no37 hm (dayN_ok hw i) (by omega)
    have e18 : m1.1 18 = m.1 18 := (a1 18 (by decide)).1
    obtain ⟨m2, b1, b2, b3, b4⟩ := ih (i + 1) n (by omega) (by omega) m1 a2 (by rw [e18]; exact h9)
    refine ⟨m2, a1.tr b1, b2, b3, ?_⟩
    have v : m1.1 18 i = nI (cnt (gn (dayN s (i + 1))) 31) := by rw [e18, h9 i (by omega)]; exact hP i (by omega)
    have mt := missT_ok no37 a2
    rw [fm_X10_check_b32, if_neg (nI_ge (by omega) (by omega))]
    simp only [gR_0_2, gR_0_0, gR_1_3, Option.bind_some, ob2_some, if_true, if_false, reduceIte, his_37, a3, al_18 _ (show i < 24 by omega), v]
    rw [show dayS (dayN s i) = dayN s (i + 1) from rfl] at mt
    simp only [mt, Option.bind_some, ob2_some, if_true, if_false, reduceIte, nI_1]
    rw [b4, show n + 1 - (j + 1) = n - j by omega]
theorem chk_r {s : Nat → Int32} {W K : Nat} (hw : dayOk s 9999) (hW : W ≤ 24) (hK : K ≤ W) (hP : ∀ k, k < K → chkQ s k) : ∀ (j i n : Nat), i + j = K → j < n → ∀ m : xM2, m.1 90 = dayN s i → ∃ m', scD m m' ∧ m'.1 90 = dayN s K ∧ fm_X11_check_b22 n 89 (nI W) (nI i) 1 (mk m) = fm_X11_check_b22 (n - j) 89 (nI W) (nI K) 1 (mk m') := by
  intro j
  induction j with
  | zero =>
    intro i n hi hn m hm
    have : i = K := by omega
    subst this
    exact ⟨m, scD.rf, hm, rfl⟩
  | succ j ih =>
    intro i n hi hn m hm
    obtain ⟨n, rfl⟩ : ∃ n', n = n' + 1 := ⟨n - 1, by omega⟩
    have hd := dayN_ok hw i
    obtain ⟨m1, a1, a2, a3⟩ := day_ok (m := m) (by rw [hm]; exact hd.1) (by rw [hm]; exact hd.2.1)
    have a2' : m1.1 90 = dayN s (i + 1) := by rw [a2, hm]; rfl
    obtain ⟨m2, b1, b2, b3⟩ := ih (i + 1) n (by omega) (by omega) m1 a2'
    refine ⟨m2, a1.tr b1, b2, ?_⟩
    have v : dayN s (i + 1) (491 + i) = nI (cnt (gn (dayN s (i + 1))) 31) := by rw [dayN_at (by omega)]; exact hP i (by omega)
    rw [fm_X11_check_b22, if_neg (nI_ge (by omega) (by omega)), if_neg (by decide), if_pos (his_89 m), a3]
    simp only [Option.bind_some, ob2_some, if_true, if_false, reduceIte, gR_89_0, show (491 : Int32) + nI i = nI (491 + i) from nI_add 491 i, al_90 _ (show 491 + i < 515 by omega), a2', v, his_89, missing_ok, one_ne, nI_1]
    rw [b3, show n + 1 - (j + 1) = n - j by omega]
theorem chk_cut (s : Nat → Int32) (W : Nat) : (∀ k, k < W → chkQ s k) ∨ ∃ K, K < W ∧ (∀ k, k < K → chkQ s k) ∧ ¬ chkQ s K := by
  induction W with
  | zero => exact Or.inl fun k hk => absurd hk (by omega)
  | succ W ih =>
    rcases ih with h | ⟨K, h1, h2, h3⟩
    · by_cases e : chkQ s W
      · exact Or.inl fun k hk => by
          rcases Nat.lt_or_ge k W with q | q
          · exact h k q
          · rw [show k = W by omega]; exact e
      · exact Or.inr ⟨W, by omega, h, e⟩
    · exact Or.inr ⟨K, by omega, h2, h3⟩
theorem p_check {m : xM2} (h : Rel m) : pr m (fm_X10_check 0) (fm_X11_check 89) := by
  obtain ⟨hq, hw, -⟩ := id h
  obtain ⟨W, w1, w2⟩ := hw.2.2.2.2.1
  have q1 := hq.fld (k := 5) (j := 3) (x := 0)
  have wf1 : wf (upd (m.1 90) 3 0) := hw.waits (c := 0) (by decide)
  obtain ⟨s1, es⟩ : ∃ s1, s1 = upd (m.1 90) 3 0 := ⟨_, rfl⟩
  rw [← es] at q1 wf1
  have vw : m.2 1 5 = nI W := hq.2.2.2.2.2.1.trans w2
  obtain ⟨m2, a1, a2, a3⟩ := become_ok no37 no2 (by decide) q1.1
  have h18 : ∀ k, k < 24 → m2.1 18 k = s1 (491 + k) := fun k hk => by rw [(a1 18 (by decide)).1]; exact q1.2.2.2.1 k hk
  have al3 : ∀ m : xM2, hp_ald (mk m) 90 3 = some (m.1 90 3) := fun m => al_90 m (i := 3) (by decide)
  have as3 : ∀ (m : xM2) x, hp_ast (mk m) 90 3 x = some (mk (sA m 90 (upd (m.1 90) 3 x))) := fun m x => as_90 m (i := 3) (by decide)
  rcases chk_cut s1 W with hP | ⟨K, k1, k2, k3⟩
  · obtain ⟨m3, b1, b2, b3, b4⟩ := chk_c wf1.d w1 (Nat.le_refl W) hP W 0 5000 (by omega) (by omega) m2 a2 h18
    have s3 : scN 37 (sF m 1 5 0) m3 := a1.tr b1
    have e90 : m3.1 90 = m.1 90 := s3.s
    obtain ⟨m4, d1, d2, d3⟩ := chk_r wf1.d w1 (Nat.le_refl W) hP W 0 5000 (by omega) (by omega) (sA (sA m3 90 s1) 92 (cpy s1 (m3.1 92) 181)) (by rw [sA_n (by decide), sA_s]; rfl)
    have r92 : m4.1 92 = cpy s1 (m3.1 92) 181 := by rw [d1.2 92 (by decide) (by decide) (by decide), sA_s]
    have bk : cpy (m4.1 92) (dayN s1 W) 181 = s1 := by rw [r92]; exact back_eq fun j hj => dayN_at (by omega) _
    refine h.ok (v := 0) (m1 := m3) (m2 := sA m4 90 s1) ?_ ?_ (kpC.tr kpC.F s3.C) (kpR.tr (kpR.tr kpR.A kpR.A) (kpR.tr d1.R kpR.A)) (q1.far s3 (by decide)) sA_s wf1
    · have c : fm_X10_check_b32 (5000 - W) 0 (nI W) (nI W) (mk m3) = some (0, mk m3) := by
        rw [show 5000 - W = (4999 - W) + 1 by omega, fm_X10_check_b32, if_pos (Int32.le_refl _)]
      have b4' : fm_X10_check_b32 5000 0 (nI W) 0 (mk m2) = _ := b4.trans c
      simp only [fm_X10_check, below2, below3, below4, below5, below6, below7, below20, below31, below70, within_in, fm_X11_isKnot, fm_X11_isThread, fm_X11_isHand, fm_X11_isSheet, his_0, his_89, Option.bind_some, ob2_some, if_true, if_false, reduceIte, ob2_eta, one_ne, gR_0_0, gI_1_5, mP_1_5, vw, gR_0_2, gR_1_0, his_37, a3, b4']
    · have c : fm_X11_check_b22 (5000 - W) 89 (nI W) (nI W) 1 (mk m4) = some (0, mk (sA m4 90 s1)) := by
        rw [show 5000 - W = (4999 - W) + 1 by omega, fm_X11_check_b22, if_pos (Int32.le_refl _)]
        simp only [fm_X11_check_b73, below2, below3, below4, below5, below6, below7, below20, below31, below70, within_in, fm_X11_isKnot, fm_X11_isThread, fm_X11_isHand, fm_X11_isSheet, his_0, his_89, Option.bind_some, ob2_some, if_true, if_false, reduceIte, ob2_eta, one_ne, layBack_ok, d2, bk]
      have d3' : fm_X11_check_b22 5000 89 (nI W) 0 1 (mk (sA (sA m3 90 s1) 92 (cpy s1 (m3.1 92) 181))) = _ := d3.trans c
      simp only [fm_X11_check, below2, below3, below4, below5, below6, below7, below20, below31, below70, within_in, fm_X11_isKnot, fm_X11_isThread, fm_X11_isHand, fm_X11_isSheet, his_0, his_89, Option.bind_some, ob2_some, if_true, if_false, reduceIte, ob2_eta, one_ne, gR_89_0, al3, as3, e90, w2, ← es, layDown_ok, sA_s, sA_n (show 92 ≠ 90 by decide), d3']
  · obtain ⟨m3, b1, b2, b3, b4⟩ := chk_c wf1.d w1 (K := K) (by omega) k2 K 0 5000 (by omega) (by omega) m2 a2 h18
    obtain ⟨m5, c1, c2, c3⟩ := pass_ok no37 b2 (dayN_ok wf1.d K) (by omega)
    rw [show dayS (dayN s1 K) = dayN s1 (K + 1) from rfl] at c2
    have mt := missT_ok no37 c2
    have v5 : m5.1 18 K = s1 (491 + K) := by rw [(c1 18 (by decide)).1]; exact b3 K (by omega)
    have s3 : scN 37 (sF m 1 5 0) m5 := (a1.tr b1).tr c1
    have e90 : m5.1 90 = m.1 90 := s3.s
    obtain ⟨m4, d1, d2, d3⟩ := chk_r wf1.d w1 (K := K) (by omega) k2 K 0 5000 (by omega) (by omega) (sA (sA m5 90 s1) 92 (cpy s1 (m5.1 92) 181)) (by rw [sA_n (by decide), sA_s]; rfl)
    have hd := dayN_ok wf1.d K
    obtain ⟨m6, f1, f2, f3⟩ := day_ok (m := m4) (by rw [d2]; exact hd.1) (by rw [d2]; exact hd.2.1)
    have f2' : m6.1 90 = dayN s1 (K + 1) := by rw [f2, d2]; rfl
    have r92 : m6.1 92 = cpy s1 (m5.1 92) 181 := by rw [f1.2 92 (by decide) (by decide) (by decide), d1.2 92 (by decide) (by decide) (by decide), sA_s]
    have bk : cpy (m6.1 92) (dayN s1 (K + 1)) 181 = s1 := by rw [r92]; exact back_eq fun j hj => dayN_at (by omega) _
    have ne : ¬ s1 (491 + K) = nI (cnt (gn (dayN s1 (K + 1))) 31) := k3
    refine h.ok (v := 1 + nI K) (m1 := m5) (m2 := sA m6 90 s1) ?_ ?_ (kpC.tr kpC.F s3.C) (kpR.tr (kpR.tr kpR.A kpR.A) (kpR.tr (kpR.tr d1.R f1.R) kpR.A)) (q1.far s3 (by decide)) sA_s wf1
    · have c : fm_X10_check_b32 (5000 - K) 0 (nI W) (nI K) (mk m3) = some (1 + nI K, mk m5) := by
        rw [show 5000 - K = (4999 - K) + 1 by omega, fm_X10_check_b32, if_neg (nI_ge k1 (by omega))]
        simp only [gR_0_2, gR_0_0, gR_1_3, Option.bind_some, ob2_some, if_true, if_false, reduceIte, his_37, c3, al_18 _ (show K < 24 by omega), v5, mt, ne]
      have b4' : fm_X10_check_b32 5000 0 (nI W) 0 (mk m2) = _ := b4.trans c
      simp only [fm_X10_check, below2, below3, below4, below5, below6, below7, below20, below31, below70, within_in, fm_X11_isKnot, fm_X11_isThread, fm_X11_isHand, fm_X11_isSheet, his_0, his_89, Option.bind_some, ob2_some, if_true, if_false, reduceIte, ob2_eta, one_ne, gR_0_0, gI_1_5, mP_1_5, vw, gR_0_2, gR_1_0, his_37, a3, b4']
    · have v : dayN s1 (K + 1) (491 + K) = s1 (491 + K) := dayN_at (by omega) _
      have c : fm_X11_check_b22 (5000 - K) 89 (nI W) (nI K) 1 (mk m4) = some (1 + nI K, mk (sA m6 90 s1)) := by
        rw [show 5000 - K = ((4998 - K) + 1) + 1 by omega, fm_X11_check_b22, if_neg (nI_ge k1 (by omega)), if_neg (by decide), if_pos (his_89 m4), f3]
        simp only [Option.bind_some, ob2_some, if_true, if_false, reduceIte, gR_89_0, show (491 : Int32) + nI K = nI (491 + K) from nI_add 491 K, al_90 _ (show 491 + K < 515 by omega), f2', v, his_89, missing_ok, ne]
        rw [show nI K + 0 = nI K from nI_add K 0, fm_X11_check_b22, if_neg (nI_ge k1 (by omega)), if_pos rfl]
        simp only [fm_X11_check_b73, below2, below3, below4, below5, below6, below7, below20, below31, below70, within_in, fm_X11_isKnot, fm_X11_isThread, fm_X11_isHand, fm_X11_isSheet, his_0, his_89, Option.bind_some, ob2_some, if_true, if_false, reduceIte, ob2_eta, one_ne, layBack_ok, f2', bk]
      have d3' : fm_X11_check_b22 5000 89 (nI W) 0 1 (mk (sA (sA m5 90 s1) 92 (cpy s1 (m5.1 92) 181))) = _ := d3.trans c
      simp only [fm_X11_check, below2, below3, below4, below5, below6, below7, below20, below31, below70, within_in, fm_X11_isKnot, fm_X11_isThread, fm_X11_isHand, fm_X11_isSheet, his_0, his_89, Option.bind_some, ob2_some, if_true, if_false, reduceIte, ob2_eta, one_ne, gR_89_0, al3, as3, e90, w2, ← es, layDown_ok, sA_s, sA_n (show 92 ≠ 90 by decide), d3']
def pr64 (m : xM2) (f g : qx_H → Option (Int64 × qx_H)) : Prop := ∃ v m1 m2, f (mk m) = some (v, mk m1) ∧ g (mk m1) = some (v, mk m2) ∧ Rel m2
theorem in01 : fm_X11_in 0 0 1 = 1 := by decide
theorem in11 : fm_X11_in 1 0 1 = 1 := by decide
theorem p_swimsOut {m : xM2} (h : Rel m) (a : Int32) : pr64 m (fm_X10_swimsOut 0 a) (fm_X11_swimsOut 89 a) := by
  rcases inC a (lo := 0) (hi := 1) 0 1 with ⟨w, -, hw', rfl, ea⟩ | ea
  · have mt := missT_ok no2 h.1.1
    have mr := missing_ok (m := m)
    have c31 := cnt_le (p := gn (m.1 90)) 31
    generalize cnt (gn (m.1 90)) 31 = c at mt mr c31
    have hw2 : w = 0 ∨ w = 1 := by omega
    have key : ∃ v, fm_X10_swimsOut 0 (nI w) (mk m) = some (v, mk m) ∧ fm_X11_swimsOut 89 (nI w) (mk m) = some (v, mk m) := by
      by_cases e0 : c = 0
      · subst e0
        rcases hw2 with rfl | rfl
        · refine ⟨0, ?_, ?_⟩
          · simp only [fm_X10_swimsOut, below2, below3, below4, below5, below6, below7, below20, below31, below70, within_in, fm_X11_isKnot, fm_X11_isThread, fm_X11_isHand, fm_X11_isSheet, his_0, his_89, Option.bind_some, ob2_some, if_true, if_false, reduceIte, ob2_eta, one_ne, in01, in11, gR_0_0, gR_1_0, his_2, mt, show nI 0 = 0 from rfl, fm_X10_swimsOut_b37, fm_X10_swimsOut_b42]
            rfl
          · simp only [fm_X11_swimsOut, below2, below3, below4, below5, below6, below7, below20, below31, below70, within_in, fm_X11_isKnot, fm_X11_isThread, fm_X11_isHand, fm_X11_isSheet, his_0, his_89, Option.bind_some, ob2_some, if_true, if_false, reduceIte, ob2_eta, one_ne, in01, in11, mr, show nI 0 = 0 from rfl, fm_X11_swimsOut_b31, fm_X11_swimsOut_b38, fm_X11_swimsOut_b51, show ¬ (0 : Int32) = 31 by decide]
            rfl
        · refine ⟨1, ?_, ?_⟩
          · simp only [fm_X10_swimsOut, below2, below3, below4, below5, below6, below7, below20, below31, below70, within_in, fm_X11_isKnot, fm_X11_isThread, fm_X11_isHand, fm_X11_isSheet, his_0, his_89, Option.bind_some, ob2_some, if_true, if_false, reduceIte, ob2_eta, one_ne, in01, in11, gR_0_0, gR_1_0, his_2, mt, show nI 0 = 0 from rfl, show nI 1 = 1 from rfl, fm_X10_swimsOut_b37, fm_X10_swimsOut_b42]
          · simp only [fm_X11_swimsOut, below2, below3, below4, below5, below6, below7, below20, below31, below70, within_in, fm_X11_isKnot, fm_X11_isThread, fm_X11_isHand, fm_X11_isSheet, his_0, his_89, Option.bind_some, ob2_some, if_true, if_false, reduceIte, ob2_eta, one_ne, in01, in11, mr, show nI 0 = 0 from rfl, show nI 1 = 1 from rfl, fm_X11_swimsOut_b31, fm_X11_swimsOut_b38, fm_X11_swimsOut_b51, show ¬ (0 : Int32) = 31 by decide]
      · by_cases e1 : c = 31
        · subst e1
          rcases hw2 with rfl | rfl
          · refine ⟨1, ?_, ?_⟩
            · simp only [fm_X10_swimsOut, below2, below3, below4, below5, below6, below7, below20, below31, below70, within_in, fm_X11_isKnot, fm_X11_isThread, fm_X11_isHand, fm_X11_isSheet, his_0, his_89, Option.bind_some, ob2_some, if_true, if_false, reduceIte, ob2_eta, one_ne, in01, in11, gR_0_0, gR_1_0, his_2, mt, show nI 0 = 0 from rfl, show nI 31 = 31 from rfl, show ¬ (31 : Int32) = 0 by decide]
              rfl
            · simp only [fm_X11_swimsOut, below2, below3, below4, below5, below6, below7, below20, below31, below70, within_in, fm_X11_isKnot, fm_X11_isThread, fm_X11_isHand, fm_X11_isSheet, his_0, his_89, Option.bind_some, ob2_some, if_true, if_false, reduceIte, ob2_eta, one_ne, in01, in11, mr, show nI 0 = 0 from rfl, show nI 31 = 31 from rfl, fm_X11_swimsOut_b31, fm_X11_swimsOut_b38, fm_X11_swimsOut_b51, show ¬ (31 : Int32) = 0 by decide]
          · refine ⟨1, ?_, ?_⟩
            · simp only [fm_X10_swimsOut, below2, below3, below4, below5, below6, below7, below20, below31, below70, within_in, fm_X11_isKnot, fm_X11_isThread, fm_X11_isHand, fm_X11_isSheet, his_0, his_89, Option.bind_some, ob2_some, if_true, if_false, reduceIte, ob2_eta, one_ne, in01, in11, gR_0_0, gR_1_0, his_2, mt, show nI 1 = 1 from rfl, show nI 31 = 31 from rfl, show ¬ (31 : Int32) = 0 by decide]
            · simp only [fm_X11_swimsOut, below2, below3, below4, below5, below6, below7, below20, below31, below70, within_in, fm_X11_isKnot, fm_X11_isThread, fm_X11_isHand, fm_X11_isSheet, his_0, his_89, Option.bind_some, ob2_some, if_true, if_false, reduceIte, ob2_eta, one_ne, in01, in11, mr, show nI 1 = 1 from rfl, show nI 31 = 31 from rfl, fm_X11_swimsOut_b31, fm_X11_swimsOut_b38, fm_X11_swimsOut_b51, show ¬ (31 : Int32) = 0 by decide]
        · have n0 : ¬ nI c = 0 := nI_ne0 (by omega) (by omega)
          have n31 : ¬ nI c = 31 := fun q => e1 ((nI_eq (b := 31) (by omega) (by decide)).mp q)
          rcases hw2 with rfl | rfl
          · refine ⟨Int32.toInt64 (nI c), ?_, ?_⟩
            · simp only [fm_X10_swimsOut, below2, below3, below4, below5, below6, below7, below20, below31, below70, within_in, fm_X11_isKnot, fm_X11_isThread, fm_X11_isHand, fm_X11_isSheet, his_0, his_89, Option.bind_some, ob2_some, if_true, if_false, reduceIte, ob2_eta, one_ne, in01, in11, gR_0_0, gR_1_0, his_2, mt, show nI 0 = 0 from rfl, n0, n31]
            · simp only [fm_X11_swimsOut, below2, below3, below4, below5, below6, below7, below20, below31, below70, within_in, fm_X11_isKnot, fm_X11_isThread, fm_X11_isHand, fm_X11_isSheet, his_0, his_89, Option.bind_some, ob2_some, if_true, if_false, reduceIte, ob2_eta, one_ne, in01, in11, mr, show nI 0 = 0 from rfl, n0, n31, fm_X11_swimsOut_b38, fm_X11_swimsOut_b51]
          · refine ⟨31, ?_, ?_⟩
            · simp only [fm_X10_swimsOut, below2, below3, below4, below5, below6, below7, below20, below31, below70, within_in, fm_X11_isKnot, fm_X11_isThread, fm_X11_isHand, fm_X11_isSheet, his_0, his_89, Option.bind_some, ob2_some, if_true, if_false, reduceIte, ob2_eta, one_ne, in01, in11, gR_0_0, gR_1_0, his_2, mt, show nI 1 = 1 from rfl, n0, n31]
            · simp only [fm_X11_swimsOut, below2, below3, below4, below5, below6, below7, below20, below31, below70, within_in, fm_X11_isKnot, fm_X11_isThread, fm_X11_isHand, fm_X11_isSheet, his_0, his_89, Option.bind_some, ob2_some, if_true, if_false, reduceIte, ob2_eta, one_ne, in01, in11, mr, show nI 1 = 1 from rfl, n0, n31, fm_X11_swimsOut_b38, fm_X11_swimsOut_b51]
    obtain ⟨v, k1, k2⟩ := key
    exact ⟨v, m, m, k1, k2, h⟩
  · obtain ⟨v, m1, m2, k1, k2, k3⟩ := h.e1 (f := fm_X10_refuse 0 (-1000000001)) (g := fm_X11_error 89 1) rfl (fun _ _ => rfl)
    refine ⟨Int32.toInt64 v, m1, m2, ?_, ?_, k3⟩
    · simp only [fm_X10_swimsOut, below2, below3, below4, below5, below6, below7, below20, below31, below70, within_in, fm_X11_isKnot, fm_X11_isThread, fm_X11_isHand, fm_X11_isSheet, his_0, his_89, Option.bind_some, ob2_some, if_true, if_false, reduceIte, ob2_eta, one_ne, ea, k1]
    · simp only [fm_X11_swimsOut, below2, below3, below4, below5, below6, below7, below20, below31, below70, within_in, fm_X11_isKnot, fm_X11_isThread, fm_X11_isHand, fm_X11_isSheet, his_0, his_89, Option.bind_some, ob2_some, if_true, if_false, reduceIte, ob2_eta, one_ne, ea, k2]
