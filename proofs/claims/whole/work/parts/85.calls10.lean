/-! CALLS: SHEET AND MOVE -/
theorem n40 {i : Nat} (h : i < 40) : ¬ (40 : Int32) ≤ nI i := nI_ge (a := i) (b := 40) h (by decide)
theorem begin_l {r : Nat} (hr : r < 4) : ∀ (j i n : Nat), i + j = 40 → j < n → ∀ m : xM2, (∀ k, k < i → m.1 (82 + 2 * r) k = 0) → ∃ m', fm_X7_begin_b12 n (81 + 2 * r) (nI i) (mk m) = some (mk m') ∧ m'.2 = m.2 ∧ (∀ a, a ≠ 82 + 2 * r → m'.1 a = m.1 a) ∧ ∀ k, k < 40 → m'.1 (82 + 2 * r) k = 0 := by
  intro j
  induction j with
  | zero =>
    intro i n hi hn m hm
    obtain ⟨n, rfl⟩ : ∃ x, n = x + 1 := ⟨n - 1, by omega⟩
    have : i = 40 := by omega
    subst this
    exact ⟨m, by rw [fm_X7_begin_b12, if_pos (by decide)], rfl, fun _ _ => rfl, hm⟩
  | succ j ih =>
    intro i n hi hn m hm
    obtain ⟨n, rfl⟩ : ∃ x, n = x + 1 := ⟨n - 1, by omega⟩
    have sw : hp_ast (mk m) (81 + 2 * r + 1) (nI i) 0 = some (mk (sA m (82 + 2 * r) (upd (m.1 (82 + 2 * r)) i 0))) := by
      rw [stS1 (so hr) m (by omega), show 81 + 2 * r + 1 = 82 + 2 * r by omega]
    obtain ⟨m', b1, b2, b3, b4⟩ := ih (i + 1) n (by omega) (by omega) (sA m (82 + 2 * r) (upd (m.1 (82 + 2 * r)) i 0)) (fun k hk => by
      rw [sA_s]
      by_cases e : k = i
      · rw [e, upd_s]
      · rw [upd_n e]; exact hm k (by omega))
    refine ⟨m', ?_, b2, fun a ha => (b3 a ha).trans (sA_n ha), b4⟩
    rw [fm_X7_begin_b12, if_neg (n40 (by omega)), stR0 (so hr), Option.bind_some, sw, Option.bind_some, nI_1]
    exact b1
theorem begin_ok {m : xM2} {r : Nat} {b x : Int32} (hr : r < 4) : ∃ m', fm_X7_begin (81 + 2 * r) b x (mk m) = some (mk m') ∧ (∀ a, a ≠ 81 + 2 * r → m'.2 a = m.2 a) ∧ m'.2 (81 + 2 * r) 1 = b ∧ m'.2 (81 + 2 * r) 2 = x ∧ (∀ a, a ≠ 82 + 2 * r → m'.1 a = m.1 a) ∧ ∀ k, k < 40 → m'.1 (82 + 2 * r) k = 0 := by
  obtain ⟨m', b1, b2, b3, b4⟩ := begin_l hr 40 0 5000 (by omega) (by omega) (sF (sF m (81 + 2 * r) 1 b) (81 + 2 * r) 2 x) (fun k hk => absurd hk (by omega))
  rw [show nI 0 = 0 from rfl] at b1
  refine ⟨m', ?_, fun a ha => by rw [b2, sF_n ha, sF_n ha], by rw [b2, sF_s, upd_n (by decide), sF_s, upd_s], by rw [b2, sF_s, upd_s], fun a ha => b3 a ha, b4⟩
  simp only [fm_X7_begin, stP1 (so hr), stP2 (so hr), Option.bind_some, ob2_some, if_true, if_false, reduceIte, b1]
theorem sheet_l {r : Nat} (hr : r < 4) : ∀ (j i n : Nat), i + j = 40 → j < n → ∀ m : xM2, (∀ k, k < i → m.1 103 (40 * r + k) = 0) → ∃ m', fm_X11_sheet_b90 n 89 (nI r) (nI i) (mk m) = some (1, mk m') ∧ m'.2 = m.2 ∧ (∀ a, a ≠ 103 → m'.1 a = m.1 a) ∧ (∀ k, k < 40 → m'.1 103 (40 * r + k) = 0) ∧ ∀ k, k < 40 * r ∨ 40 * r + 40 ≤ k → m'.1 103 k = m.1 103 k := by
  intro j
  induction j with
  | zero =>
    intro i n hi hn m hm
    obtain ⟨n, rfl⟩ : ∃ x, n = x + 1 := ⟨n - 1, by omega⟩
    have : i = 40 := by omega
    subst this
    exact ⟨m, by rw [fm_X11_sheet_b90, if_pos (by decide)], rfl, fun _ _ => rfl, hm, fun _ _ => rfl⟩
  | succ j ih =>
    intro i n hi hn m hm
    obtain ⟨n, rfl⟩ : ∃ x, n = x + 1 := ⟨n - 1, by omega⟩
    obtain ⟨m', b1, b2, b3, b4, b5⟩ := ih (i + 1) n (by omega) (by omega) (sA m 103 (upd (m.1 103) (40 * r + i) 0)) (fun k hk => by
      rw [sA_s]
      by_cases e : k = i
      · rw [e, upd_s]
      · rw [upd_n (by omega)]; exact hm k (by omega))
    refine ⟨m', ?_, b2, fun a ha => (b3 a ha).trans (sA_n ha), b4, fun k hk => by rw [b5 k hk, sA_s, upd_n (by omega)]⟩
    rw [fm_X11_sheet_b90, if_neg (n40 (by omega)), gR_89_21, Option.bind_some, ix40, as_103 m (show 40 * r + i < 160 by omega), Option.bind_some, nI_1]
    exact b1
theorem p_sheet {m : xM2} (h : Rel m) (a b c : Int32) : pr m (fm_X10_sheet 0 a b c) (fm_X11_sheet 89 a b c) := by
  rcases inC a (lo := 0) (hi := 3) 0 3 with ⟨i, -, hi', rfl, ea⟩ | ea
  · have hi : i < 4 := by omega
    by_cases hb : b = 0 ∨ b = 8 ∨ b = 16 ∨ b = 32
    · have cC : ∀ m : xM2, fm_X10_sheet 0 (nI i) b c (mk m) = fm_X10_sheet_b37 0 (nI i) b c (mk m) := fun m => by
        rcases hb with rfl | rfl | rfl | rfl <;> simp only [fm_X10_sheet, below2, below3, below4, below5, below6, below7, below20, below31, below70, within_in, fm_X11_isKnot, fm_X11_isThread, fm_X11_isHand, fm_X11_isSheet, his_0, his_89, Option.bind_some, ob2_some, if_true, if_false, reduceIte, ob2_eta, one_ne, ea, show ¬ (8 : Int32) = 0 by decide, show ¬ (16 : Int32) = 0 by decide, show ¬ (16 : Int32) = 8 by decide, show ¬ (32 : Int32) = 0 by decide, show ¬ (32 : Int32) = 8 by decide, show ¬ (32 : Int32) = 16 by decide]
      have cR : ∀ m : xM2, fm_X11_sheet 89 (nI i) b c (mk m) = fm_X11_sheet_b35 89 (nI i) b c (mk m) := fun m => by
        rcases hb with rfl | rfl | rfl | rfl <;> simp only [fm_X11_sheet, below2, below3, below4, below5, below6, below7, below20, below31, below70, within_in, fm_X11_isKnot, fm_X11_isThread, fm_X11_isHand, fm_X11_isSheet, his_0, his_89, Option.bind_some, ob2_some, if_true, if_false, reduceIte, ob2_eta, one_ne, ea, show ¬ (8 : Int32) = 0 by decide, show ¬ (16 : Int32) = 0 by decide, show ¬ (16 : Int32) = 8 by decide, show ¬ (32 : Int32) = 0 by decide, show ¬ (32 : Int32) = 8 by decide, show ¬ (32 : Int32) = 16 by decide]
      by_cases g1 : ¬ b = 0 ∧ ¬ 0 ≤ c
      · refine h.e3 ((cC m).trans ?_) fun m' e => (cR m').trans ?_
        · simp only [fm_X10_sheet_b37, g1.1, g1.2, below2, below3, below4, below5, below6, below7, below20, below31, below70, within_in, fm_X11_isKnot, fm_X11_isThread, fm_X11_isHand, fm_X11_isSheet, his_0, his_89, Option.bind_some, ob2_some, if_true, if_false, reduceIte, ob2_eta, one_ne]
        · simp only [fm_X11_sheet_b35, g1.1, g1.2, below2, below3, below4, below5, below6, below7, below20, below31, below70, within_in, fm_X11_isKnot, fm_X11_isThread, fm_X11_isHand, fm_X11_isSheet, his_0, his_89, Option.bind_some, ob2_some, if_true, if_false, reduceIte, ob2_eta, one_ne]
      · by_cases g2 : ¬ b = 0 ∧ ¬ c ≤ 40
        · have g0 : 0 ≤ c := Classical.byContradiction fun q => g1 ⟨g2.1, q⟩
          refine h.e1 ((cC m).trans ?_) fun m' e => (cR m').trans ?_
          · simp only [fm_X10_sheet_b37, fm_X10_sheet_b52, g2.1, g2.2, g0, below2, below3, below4, below5, below6, below7, below20, below31, below70, within_in, fm_X11_isKnot, fm_X11_isThread, fm_X11_isHand, fm_X11_isSheet, his_0, his_89, Option.bind_some, ob2_some, if_true, if_false, reduceIte, ob2_eta, one_ne]
          · simp only [fm_X11_sheet_b35, fm_X11_sheet_b49, g2.1, g2.2, g0, below2, below3, below4, below5, below6, below7, below20, below31, below70, within_in, fm_X11_isKnot, fm_X11_isThread, fm_X11_isHand, fm_X11_isSheet, his_0, his_89, Option.bind_some, ob2_some, if_true, if_false, reduceIte, ob2_eta, one_ne]
        · obtain ⟨-, -, -, -, hsh, -⟩ := id h
          have goC : ∀ m : xM2, fm_X10_sheet_b37 0 (nI i) b c (mk m) = fm_X10_sheet_b69 0 (nI i) b c (mk m) := fun m => by
            by_cases e : b = 0
            · simp only [fm_X10_sheet_b37, fm_X10_sheet_b52, e, below2, below3, below4, below5, below6, below7, below20, below31, below70, within_in, fm_X11_isKnot, fm_X11_isThread, fm_X11_isHand, fm_X11_isSheet, his_0, his_89, Option.bind_some, ob2_some, if_true, if_false, reduceIte, ob2_eta, one_ne]
            · have g0 : 0 ≤ c := Classical.byContradiction fun q => g1 ⟨e, q⟩
              have g4 : c ≤ 40 := Classical.byContradiction fun q => g2 ⟨e, q⟩
              simp only [fm_X10_sheet_b37, fm_X10_sheet_b52, e, g0, g4, below2, below3, below4, below5, below6, below7, below20, below31, below70, within_in, fm_X11_isKnot, fm_X11_isThread, fm_X11_isHand, fm_X11_isSheet, his_0, his_89, Option.bind_some, ob2_some, if_true, if_false, reduceIte, ob2_eta, one_ne]
          have goR : ∀ m : xM2, fm_X11_sheet_b35 89 (nI i) b c (mk m) = fm_X11_sheet_b65 89 (nI i) b c (mk m) := fun m => by
            by_cases e : b = 0
            · simp only [fm_X11_sheet_b35, fm_X11_sheet_b49, e, below2, below3, below4, below5, below6, below7, below20, below31, below70, within_in, fm_X11_isKnot, fm_X11_isThread, fm_X11_isHand, fm_X11_isSheet, his_0, his_89, Option.bind_some, ob2_some, if_true, if_false, reduceIte, ob2_eta, one_ne]
            · have g0 : 0 ≤ c := Classical.byContradiction fun q => g1 ⟨e, q⟩
              have g4 : c ≤ 40 := Classical.byContradiction fun q => g2 ⟨e, q⟩
              simp only [fm_X11_sheet_b35, fm_X11_sheet_b49, e, g0, g4, below2, below3, below4, below5, below6, below7, below20, below31, below70, within_in, fm_X11_isKnot, fm_X11_isThread, fm_X11_isHand, fm_X11_isSheet, his_0, his_89, Option.bind_some, ob2_some, if_true, if_false, reduceIte, ob2_eta, one_ne]
          obtain ⟨x, ex⟩ : ∃ x, x = (if b = 0 then 0 else c) := ⟨_, rfl⟩
          have hx : ∃ n, n ≤ 40 ∧ x = nI n := by
            by_cases e : b = 0
            · exact ⟨0, by decide, by rw [ex, if_pos e]; rfl⟩
            · have g0 : 0 ≤ c := Classical.byContradiction fun q => g1 ⟨e, q⟩
              have g4 : c ≤ 40 := Classical.byContradiction fun q => g2 ⟨e, q⟩
              obtain ⟨n, q1, q2⟩ := rng (n := 40) (by decide) ⟨g0, g4⟩
              exact ⟨n, q1, by rw [ex, if_neg e]; exact q2⟩
          obtain ⟨m1, b1, b2, b3, b4, b5, b6⟩ := begin_ok (m := m) (b := b) (x := x) hi
          obtain ⟨m2, d1, d2, d3, d4, d5⟩ := sheet_l hi 40 0 5000 (by omega) (by omega) (sA (sA m1 101 (upd (m1.1 101) i b)) 102 (upd (m1.1 102) i x)) (fun k hk => absurd hk (by omega))
          rw [show nI 0 = 0 from rfl] at d1
          have e101 : m2.1 101 = upd (m.1 101) i b := by rw [d3 101 (by decide), sA_n (by decide), sA_s, b5 101 (by omega)]
          have e102 : m2.1 102 = upd (m.1 102) i x := by rw [d3 102 (by decide), sA_s, b5 102 (by omega)]
          have e81 : ∀ a, a < 89 → m2.1 a = m1.1 a := fun a ha => by rw [d3 a (by omega), sA_n (by omega), sA_n (by omega)]
          refine h.sheets (v := 1) (m1 := m1) (m2 := m2) ((cC m).trans ((goC m).trans ?_)) ((cR m1).trans ((goR m1).trans ?_)) (fun a ha => ⟨b5 a (by omega), b2 a (by omega)⟩) ⟨fun a ha => ⟨e81 a ha, by rw [d2]; rfl⟩, by rw [d2]; rfl, fun a x1 x2 x3 _ => by rw [d3 a x3, sA_n x2, sA_n x1]⟩ fun r hr => ?_
          · simp only [fm_X10_sheet_b69, gR_0_8, below2, below3, below4, below5, below6, below7, below20, below31, below70, within_in, fm_X11_isKnot, fm_X11_isThread, fm_X11_isHand, fm_X11_isSheet, his_0, his_89, Option.bind_some, ob2_some, if_true, if_false, reduceIte, ob2_eta, one_ne, ra79 hi, stH (so hi), ← ex, b1]
          · unfold fm_X11_sheet_b65
            rw [gR_89_19, Option.bind_some, as_101 _ hi, Option.bind_some, gR_89_20, Option.bind_some, ← ex, as_102 _ hi, Option.bind_some, sA_n (show 102 ≠ 101 by decide)]
            exact d1
          · obtain ⟨t1, t2, t3, t4, t5, t6⟩ := hsh r hr
            by_cases er : r = i
            · subst er
              refine ⟨?_, ?_, ?_, ?_, fun q => ?_, fun j hj => ?_⟩
              · rw [d2, e101, upd_s]; exact b3
              · rw [d2, e102, upd_s]; exact b4
              · rw [e101, upd_s]; exact hb
              · rw [e102, upd_s]; exact hx
              · rw [e101, upd_s] at q
                rw [e102, upd_s, ex, if_pos q]
              · rw [e81 _ (by omega), b6 j hj, d4 j hj]
                exact Or.inl rfl
            · refine ⟨?_, ?_, ?_, ?_, fun q => ?_, fun j hj => ?_⟩
              · rw [d2, e101, upd_n er]
                show m1.2 (81 + 2 * r) 1 = _
                rw [b2 _ (by omega)]; exact t1
              · rw [d2, e102, upd_n er]
                show m1.2 (81 + 2 * r) 2 = _
                rw [b2 _ (by omega)]; exact t2
              · rw [e101, upd_n er]; exact t3
              · rw [e102, upd_n er]; exact t4
              · rw [e101, upd_n er] at q
                rw [e102, upd_n er]; exact t5 q
              · rw [e81 _ (by omega), b5 _ (by omega), d5 _ (by omega), sA_n (by decide), sA_n (by decide), b5 103 (by omega)]
                exact t6 j hj
    · have q0 : ¬ b = 0 := fun q => hb (Or.inl q)
      have q8 : ¬ b = 8 := fun q => hb (Or.inr (Or.inl q))
      have q16 : ¬ b = 16 := fun q => hb (Or.inr (Or.inr (Or.inl q)))
      have q32 : ¬ b = 32 := fun q => hb (Or.inr (Or.inr (Or.inr q)))
      refine h.e1 ?_ fun m' e => ?_ <;> simp only [fm_X10_sheet, fm_X11_sheet, fm_X10_sheet_b30, fm_X11_sheet_b29, below2, below3, below4, below5, below6, below7, below20, below31, below70, within_in, fm_X11_isKnot, fm_X11_isThread, fm_X11_isHand, fm_X11_isSheet, his_0, his_89, Option.bind_some, ob2_some, if_true, if_false, reduceIte, ob2_eta, one_ne, ea, q0, q8, q16, q32]
  · refine h.e1 ?_ fun m' e => ?_ <;> simp only [fm_X10_sheet, fm_X11_sheet, fm_X10_sheet_b30, fm_X11_sheet_b29, below2, below3, below4, below5, below6, below7, below20, below31, below70, within_in, fm_X11_isKnot, fm_X11_isThread, fm_X11_isHand, fm_X11_isSheet, his_0, his_89, Option.bind_some, ob2_some, if_true, if_false, reduceIte, ob2_eta, one_ne, ea]
theorem subI {a b : Nat} (ha : a ≤ 40) (hb : b < 2 ^ 31) : (nI a - nI b).toInt = (a : Int) - b := by
  rw [Int32.toInt_sub, nI_toInt (by omega), nI_toInt hb]
  simp only [Int.bmod]
  omega
theorem subLt {N k i : Nat} (hN : N ≤ 40) (hk : k < 2 ^ 31) (hi : i < 2 ^ 31) : (nI N - nI k < nI i) ↔ N < i + k := by
  rw [Int32.lt_iff_toInt_lt, subI hN hk, nI_toInt hi]
  omega
theorem subLe {N k i : Nat} (hN : N ≤ 40) (hk : k < 2 ^ 31) (hi : i < 2 ^ 31) : (nI i ≤ nI N - nI k) ↔ i + k ≤ N := by
  rw [Int32.le_iff_toInt_le, subI hN hk, nI_toInt hi]
  omega
def fits (N : Nat) (a n : Int32) : Prop := ∃ i k, a = nI i ∧ n = nI k ∧ i + k ≤ N
theorem stretch_ok {m : xM2} {r N : Nat} {a n : Int32} (hr : r < 4) (hN : N ≤ 40) (hz : m.2 (81 + 2 * r) 2 = nI N) (h : fits N a n) : fm_X7_hasStretch (81 + 2 * r) a n (mk m) = some 1 := by
  obtain ⟨i, k, rfl, rfl, h⟩ := h
  unfold fm_X7_hasStretch
  rw [if_neg (nI_pos (by omega)), if_neg (nI_pos (by omega)), stI2 (so hr), Option.bind_some, hz, if_neg (nI_nlt (by omega) (by omega)), Option.bind_some, pk_sub (by omega), if_neg (nI_nlt (by omega) (by omega))]
theorem stretch_no {m : xM2} {r N : Nat} {a n : Int32} (hr : r < 4) (hN : N ≤ 40) (hz : m.2 (81 + 2 * r) 2 = nI N) (h : ¬ fits N a n) : fm_X7_hasStretch (81 + 2 * r) a n (mk m) = some 0 := by
  unfold fm_X7_hasStretch
  by_cases ha : a < 0
  · rw [if_pos ha]
  · by_cases hn : n < 0
    · rw [if_neg ha, if_pos hn]
    · obtain ⟨i, i1, rfl⟩ := nI_of ha
      obtain ⟨k, k1, rfl⟩ := nI_of hn
      rw [if_neg ha, if_neg hn, stI2 (so hr), Option.bind_some, hz]
      by_cases q : N < k
      · rw [if_pos (nI_lt q k1)]
      · rw [if_neg (nI_nlt (by omega) (by omega)), Option.bind_some, if_pos]
        exact (subLt hN k1 i1).mpr (Nat.lt_of_not_le fun x => h ⟨i, k, rfl, rfl, x⟩)
theorem cpG {m : xM2} {a b na nb i j n : Nat} (ha : isRow a na) (hb : isRow b nb) (h1 : i + n ≤ na) (h2 : j + n ≤ nb) (h3 : na < 1000) (h4 : nb < 1000) : hp_cpy (mk m) a (nI i) b (nI j) (nI n) = some (mk (sA m b (va_cpy (m.1 a) (m.1 b) i j n))) := by
  unfold hp_cpy
  rw [ha.1, hb.1]
  dsimp only
  rw [nI_clamp (by omega), nI_clamp (by omega), nI_clamp (by omega), if_neg, hb.2]
  rintro (q | q | q | q | q)
  · exact nI_pos (by omega) q
  · exact nI_pos (by omega) q
  · exact nI_pos (by omega) q
  · omega
  · omega
theorem stRow {r : Nat} (hr : r < 4) : isRow (82 + 2 * r) 40 := by
  rcases r with _ | _ | _ | _ | r <;> first | exact ⟨fun _ => rfl, fun _ _ => rfl⟩ | omega
theorem move1 {r i q j N : Nat} (hr : r < 4) (hN : i + N ≤ 40) : ∀ (d k n : Nat), k + d = N → d < n → ∀ m : xM2, (∀ x, x < k → m.1 104 x = m.1 103 (40 * r + i + x)) → ∃ m', fm_X11_move_b115 n 89 (nI r) (nI i) (nI q) (nI j) (nI N) (nI k) (mk m) = fm_X11_move_b152 5000 89 (nI q) (nI j) (nI N) 0 (mk m') ∧ m'.2 = m.2 ∧ (∀ a, a ≠ 104 → m'.1 a = m.1 a) ∧ ∀ x, x < N → m'.1 104 x = m.1 103 (40 * r + i + x) := by
  intro d
  induction d with
  | zero =>
    intro k n hk hn m hm
    obtain ⟨n, rfl⟩ : ∃ x, n = x + 1 := ⟨n - 1, by omega⟩
    have : k = N := by omega
    subst this
    exact ⟨m, by rw [fm_X11_move_b115, if_pos (Int32.le_refl _)], rfl, fun _ _ => rfl, hm⟩
  | succ d ih =>
    intro k n hk hn m hm
    obtain ⟨n, rfl⟩ : ∃ x, n = x + 1 := ⟨n - 1, by omega⟩
    obtain ⟨m', b1, b2, b3, b4⟩ := ih (k + 1) n (by omega) (by omega) (sA m 104 (upd (m.1 104) k (m.1 103 (40 * r + i + k)))) (fun x hx => by
      rw [sA_s, sA_n (by decide)]
      by_cases e : x = k
      · rw [e, upd_s]
      · rw [upd_n e]; exact hm x (by omega))
    refine ⟨m', ?_, b2, fun a ha => (b3 a ha).trans (sA_n ha), fun x hx => by rw [b4 x hx, sA_n (by decide)]⟩
    rw [fm_X11_move_b115, if_neg (nI_ge (by omega) (by omega)), gR_89_22, Option.bind_some, gR_89_21, Option.bind_some, ix40, nI_add, al_103 m (show 40 * r + i + k < 160 by omega), Option.bind_some, as_104 m (show k < 40 by omega), Option.bind_some, nI_1]
    exact b1
def mvF (f A : Nat → Int32) (base k : Nat) : Nat → Int32 := fun x => if base ≤ x ∧ x < base + k then A (x - base) else f x
theorem mvF_s {f A : Nat → Int32} {base k : Nat} : upd (mvF f A base k) (base + k) (A k) = mvF f A base (k + 1) := by
  funext x
  by_cases e : x = base + k
  · rw [e, upd_s, mvF, if_pos (by omega), show base + k - base = k by omega]
  · rw [upd_n e, mvF, mvF]
    by_cases q : base ≤ x ∧ x < base + k
    · rw [if_pos q, if_pos (by omega)]
    · rw [if_neg q, if_neg (by omega)]
theorem move2 {q j N : Nat} {f : Nat → Int32} (hq : q < 4) (hN : j + N ≤ 40) : ∀ (d k n : Nat), k + d = N → d < n → ∀ m : xM2, m.1 103 = mvF f (m.1 104) (40 * q + j) k → ∃ m', fm_X11_move_b152 n 89 (nI q) (nI j) (nI N) (nI k) (mk m) = some (nI N, mk m') ∧ m'.2 = m.2 ∧ (∀ a, a ≠ 103 → m'.1 a = m.1 a) ∧ m'.1 103 = mvF f (m.1 104) (40 * q + j) N := by
  intro d
  induction d with
  | zero =>
    intro k n hk hn m hm
    obtain ⟨n, rfl⟩ : ∃ x, n = x + 1 := ⟨n - 1, by omega⟩
    have : k = N := by omega
    subst this
    exact ⟨m, by rw [fm_X11_move_b152, if_pos (Int32.le_refl _)], rfl, fun _ _ => rfl, hm⟩
  | succ d ih =>
    intro k n hk hn m hm
    obtain ⟨n, rfl⟩ : ∃ x, n = x + 1 := ⟨n - 1, by omega⟩
    obtain ⟨m', b1, b2, b3, b4⟩ := ih (k + 1) n (by omega) (by omega) (sA m 103 (upd (m.1 103) (40 * q + j + k) (m.1 104 k))) (by rw [sA_s, sA_n (by decide), hm, mvF_s])
    refine ⟨m', ?_, b2, fun a ha => (b3 a ha).trans (sA_n ha), by rw [b4, sA_n (by decide)]⟩
    rw [fm_X11_move_b152, if_neg (nI_ge (by omega) (by omega)), gR_89_21, Option.bind_some, gR_89_22, Option.bind_some, al_104 m (show k < 40 by omega), Option.bind_some, ix40, nI_add, as_103 m (show 40 * q + j + k < 160 by omega), Option.bind_some, nI_1]
    exact b1
theorem mvF_0 {f A : Nat → Int32} {base : Nat} : mvF f A base 0 = f := by
  funext x
  rw [mvF, if_neg (by omega)]
theorem p_move {m : xM2} (h : Rel m) (a b c d e : Int32) : pr m (fm_X10_move 0 a b c d e) (fm_X11_move 89 a b c d e) := by
  rcases inC a (lo := 0) (hi := 3) 0 3 with ⟨r, -, hr', rfl, ea⟩ | ea
  · rcases inC c (lo := 0) (hi := 3) 0 3 with ⟨q, -, hq', rfl, ec⟩ | ec
    · have hr : r < 4 := by omega
      have hq : q < 4 := by omega
      obtain ⟨-, -, -, -, hsh, -⟩ := id h
      obtain ⟨s1, s2, s3, ⟨N, n1, n2⟩, s5, s6⟩ := hsh r hr
      obtain ⟨t1, t2, t3, ⟨M, m1, m2⟩, t5, t6⟩ := hsh q hq
      by_cases e0 : m.1 101 r = 0
      · refine h.e2 ?_ fun m' e => ?_
        · simp only [fm_X10_move, fm_X10_move_b55, below2, below3, below4, below5, below6, below7, below20, below31, below70, within_in, fm_X11_isKnot, fm_X11_isThread, fm_X11_isHand, fm_X11_isSheet, his_0, his_89, Option.bind_some, ob2_some, if_true, if_false, reduceIte, ob2_eta, one_ne, ea, ec, gR_0_8, ra79 hr, ra79 hq, stH (so hr), fm_X7_isMissing, stI1 (so hr), s1, e0]
        · simp only [fm_X11_move, fm_X11_move_b38, below2, below3, below4, below5, below6, below7, below20, below31, below70, within_in, fm_X11_isKnot, fm_X11_isThread, fm_X11_isHand, fm_X11_isSheet, his_0, his_89, Option.bind_some, ob2_some, if_true, if_false, reduceIte, ob2_eta, one_ne, ea, ec, gR_89_19, al_101 _ hr, e.at (a := 101), e0]
      · by_cases f0 : m.1 101 q = 0
        · refine h.e2 ?_ fun m' e => ?_
          · simp only [fm_X10_move, fm_X10_move_b55, below2, below3, below4, below5, below6, below7, below20, below31, below70, within_in, fm_X11_isKnot, fm_X11_isThread, fm_X11_isHand, fm_X11_isSheet, his_0, his_89, Option.bind_some, ob2_some, if_true, if_false, reduceIte, ob2_eta, one_ne, ea, ec, gR_0_8, ra79 hr, ra79 hq, stH (so hr), stH (so hq), fm_X7_isMissing, stI1 (so hr), stI1 (so hq), s1, t1, e0, f0]
          · simp only [fm_X11_move, fm_X11_move_b38, below2, below3, below4, below5, below6, below7, below20, below31, below70, within_in, fm_X11_isKnot, fm_X11_isThread, fm_X11_isHand, fm_X11_isSheet, his_0, his_89, Option.bind_some, ob2_some, if_true, if_false, reduceIte, ob2_eta, one_ne, ea, ec, gR_89_19, al_101 _ hr, al_101 _ hq, e.at (a := 101), e0, f0]
        · by_cases eb : m.1 101 r = m.1 101 q
          · have pre1 : ∀ m : xM2, m.2 (81 + 2 * r) 1 = m.1 101 r → True := fun _ _ => trivial
            by_cases g1 : fits N b e
            · by_cases g2 : fits M d e
              · obtain ⟨i, n, rfl, rfl, hi⟩ := g1
                obtain ⟨j, n', rfl, hn', hj⟩ := g2
                have hn : n = n' := (nI_eq (by omega) (by omega)).mp hn'
                subst hn
                have cp := cpG (m := m) (stRow hr) (stRow hq) (i := i) (j := j) (n := n) (by omega) (by omega) (by decide) (by decide)
                obtain ⟨x1, c1, c2, c3, c4⟩ := move1 (q := q) (j := j) hr (i := i) (N := n) (by omega) n 0 5000 (by omega) (by omega) (sA m (82 + 2 * q) (va_cpy (m.1 (82 + 2 * r)) (m.1 (82 + 2 * q)) i j n)) (fun x hx => absurd hx (by omega))
                obtain ⟨x2, d1, d2, d3, d4⟩ := move2 (f := x1.1 103) hq (j := j) (N := n) (by omega) n 0 5000 (by omega) (by omega) x1 (by rw [mvF_0])
                rw [show nI 0 = 0 from rfl] at c1 d1
                have y103 : x1.1 103 = m.1 103 := by rw [c3 103 (by decide), sA_n (by omega)]
                have z : ∀ a, a ≠ 103 → a ≠ 104 → a ≠ 82 + 2 * q → x2.1 a = m.1 a := fun a h1 h2 h3 => by rw [d3 a h1, c3 a h2, sA_n h3]
                have z2 : x2.2 = m.2 := by rw [d2, c2]; rfl
                refine h.sheets (v := nI n) (m1 := sA m (82 + 2 * q) (va_cpy (m.1 (82 + 2 * r)) (m.1 (82 + 2 * q)) i j n)) (m2 := x2) ?_ ?_ (fun a ha => same_A (by omega)) ⟨fun a ha => ⟨by rw [d3 a (by omega), c3 a (by omega)], by rw [d2, c2]⟩, by rw [d2, c2], fun a _ _ h3 h4 => by rw [d3 a h3, c3 a h4]⟩ fun p hp => ?_
                · simp only [fm_X10_move, below2, below3, below4, below5, below6, below7, below20, below31, below70, within_in, fm_X11_isKnot, fm_X11_isThread, fm_X11_isHand, fm_X11_isSheet, his_0, his_89, Option.bind_some, ob2_some, if_true, if_false, reduceIte, ob2_eta, one_ne, ea, ec, gR_0_8, ra79 hr, ra79 hq, stH (so hr), stH (so hq), fm_X7_isMissing, stI1 (so hr), stI1 (so hq), s1, t1, e0, f0, eb, stretch_ok hr n1 (s2.trans n2) ⟨i, n, rfl, rfl, hi⟩, stretch_ok hq m1 (t2.trans m2) ⟨j, n, rfl, rfl, hj⟩, stR0 (so hr), stR0 (so hq), show 81 + 2 * r + 1 = 82 + 2 * r by omega, show 81 + 2 * q + 1 = 82 + 2 * q by omega, cp]
                · have w1 : (sA m (82 + 2 * q) (va_cpy (m.1 (82 + 2 * r)) (m.1 (82 + 2 * q)) i j n)).1 101 = m.1 101 := sA_n (by omega)
                  have w2 : (sA m (82 + 2 * q) (va_cpy (m.1 (82 + 2 * r)) (m.1 (82 + 2 * q)) i j n)).1 102 = m.1 102 := sA_n (by omega)
                  have l1 : ¬ nI N - nI n < nI i := fun x => absurd ((subLt n1 (by omega) (by omega)).mp x) (by omega)
                  have l2 : nI j ≤ nI M - nI n := (subLe m1 (by omega) (by omega)).mpr (by omega)
                  simp only [fm_X11_move, below2, below3, below4, below5, below6, below7, below20, below31, below70, within_in, fm_X11_isKnot, fm_X11_isThread, fm_X11_isHand, fm_X11_isSheet, his_0, his_89, Option.bind_some, ob2_some, if_true, if_false, reduceIte, ob2_eta, one_ne, ea, ec, gR_89_19, gR_89_20, al_101 _ hr, al_101 _ hq, al_102 _ hr, al_102 _ hq, w1, w2, e0, f0, eb, nI_pos (show i < 2 ^ 31 by omega), nI_pos (show j < 2 ^ 31 by omega), nI_pos (show n < 2 ^ 31 by omega), n2, m2, l1, l2, c1, d1]
                · obtain ⟨u1, u2, u3, u4, u5, u6⟩ := hsh p hp
                  rw [shR, z2, z 101 (by decide) (by decide) (by omega), z 102 (by decide) (by decide) (by omega)]
                  refine ⟨u1, u2, u3, u4, u5, fun k hk => ?_⟩
                  rw [d4, y103, mvF]
                  by_cases ep : p = q
                  · subst ep
                    rw [d3 _ (by omega), c3 _ (by omega), sA_s, va_cpy]
                    by_cases ek : j ≤ k ∧ k < j + n
                    · rw [if_pos ek, if_pos (by omega), c4 _ (by omega), sA_n (by omega), show 40 * p + k - (40 * p + j) = k - j by omega, show 40 * r + i + (k - j) = 40 * r + (i + (k - j)) by omega]
                      exact s6 _ (by omega)
                    · rw [if_neg ek, if_neg (by omega)]
                      exact u6 k hk
                  · rw [z _ (by omega) (by omega) (by omega), if_neg (by omega)]
                    exact u6 k hk
              · refine h.e1 ?_ fun m' e' => ?_
                · simp only [fm_X10_move, fm_X10_move_b105, below2, below3, below4, below5, below6, below7, below20, below31, below70, within_in, fm_X11_isKnot, fm_X11_isThread, fm_X11_isHand, fm_X11_isSheet, his_0, his_89, Option.bind_some, ob2_some, if_true, if_false, reduceIte, ob2_eta, one_ne, ea, ec, gR_0_8, ra79 hr, ra79 hq, stH (so hr), stH (so hq), fm_X7_isMissing, stI1 (so hr), stI1 (so hq), s1, t1, e0, f0, eb, stretch_ok hr n1 (s2.trans n2) g1, stretch_no hq m1 (t2.trans m2) g2]
                · obtain ⟨i, n, rfl, rfl, hi⟩ := g1
                  have l1 : ¬ nI N - nI n < nI i := fun x => absurd ((subLt n1 (by omega) (by omega)).mp x) (by omega)
                  by_cases hd : d < 0
                  · simp only [fm_X11_move, fm_X11_move_b106, below2, below3, below4, below5, below6, below7, below20, below31, below70, within_in, fm_X11_isKnot, fm_X11_isThread, fm_X11_isHand, fm_X11_isSheet, his_0, his_89, Option.bind_some, ob2_some, if_true, if_false, reduceIte, ob2_eta, one_ne, ea, ec, gR_89_19, gR_89_20, al_101 _ hr, al_101 _ hq, al_102 _ hr, al_102 _ hq, e'.at (a := 101), e'.at (a := 102), e0, f0, eb, nI_pos (show i < 2 ^ 31 by omega), nI_pos (show n < 2 ^ 31 by omega), hd]
                  · obtain ⟨j, j1, rfl⟩ := nI_of hd
                    have l2 : ¬ nI j ≤ nI M - nI n := fun x => g2 ⟨j, n, rfl, rfl, (subLe m1 (by omega) j1).mp x⟩
                    simp only [fm_X11_move, fm_X11_move_b106, below2, below3, below4, below5, below6, below7, below20, below31, below70, within_in, fm_X11_isKnot, fm_X11_isThread, fm_X11_isHand, fm_X11_isSheet, his_0, his_89, Option.bind_some, ob2_some, if_true, if_false, reduceIte, ob2_eta, one_ne, ea, ec, gR_89_19, gR_89_20, al_101 _ hr, al_101 _ hq, al_102 _ hr, al_102 _ hq, e'.at (a := 101), e'.at (a := 102), e0, f0, eb, nI_pos (show i < 2 ^ 31 by omega), nI_pos (show n < 2 ^ 31 by omega), hd, n2, m2, l1, l2]
            · refine h.e1 ?_ fun m' e' => ?_
              · simp only [fm_X10_move, fm_X10_move_b105, below2, below3, below4, below5, below6, below7, below20, below31, below70, within_in, fm_X11_isKnot, fm_X11_isThread, fm_X11_isHand, fm_X11_isSheet, his_0, his_89, Option.bind_some, ob2_some, if_true, if_false, reduceIte, ob2_eta, one_ne, ea, ec, gR_0_8, ra79 hr, ra79 hq, stH (so hr), stH (so hq), fm_X7_isMissing, stI1 (so hr), stI1 (so hq), s1, t1, e0, f0, eb, stretch_no hr n1 (s2.trans n2) g1]
              · by_cases he : e < 0
                · simp only [fm_X11_move, fm_X11_move_b106, below2, below3, below4, below5, below6, below7, below20, below31, below70, within_in, fm_X11_isKnot, fm_X11_isThread, fm_X11_isHand, fm_X11_isSheet, his_0, his_89, Option.bind_some, ob2_some, if_true, if_false, reduceIte, ob2_eta, one_ne, ea, ec, gR_89_19, gR_89_20, al_101 _ hr, al_101 _ hq, e'.at (a := 101), e0, f0, eb, he]
                · by_cases hb : b < 0
                  · simp only [fm_X11_move, fm_X11_move_b106, below2, below3, below4, below5, below6, below7, below20, below31, below70, within_in, fm_X11_isKnot, fm_X11_isThread, fm_X11_isHand, fm_X11_isSheet, his_0, his_89, Option.bind_some, ob2_some, if_true, if_false, reduceIte, ob2_eta, one_ne, ea, ec, gR_89_19, gR_89_20, al_101 _ hr, al_101 _ hq, e'.at (a := 101), e0, f0, eb, he, hb]
                  · by_cases hd : d < 0
                    · simp only [fm_X11_move, fm_X11_move_b106, below2, below3, below4, below5, below6, below7, below20, below31, below70, within_in, fm_X11_isKnot, fm_X11_isThread, fm_X11_isHand, fm_X11_isSheet, his_0, his_89, Option.bind_some, ob2_some, if_true, if_false, reduceIte, ob2_eta, one_ne, ea, ec, gR_89_19, gR_89_20, al_101 _ hr, al_101 _ hq, e'.at (a := 101), e0, f0, eb, he, hb, hd]
                    · obtain ⟨i, i1, rfl⟩ := nI_of hb
                      obtain ⟨n, n1', rfl⟩ := nI_of he
                      have l1 : nI N - nI n < nI i := (subLt n1 n1' i1).mpr (Nat.lt_of_not_le fun x => g1 ⟨i, n, rfl, rfl, x⟩)
                      simp only [fm_X11_move, fm_X11_move_b106, below2, below3, below4, below5, below6, below7, below20, below31, below70, within_in, fm_X11_isKnot, fm_X11_isThread, fm_X11_isHand, fm_X11_isSheet, his_0, his_89, Option.bind_some, ob2_some, if_true, if_false, reduceIte, ob2_eta, one_ne, ea, ec, gR_89_19, gR_89_20, al_101 _ hr, al_101 _ hq, al_102 _ hr, e'.at (a := 101), e'.at (a := 102), e0, f0, eb, he, hb, hd, n2, l1]
          · refine h.e5 ?_ fun m' e => ?_
            · simp only [fm_X10_move, below2, below3, below4, below5, below6, below7, below20, below31, below70, within_in, fm_X11_isKnot, fm_X11_isThread, fm_X11_isHand, fm_X11_isSheet, his_0, his_89, Option.bind_some, ob2_some, if_true, if_false, reduceIte, ob2_eta, one_ne, ea, ec, gR_0_8, ra79 hr, ra79 hq, stH (so hr), stH (so hq), fm_X7_isMissing, stI1 (so hr), stI1 (so hq), s1, t1, e0, f0, eb]
            · simp only [fm_X11_move, below2, below3, below4, below5, below6, below7, below20, below31, below70, within_in, fm_X11_isKnot, fm_X11_isThread, fm_X11_isHand, fm_X11_isSheet, his_0, his_89, Option.bind_some, ob2_some, if_true, if_false, reduceIte, ob2_eta, one_ne, ea, ec, gR_89_19, al_101 _ hr, al_101 _ hq, e.at (a := 101), e0, f0, eb]
    · refine h.e1 ?_ fun m' e => ?_ <;> simp only [fm_X10_move, fm_X11_move, fm_X10_move_b16, fm_X11_move_b14, below2, below3, below4, below5, below6, below7, below20, below31, below70, within_in, fm_X11_isKnot, fm_X11_isThread, fm_X11_isHand, fm_X11_isSheet, his_0, his_89, Option.bind_some, ob2_some, if_true, if_false, reduceIte, ob2_eta, one_ne, ea, ec]
  · refine h.e1 ?_ fun m' e => ?_ <;> simp only [fm_X10_move, fm_X11_move, fm_X10_move_b16, fm_X11_move_b14, below2, below3, below4, below5, below6, below7, below20, below31, below70, within_in, fm_X11_isKnot, fm_X11_isThread, fm_X11_isHand, fm_X11_isSheet, his_0, his_89, Option.bind_some, ob2_some, if_true, if_false, reduceIte, ob2_eta, one_ne, ea]
