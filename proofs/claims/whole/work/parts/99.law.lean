/-! THE LAW'S LOOP -/
theorem ls_at {L : Nat} {xs : Nat → Int32} {i : Nat} (h : i < L) (hL : L ≤ 3072) : hp_sld (xb_st L xs) 1 (nI i) = some (xs i) := by
  show (if nI i < 0 ∨ L ≤ (nI i).toNatClampNeg then none else some (xs (nI i).toNatClampNeg)) = _
  rw [nI_clamp (by omega), if_neg]
  rintro (q | q)
  · exact nI_pos (by omega) q
  · omega
theorem lw_pair {m : xM2} {f g : qx_H → Option (Int32 × qx_H)} {k : qx_H → Option (Int32 × qx_H)} {X : Option (Int32 × qx_H)} (h : pr m f g) (hk : ∀ m2, Rel m2 → ∃ m', k (mk m2) = some (1, mk m')) (hX : ∀ v m1 m2, f (mk m) = some (v, mk m1) → g (mk m1) = some (v, mk m2) → X = k (mk m2)) : ∃ m', X = some (1, mk m') := by
  obtain ⟨v, m1, m2, e1, e2, e3⟩ := h
  rw [hX v m1 m2 e1 e2]
  exact hk m2 e3
theorem lw_pair64 {m : xM2} {f g : qx_H → Option (Int64 × qx_H)} {k : qx_H → Option (Int32 × qx_H)} {X : Option (Int32 × qx_H)} (h : pr64 m f g) (hk : ∀ m2, Rel m2 → ∃ m', k (mk m2) = some (1, mk m')) (hX : ∀ v m1 m2, f (mk m) = some (v, mk m1) → g (mk m1) = some (v, mk m2) → X = k (mk m2)) : ∃ m', X = some (1, mk m') := by
  obtain ⟨v, m1, m2, e1, e2, e3⟩ := h
  rw [hX v m1 m2 e1 e2]
  exact hk m2 e3
theorem six : ∀ L, L < 6 → nI L - 6 < 0 := by decide +kernel
set_option maxHeartbeats 4000000 in
theorem law_step {L : Nat} (hL : L ≤ 3072) {xs : Nat → Int32} {n i : Nat} (hi : i + 6 ≤ L) {m : xM2} (h : Rel m) (hk : ∀ m2, Rel m2 → ∃ m', fm_L_law_b1332 (xb_st L xs) (fm_L_law_b18 (xb_st L xs) n) 0 89 (nI i) (mk m2) = some (1, mk m')) : ∃ m', fm_L_law_b18 (xb_st L xs) (n + 1) 0 89 (nI i) (mk m) = some (1, mk m') := by
  have r0 := ls_at (xs := xs) (i := i) (by omega) hL
  have r1 : hp_sld (xb_st L xs) 1 (nI i + 1) = some (xs (i + 1)) := by
    rw [show nI i + (1 : Int32) = nI (i + 1) from nI_add i 1]
    exact ls_at (by omega) hL
  have r2 : hp_sld (xb_st L xs) 1 (nI i + 2) = some (xs (i + 2)) := by
    rw [show nI i + (2 : Int32) = nI (i + 2) from nI_add i 2]
    exact ls_at (by omega) hL
  have r3 : hp_sld (xb_st L xs) 1 (nI i + 3) = some (xs (i + 3)) := by
    rw [show nI i + (3 : Int32) = nI (i + 3) from nI_add i 3]
    exact ls_at (by omega) hL
  have r4 : hp_sld (xb_st L xs) 1 (nI i + 4) = some (xs (i + 4)) := by
    rw [show nI i + (4 : Int32) = nI (i + 4) from nI_add i 4]
    exact ls_at (by omega) hL
  have r5 : hp_sld (xb_st L xs) 1 (nI i + 5) = some (xs (i + 5)) := by
    rw [show nI i + (5 : Int32) = nI (i + 5) from nI_add i 5]
    exact ls_at (by omega) hL
  have rl : hp_sln (xb_st L xs) 1 = some (nI L) := rfl
  have lt : ¬ nI L - 6 < nI i := by
    rw [show nI L - (6 : Int32) = nI (L - 6) from pk_sub (b := 6) (by omega), nI_ltI (by omega) (by omega)]
    omega
  rw [fm_L_law_b18, rl, Option.bind_some, if_neg lt, r0, Option.bind_some]
  generalize fm_L_law_b18 (xb_st L xs) n = K at hk ⊢
  by_cases q0 : (xs i &&& 63) = 0
  · rw [if_pos q0]
    refine lw_pair (p_tie h (xs (i + 1)) (xs (i + 2)) (xs (i + 3))) hk fun v m1 m2 e1 e2 => ?_
    rw [r1, r2, r3, Option.bind_some, Option.bind_some, Option.bind_some, if_pos (his_0 m), e1, ob2_some, Option.bind_some, Option.bind_some, Option.bind_some, if_pos (his_89 m1), e2, ob2_some, if_pos rfl]
  rw [if_neg q0]
  by_cases q1 : (xs i &&& 63) = 1
  · rw [if_pos q1]
    refine lw_pair (p_knotIs h (xs (i + 1)) (xs (i + 2))) hk fun v m1 m2 e1 e2 => ?_
    rw [r1, r2, Option.bind_some, Option.bind_some, if_pos (his_0 m), e1, ob2_some, Option.bind_some, Option.bind_some, if_pos (his_89 m1), e2, ob2_some, if_pos rfl]
  rw [if_neg q1]
  by_cases q2 : (xs i &&& 63) = 2
  · rw [if_pos q2]
    refine lw_pair (p_as h (xs (i + 1)) (xs (i + 2))) hk fun v m1 m2 e1 e2 => ?_
    rw [r1, r2, Option.bind_some, Option.bind_some, if_pos (his_0 m), e1, ob2_some, Option.bind_some, Option.bind_some, if_pos (his_89 m1), e2, ob2_some, if_pos rfl]
  rw [if_neg q2]
  by_cases q3 : (xs i &&& 63) = 3
  · rw [if_pos q3]
    refine lw_pair (p_threadIs h (xs (i + 1)) (xs (i + 2))) hk fun v m1 m2 e1 e2 => ?_
    rw [r1, r2, Option.bind_some, Option.bind_some, if_pos (his_0 m), e1, ob2_some, Option.bind_some, Option.bind_some, if_pos (his_89 m1), e2, ob2_some, if_pos rfl]
  rw [if_neg q3]
  by_cases q4 : (xs i &&& 63) = 4
  · rw [if_pos q4]
    refine lw_pair (p_cut h (xs (i + 1))) hk fun v m1 m2 e1 e2 => ?_
    rw [r1, Option.bind_some, if_pos (his_0 m), e1, ob2_some, Option.bind_some, if_pos (his_89 m1), e2, ob2_some, if_pos rfl]
  rw [if_neg q4]
  by_cases q5 : (xs i &&& 63) = 5
  · rw [if_pos q5]
    refine lw_pair (p_wear h (xs (i + 1)) (xs (i + 2))) hk fun v m1 m2 e1 e2 => ?_
    rw [r1, r2, Option.bind_some, Option.bind_some, if_pos (his_0 m), e1, ob2_some, Option.bind_some, Option.bind_some, if_pos (his_89 m1), e2, ob2_some, if_pos rfl]
  rw [if_neg q5]
  by_cases q6 : (xs i &&& 63) = 6
  · rw [if_pos q6]
    refine lw_pair (p_twine h (xs (i + 1))) hk fun v m1 m2 e1 e2 => ?_
    rw [r1, Option.bind_some, if_pos (his_0 m), e1, ob2_some, Option.bind_some, if_pos (his_89 m1), e2, ob2_some, if_pos rfl]
  rw [if_neg q6]
  by_cases q7 : (xs i &&& 63) = 7
  · rw [if_pos q7]
    refine lw_pair (p_speed h (xs (i + 1)) (xs (i + 2))) hk fun v m1 m2 e1 e2 => ?_
    rw [r1, r2, Option.bind_some, Option.bind_some, if_pos (his_0 m), e1, ob2_some, Option.bind_some, Option.bind_some, if_pos (his_89 m1), e2, ob2_some, if_pos rfl]
  rw [if_neg q7]
  by_cases q8 : (xs i &&& 63) = 8
  · rw [if_pos q8]
    refine lw_pair (p_feed h ((jl_shl (Int32.toInt64 (xs (i + 1))) 32) ||| ((Int32.toInt64 (xs (i + 2))) &&& 4294967295)) (xs (i + 3))) hk fun v m1 m2 e1 e2 => ?_
    rw [r1, r2, r3, Option.bind_some, Option.bind_some, Option.bind_some, if_pos (his_0 m), e1, ob2_some, Option.bind_some, Option.bind_some, Option.bind_some, if_pos (his_89 m1), e2, ob2_some, if_pos rfl]
  rw [if_neg q8]
  by_cases q9 : (xs i &&& 63) = 9
  · rw [if_pos q9]
    refine lw_pair (p_text h (xs (i + 1))) hk fun v m1 m2 e1 e2 => ?_
    rw [r1, Option.bind_some, if_pos (his_0 m), e1, ob2_some, Option.bind_some, if_pos (his_89 m1), e2, ob2_some, if_pos rfl]
  rw [if_neg q9]
  by_cases q10 : (xs i &&& 63) = 10
  · rw [if_pos q10]
    refine lw_pair (p_untell h (xs (i + 1))) hk fun v m1 m2 e1 e2 => ?_
    rw [r1, Option.bind_some, if_pos (his_0 m), e1, ob2_some, Option.bind_some, if_pos (his_89 m1), e2, ob2_some, if_pos rfl]
  rw [if_neg q10]
  by_cases q11 : (xs i &&& 63) = 11
  · rw [if_pos q11]
    refine lw_pair (p_run h (xs (i + 1)) (xs (i + 2))) hk fun v m1 m2 e1 e2 => ?_
    rw [r1, r2, Option.bind_some, Option.bind_some, if_pos (his_0 m), e1, ob2_some, Option.bind_some, Option.bind_some, if_pos (his_89 m1), e2, ob2_some, if_pos rfl]
  rw [if_neg q11]
  by_cases q12 : (xs i &&& 63) = 12
  · rw [if_pos q12]
    refine lw_pair (p_odd h (xs (i + 1))) hk fun v m1 m2 e1 e2 => ?_
    rw [r1, Option.bind_some, if_pos (his_0 m), e1, ob2_some, Option.bind_some, if_pos (his_89 m1), e2, ob2_some, if_pos rfl]
  rw [if_neg q12]
  by_cases q13 : (xs i &&& 63) = 13
  · rw [if_pos q13]
    refine lw_pair (p_cuts h (xs (i + 1))) hk fun v m1 m2 e1 e2 => ?_
    rw [r1, Option.bind_some, if_pos (his_0 m), e1, ob2_some, Option.bind_some, if_pos (his_89 m1), e2, ob2_some, if_pos rfl]
  rw [if_neg q13]
  by_cases q14 : (xs i &&& 63) = 14
  · rw [if_pos q14]
    refine lw_pair (p_way h (xs (i + 1))) hk fun v m1 m2 e1 e2 => ?_
    rw [r1, Option.bind_some, if_pos (his_0 m), e1, ob2_some, Option.bind_some, if_pos (his_89 m1), e2, ob2_some, if_pos rfl]
  rw [if_neg q14]
  by_cases q15 : (xs i &&& 63) = 15
  · rw [if_pos q15]
    refine lw_pair (p_hole h (xs (i + 1))) hk fun v m1 m2 e1 e2 => ?_
    rw [r1, Option.bind_some, if_pos (his_0 m), e1, ob2_some, Option.bind_some, if_pos (his_89 m1), e2, ob2_some, if_pos rfl]
  rw [if_neg q15]
  by_cases q16 : (xs i &&& 63) = 16
  · rw [if_pos q16]
    obtain ⟨v, e1, e2⟩ := p_open h
    rw [if_pos (his_0 m), e1, Option.bind_some, if_pos (his_89 m), e2, Option.bind_some, if_pos rfl]
    exact hk m h
  rw [if_neg q16]
  by_cases q17 : (xs i &&& 63) = 17
  · rw [if_pos q17]
    refine lw_pair (p_minutes h (xs (i + 1))) hk fun v m1 m2 e1 e2 => ?_
    rw [r1, Option.bind_some, if_pos (his_0 m), e1, ob2_some, Option.bind_some, if_pos (his_89 m1), e2, ob2_some, if_pos rfl]
  rw [if_neg q17]
  by_cases q18 : (xs i &&& 63) = 18
  · rw [if_pos q18]
    refine lw_pair (p_days h (xs (i + 1))) hk fun v m1 m2 e1 e2 => ?_
    rw [r1, Option.bind_some, if_pos (his_0 m), e1, ob2_some, Option.bind_some, if_pos (his_89 m1), e2, ob2_some, if_pos rfl]
  rw [if_neg q18]
  by_cases q19 : (xs i &&& 63) = 19
  · rw [if_pos q19]
    refine lw_pair (p_draws h (xs (i + 1))) hk fun v m1 m2 e1 e2 => ?_
    rw [r1, Option.bind_some, if_pos (his_0 m), e1, ob2_some, Option.bind_some, if_pos (his_89 m1), e2, ob2_some, if_pos rfl]
  rw [if_neg q19]
  by_cases q20 : (xs i &&& 63) = 20
  · rw [if_pos q20]
    refine lw_pair (p_seed h (xs (i + 1))) hk fun v m1 m2 e1 e2 => ?_
    rw [r1, Option.bind_some, if_pos (his_0 m), e1, ob2_some, Option.bind_some, if_pos (his_89 m1), e2, ob2_some, if_pos rfl]
  rw [if_neg q20]
  by_cases q21 : (xs i &&& 63) = 21
  · rw [if_pos q21]
    refine lw_pair (p_then h (xs (i + 1)) (xs (i + 2)) (xs (i + 3))) hk fun v m1 m2 e1 e2 => ?_
    rw [r1, r2, r3, Option.bind_some, Option.bind_some, Option.bind_some, if_pos (his_0 m), e1, ob2_some, Option.bind_some, Option.bind_some, Option.bind_some, if_pos (his_89 m1), e2, ob2_some, if_pos rfl]
  rw [if_neg q21]
  by_cases q22 : (xs i &&& 63) = 22
  · rw [if_pos q22]
    refine lw_pair (p_goes h (xs (i + 1)) (xs (i + 2))) hk fun v m1 m2 e1 e2 => ?_
    rw [r1, r2, Option.bind_some, Option.bind_some, if_pos (his_0 m), e1, ob2_some, Option.bind_some, Option.bind_some, if_pos (his_89 m1), e2, ob2_some, if_pos rfl]
  rw [if_neg q22]
  by_cases q23 : (xs i &&& 63) = 23
  · rw [if_pos q23]
    refine lw_pair (p_mendAhead h (xs (i + 1)) (xs (i + 2))) hk fun v m1 m2 e1 e2 => ?_
    rw [r1, r2, Option.bind_some, Option.bind_some, if_pos (his_0 m), e1, ob2_some, Option.bind_some, Option.bind_some, if_pos (his_89 m1), e2, ob2_some, if_pos rfl]
  rw [if_neg q23]
  by_cases q24 : (xs i &&& 63) = 24
  · rw [if_pos q24]
    refine lw_pair (p_hands h (xs (i + 1)) (xs (i + 2))) hk fun v m1 m2 e1 e2 => ?_
    rw [r1, r2, Option.bind_some, Option.bind_some, if_pos (his_0 m), e1, ob2_some, Option.bind_some, Option.bind_some, if_pos (his_89 m1), e2, ob2_some, if_pos rfl]
  rw [if_neg q24]
  by_cases q25 : (xs i &&& 63) = 25
  · rw [if_pos q25]
    refine lw_pair64 (p_swimsOut h (xs (i + 1))) hk fun v m1 m2 e1 e2 => ?_
    rw [r1, Option.bind_some, if_pos (his_0 m), e1, ob2_some, Option.bind_some, if_pos (his_89 m1), e2, ob2_some, if_pos ((lg_cmp_eq v v).mpr rfl)]
  rw [if_neg q25]
  by_cases q26 : (xs i &&& 63) = 26
  · rw [if_pos q26]
    refine lw_pair (p_voice (L := L) (xs := xs) h (xs (i + 1)) (xs (i + 2)) (xs (i + 3))) hk fun v m1 m2 e1 e2 => ?_
    rw [r1, r2, r3, Option.bind_some, Option.bind_some, Option.bind_some, if_pos (his_0 m), e1, ob2_some, Option.bind_some, Option.bind_some, Option.bind_some, if_pos (his_89 m1), e2, ob2_some, if_pos rfl]
  rw [if_neg q26]
  by_cases q27 : (xs i &&& 63) = 27
  · rw [if_pos q27]
    refine lw_pair (p_body h (xs (i + 1))) hk fun v m1 m2 e1 e2 => ?_
    rw [r1, Option.bind_some, if_pos (his_0 m), e1, ob2_some, Option.bind_some, if_pos (his_89 m1), e2, ob2_some, if_pos rfl]
  rw [if_neg q27]
  by_cases q28 : (xs i &&& 63) = 28
  · rw [if_pos q28]
    refine lw_pair (p_sheet h (xs (i + 1)) (xs (i + 2)) (xs (i + 3))) hk fun v m1 m2 e1 e2 => ?_
    rw [r1, r2, r3, Option.bind_some, Option.bind_some, Option.bind_some, if_pos (his_0 m), e1, ob2_some, Option.bind_some, Option.bind_some, Option.bind_some, if_pos (his_89 m1), e2, ob2_some, if_pos rfl]
  rw [if_neg q28]
  by_cases q29 : (xs i &&& 63) = 29
  · rw [if_pos q29]
    refine lw_pair (p_put h (xs (i + 1)) (xs (i + 2)) (xs (i + 3))) hk fun v m1 m2 e1 e2 => ?_
    rw [r1, r2, r3, Option.bind_some, Option.bind_some, Option.bind_some, if_pos (his_0 m), e1, ob2_some, Option.bind_some, Option.bind_some, Option.bind_some, if_pos (his_89 m1), e2, ob2_some, if_pos rfl]
  rw [if_neg q29]
  by_cases q30 : (xs i &&& 63) = 30
  · rw [if_pos q30]
    refine lw_pair (p_move h (xs (i + 1)) (xs (i + 2)) (xs (i + 3)) (xs (i + 4)) (xs (i + 5))) hk fun v m1 m2 e1 e2 => ?_
    rw [r1, r2, r3, r4, r5, Option.bind_some, Option.bind_some, Option.bind_some, Option.bind_some, Option.bind_some, if_pos (his_0 m), e1, ob2_some, Option.bind_some, Option.bind_some, Option.bind_some, Option.bind_some, Option.bind_some, if_pos (his_89 m1), e2, ob2_some, if_pos rfl]
  rw [if_neg q30]
  by_cases q31 : (xs i &&& 63) = 31
  · rw [if_pos q31]
    refine lw_pair (p_cutAll h (xs (i + 1))) hk fun v m1 m2 e1 e2 => ?_
    rw [r1, Option.bind_some, if_pos (his_0 m), e1, ob2_some, Option.bind_some, if_pos (his_89 m1), e2, ob2_some, if_pos rfl]
  rw [if_neg q31]
  by_cases q32 : (xs i &&& 63) = 32
  · rw [if_pos q32]
    refine lw_pair (p_judge h (xs (i + 1))) hk fun v m1 m2 e1 e2 => ?_
    rw [r1, Option.bind_some, if_pos (his_0 m), e1, ob2_some, Option.bind_some, if_pos (his_89 m1), e2, ob2_some, if_pos rfl]
  rw [if_neg q32]
  by_cases q33 : (xs i &&& 63) = 33
  · rw [if_pos q33]
    refine lw_pair (p_image h ) hk fun v m1 m2 e1 e2 => ?_
    rw [if_pos (his_0 m), e1, ob2_some, if_pos (his_89 m1), e2, ob2_some, if_pos rfl]
  rw [if_neg q33]
  by_cases q34 : (xs i &&& 63) = 34
  · rw [if_pos q34]
    refine lw_pair (p_restore h ) hk fun v m1 m2 e1 e2 => ?_
    rw [if_pos (his_0 m), e1, ob2_some, if_pos (his_89 m1), e2, ob2_some, if_pos rfl]
  rw [if_neg q34]
  by_cases q35 : (xs i &&& 63) = 35
  · rw [if_pos q35]
    refine lw_pair (p_tell h (xs (i + 1))) hk fun v m1 m2 e1 e2 => ?_
    rw [r1, Option.bind_some, if_pos (his_0 m), e1, ob2_some, Option.bind_some, if_pos (his_89 m1), e2, ob2_some, if_pos rfl]
  rw [if_neg q35]
  by_cases q36 : (xs i &&& 63) = 36
  · rw [if_pos q36]
    refine lw_pair (p_check h ) hk fun v m1 m2 e1 e2 => ?_
    rw [if_pos (his_0 m), e1, ob2_some, if_pos (his_89 m1), e2, ob2_some, if_pos rfl]
  rw [if_neg q36]
  by_cases q37 : (xs i &&& 63) = 37
  · rw [if_pos q37]
    refine lw_pair (p_count h (xs (i + 1))) hk fun v m1 m2 e1 e2 => ?_
    rw [r1, Option.bind_some, if_pos (his_0 m), e1, ob2_some, Option.bind_some, if_pos (his_89 m1), e2, ob2_some, if_pos rfl]
  rw [if_neg q37]
  by_cases q38 : (xs i &&& 63) = 38
  · rw [if_pos q38]
    refine lw_pair (p_told h (xs (i + 1))) hk fun v m1 m2 e1 e2 => ?_
    rw [r1, Option.bind_some, if_pos (his_0 m), e1, ob2_some, Option.bind_some, if_pos (his_89 m1), e2, ob2_some, if_pos rfl]
  rw [if_neg q38]
  exact hk m h
theorem law_loop {L : Nat} (hL : L ≤ 3072) {xs : Nat → Int32} : ∀ (d i n : Nat), L < i + 6 + 6 * d → i ≤ L → d < n → ∀ m : xM2, Rel m → ∃ m', fm_L_law_b18 (xb_st L xs) n 0 89 (nI i) (mk m) = some (1, mk m') := by
  intro d
  induction d with
  | zero =>
    intro i n h1 h2 h3 m h
    obtain ⟨n, rfl⟩ : ∃ z, n = z + 1 := ⟨n - 1, by omega⟩
    refine ⟨m, ?_⟩
    have rl : hp_sln (xb_st L xs) 1 = some (nI L) := rfl
    have lt : nI L - 6 < nI i := by
      by_cases q : L < 6
      · have a := six L q
        have b : 0 ≤ nI i := nI_pos' (by omega)
        exact Int32.lt_of_lt_of_le a b
      · rw [show nI L - (6 : Int32) = nI (L - 6) from pk_sub (b := 6) (by omega), nI_ltI (by omega) (by omega)]
        omega
    rw [fm_L_law_b18, rl, Option.bind_some, if_pos lt]
  | succ d ih =>
    intro i n h1 h2 h3 m h
    obtain ⟨n, rfl⟩ : ∃ z, n = z + 1 := ⟨n - 1, by omega⟩
    by_cases q : L < i + 6
    · exact ih i (n + 1) (by omega) h2 (by omega) m h
    · refine law_step hL (by omega) h fun m2 h2 => ?_
      rw [fm_L_law_b1332, show nI i + (6 : Int32) = nI (i + 6) from nI_add i 6]
      exact ih (i + 6) n (by omega) (by omega) (by omega) m2 h2
