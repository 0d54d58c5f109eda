/-! THE CLASS'S LAWS -/
theorem div_m1 (x : Int32) : x / (-1) = -x := by
  apply Int32.toInt_inj.mp
  have e : (-1 : Int32).toInt = -1 := by decide
  rw [Int32.toInt_div, e, Int.tdiv_neg, Int.tdiv_one, Int32.toInt_neg]
theorem rem_m1 (x : Int32) : ji_rem x (-1) = 0 := by
  unfold ji_rem
  rw [div_m1]
  have : -x * -1 = x := by
    rw [Int32.mul_neg, Int32.mul_one, Int32.neg_neg]
  rw [this, Int32.sub_self]
theorem join_eq {c x y : Int32} (h : isSg c) : fm_X3_join x c y = jn c x y := by
  unfold jn fm_X3_join fm_X11_joined
  rcases h with rfl | rfl | rfl | rfl | rfl | rfl | rfl | rfl | rfl | rfl
  all_goals simp (config := { decide := true }) only [if_true, if_false, reduceIte]
  all_goals try rfl
  · by_cases h0 : y = 0
    · simp [h0]
    · by_cases h1 : y = -1
      · subst h1; simp (config := { decide := true }) only [if_true, if_false, reduceIte]; exact rem_m1 x
      · simp [h0, h1]
  · by_cases h0 : y = 0
    · simp [h0]
    · by_cases h1 : y = -1
      · subst h1; simp (config := { decide := true }) only [if_true, if_false, reduceIte]; exact div_m1 x
      · simp [h0, h1]
def nmC (u : Nat) (v : Int32) : Int32 := if u = 0 then (if v = 109 then -1 else if v = 100 then -2 else -3) else (if v = 116 then -1 else if v = 119 then -2 else -3)
def itm (u : Nat) (w v : Int32) : Int32 := if w = 0 then v else if w = 1 then nmC u v else if w = 2 then -33 else -v
theorem nmC_val {u : Nat} {v x y z : Int32} (h : isNm u v) : fm_X3_valueOf (nmC u v) x y z = nmS u x y z v ∧ ¬ nmC u v < -3 := by
  unfold isNm at h
  unfold nmC nmS fm_X3_valueOf
  by_cases hu : u = 0
  · rw [if_pos hu] at h
    rcases h with rfl | rfl | rfl <;> simp (config := { decide := true }) [hu]
  · rw [if_neg hu] at h
    rcases h with rfl | rfl | rfl <;> simp (config := { decide := true }) [hu]
theorem num_val {v x y z : Int32} (h : 0 ≤ v) : fm_X3_valueOf v x y z = v ∧ ¬ v < -3 := by
  have h3 : ¬ v = -3 := fun q => by subst q; exact absurd h (by decide)
  have h2 : ¬ v = -2 := fun q => by subst q; exact absurd h (by decide)
  have h1 : ¬ v = -1 := fun q => by subst q; exact absurd h (by decide)
  refine ⟨by unfold fm_X3_valueOf; simp [h1, h2, h3], fun q => ?_⟩
  exact absurd (Int32.lt_of_lt_of_le q (show (-3 : Int32) ≤ 0 by decide)) (Int32.not_lt.mpr h)
theorem sg_val {v : Int32} (h : isSg v) : -v < -3 ∧ ¬ -v = -33 ∧ -(-v) = v := by
  rcases h with rfl | rfl | rfl | rfl | rfl | rfl | rfl | rfl | rfl | rfl <;> decide
def lawR (m : xM2) (L u : Nat) (s : Nat → Int32) : Prop := m.2 L 2 = txN s u ∧ ∀ N, txN s u = nI N → N ≤ 60 → ∀ k, k < N → m.1 (L + 1) k = itm u (txW s u k) (txV s u k)
theorem worth_loop {m : xM2} {L u N : Nat} {s : Nat → Int32} {x y z : Int32} (hL : isLaw L) (hR : lawR m L u s) (hN : txN s u = nI N) (hok : tkOk u (txW s u) (txV s u) N) :
    ∀ (j k n : Nat), k + j = N → j < n → ∀ f, agr (tkD (txW s u) k) f (tkRun (nmS u x y z) (txW s u) (txV s u) k).1 → (1 ≤ k → 1 ≤ tkD (txW s u) k) → 1 ≤ N →
      ∃ f', fm_X3_worth_b6 n L x y z (nI (tkD (txW s u) k)) (nI k) (mk (sA m (L + 2) f)) = some ((tkRun (nmS u x y z) (txW s u) (txV s u) N).1 0, mk (sA m (L + 2) f')) := by
  intro j
  induction j with
  | zero =>
    intro k n hk hn f hf hp h1
    obtain ⟨n, rfl⟩ : ∃ n', n = n' + 1 := ⟨n - 1, by omega⟩
    have hkN : k = N := by omega
    subst hkN
    refine ⟨f, ?_⟩
    unfold fm_X3_worth_b6
    rw [lwI2 hL, Option.bind_some, sA_2, hR.1, hN, if_pos (Int32.le_refl _), lwR1 hL, Option.bind_some, show (0 : Int32) = nI 0 from rfl, lwA2 hL _ (by decide), Option.bind_some, sA_s, hf 0 (hp h1)]
  | succ j ih =>
    intro k n hk hn f hf hp h1
    obtain ⟨n, rfl⟩ : ∃ n', n = n' + 1 := ⟨n - 1, by omega⟩
    have hkN : k < N := by omega
    have hN60 := hok.1
    have hT := hok.2 k hkN
    have hd := tk_le (W := txW s u) k
    have hpos : 1 ≤ tkD (txW s u) (k + 1) := tk_pos k (fun j hj => hok.2 j (by omega))
    have e1 : (sA m (L + 2) f).1 (L + 1) = m.1 (L + 1) := sA_n (by omega)
    have e2 : (sA m (L + 2) f).1 (L + 2) = f := sA_s
    unfold fm_X3_worth_b6
    rw [lwI2 hL, Option.bind_some, sA_2, hR.1, hN, if_neg (nI_ge hkN (by omega)), lwR0 hL, Option.bind_some, lwA1 hL _ (show k < 60 by omega), Option.bind_some, e1, hR.2 N hN hN60 k hkN]
    have go : ∀ f', agr (tkD (txW s u) (k + 1)) f' (tkRun (nmS u x y z) (txW s u) (txV s u) (k + 1)).1 → ∃ f'', fm_X3_worth_b6 n L x y z (nI (tkD (txW s u) (k + 1))) (nI k + 1) (mk (sA m (L + 2) f')) = some ((tkRun (nmS u x y z) (txW s u) (txV s u) N).1 0, mk (sA m (L + 2) f'')) := by
      intro f' hf'
      rw [nI_1]
      exact ih (k + 1) n (by omega) (by omega) f' hf' (fun _ => hpos) h1
    have hd2 := tk_run_d (nmS u x y z) (txW s u) (txV s u) k
    generalize hq : tkRun (nmS u x y z) (txW s u) (txV s u) k = q at *
    have hRn : tkRun (nmS u x y z) (txW s u) (txV s u) (k + 1) = tkStep (nmS u x y z) (txW s u k) (txV s u k) q := by rw [tkRun, hq]
    generalize hD : tkD (txW s u) k = D at *
    have hDs : tkD (txW s u) (k + 1) = if txW s u k = 0 ∨ txW s u k = 1 then D + 1 else if txW s u k = 2 then D else D - 1 := by rw [tkD, hD]
    rw [hRn, hDs] at go
    have h60 : ¬ (60 : Int32) ≤ nI D := nI_ge (a := D) (b := 60) (by omega) (by decide)
    rcases hT with ⟨hw, hv, -⟩ | ⟨hw, hv⟩ | ⟨hw, hg⟩ | ⟨hw, hv, hg⟩
    · rw [hw] at go ⊢
      simp only [tkStep, true_or, Option.bind_some, ob2_some, if_true, if_false, reduceIte] at go
      simp only [itm, Option.bind_some, ob2_some, if_true, if_false, reduceIte]
      rw [if_neg (num_val (x := x) (y := y) (z := z) hv).2, if_neg h60, (num_val hv).1, lwR1 hL, Option.bind_some, lwS2 hL _ (show D < 60 by omega), Option.bind_some, e2, sA_sA]
      unfold fm_X3_worth_b141
      rw [show nI D + 1 = nI (D + 1) from nI_1 D]
      exact go _ (by rw [hd2]; exact agr_push hf)
    · rw [hw] at go ⊢
      simp only [tkStep, or_true, Option.bind_some, ob2_some, if_true, if_false, reduceIte, one_ne] at go
      simp only [itm, Option.bind_some, ob2_some, if_true, if_false, reduceIte, one_ne]
      rw [if_neg (nmC_val (x := x) (y := y) (z := z) hv).2, if_neg h60, (nmC_val hv).1, lwR1 hL, Option.bind_some, lwS2 hL _ (show D < 60 by omega), Option.bind_some, e2, sA_sA]
      unfold fm_X3_worth_b141
      rw [show nI D + 1 = nI (D + 1) from nI_1 D]
      exact go _ (by rw [hd2]; exact agr_push hf)
    · rw [hw] at go ⊢
      obtain ⟨E, rfl⟩ : ∃ E, D = E + 1 := ⟨D - 1, by omega⟩
      have x1 : ¬ (2 : Int32) = 0 := by decide
      have x2 : ¬ (2 : Int32) = 1 := by decide
      have x3 : (-33 : Int32) < -3 := by decide
      have x4 : ¬ nI (E + 1) < 1 := nI_nlt (a := E + 1) (b := 1) (by omega) (by omega)
      simp only [tkStep, Option.bind_some, ob2_some, if_true, if_false, reduceIte, x1, x2, or_self] at go
      simp only [itm, Option.bind_some, ob2_some, if_true, if_false, reduceIte, x1, x2, x3, x4]
      simp only [lwR1 hL, Option.bind_some, nI_pred, lwA2 hL _ (show E < 60 by omega), lwS2 hL _ (show E < 60 by omega), e2, sA_sA]
      unfold fm_X3_worth_b141
      rw [hd2, show E + 1 - 1 = E from rfl] at go
      exact go _ (by rw [hf E (by omega)]; exact agr_set hf)
    · rw [hw] at go ⊢
      obtain ⟨E, rfl⟩ : ∃ E, D = E + 2 := ⟨D - 2, by omega⟩
      have x1 : ¬ (3 : Int32) = 0 := by decide
      have x2 : ¬ (3 : Int32) = 1 := by decide
      have x3 : ¬ (3 : Int32) = 2 := by decide
      have x4 : ¬ nI (E + 2) < 2 := nI_nlt (a := E + 2) (b := 2) (by omega) (by omega)
      obtain ⟨g1, g2, g3⟩ := sg_val hv
      simp only [tkStep, Option.bind_some, ob2_some, if_true, if_false, reduceIte, x1, x2, x3, or_self] at go
      simp only [itm, Option.bind_some, ob2_some, if_true, if_false, reduceIte, x1, x2, x3, x4, g1, g2]
      simp only [lwR1 hL, Option.bind_some, pk_m1, nI_pred, lwA2 hL _ (show E < 60 by omega), lwA2 hL _ (show E + 1 < 60 by omega), g3, join_eq hv, lwS2 hL _ (show E < 60 by omega), e2, sA_sA]
      unfold fm_X3_worth_b141
      rw [hd2, show E + 2 - 2 = E from rfl, show E + 2 - 1 = E + 1 from rfl] at go
      exact go _ (by rw [hf E (by omega), hf (E + 1) (by omega)]; exact agr_le (agr_set hf) (by omega))
theorem worth_ok {m : xM2} {L u : Nat} {s : Nat → Int32} (x y z : Int32) (hL : isLaw L) (hR : lawR m L u s) (h : txOk s u) (hN : ¬ txN s u ≤ 0) : ∃ f, fm_X3_worth L x y z (mk m) = some (evT s u x y z, mk (sA m (L + 2) f)) := by
  obtain ⟨N, h1, h2⟩ := h
  have hpos : 1 ≤ N := by
    rcases Nat.eq_zero_or_pos N with q | q
    · subst q
      exact absurd (by rw [h1]; decide) hN
    · exact q
  obtain ⟨f, hf⟩ := worth_loop (x := x) (y := y) (z := z) hL hR h1 h2 N 0 5000 (by omega) (by have := h2.1; omega) (m.1 (L + 2)) (fun i hi => absurd hi (by simp [tkD])) (fun q => absurd q (by decide)) hpos
  refine ⟨f, ?_⟩
  unfold fm_X3_worth evT
  rw [h1, nI_clamp (by have := h2.1; omega)]
  rw [sA_self] at hf
  exact hf
theorem isThere_ok {m : xM2} {L u : Nat} {s : Nat → Int32} (hL : isLaw L) (hR : lawR m L u s) : fm_X3_isThere L (mk m) = some (if txN s u ≤ 0 then 0 else 1) := by
  unfold fm_X3_isThere
  rw [lwI2 hL, Option.bind_some, hR.1]
  by_cases h : txN s u ≤ 0 <;> simp [h]
