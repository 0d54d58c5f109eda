/-! TEXTS AS STEPS, WORKED OUT -/
def isSg (v : Int32) : Prop := v = 37 ∨ v = 38 ∨ v = 42 ∨ v = 43 ∨ v = 45 ∨ v = 47 ∨ v = 60 ∨ v = 61 ∨ v = 62 ∨ v = 124
def isNm (u : Nat) (v : Int32) : Prop := if u = 0 then v = 109 ∨ v = 100 ∨ v = 104 else v = 116 ∨ v = 119 ∨ v = 97
def jn (c x y : Int32) : Int32 := fm_X11_joined c x y
def tkStep (nm : Int32 → Int32) (w v : Int32) (q : (Nat → Int32) × Nat) : (Nat → Int32) × Nat :=
  if w = 0 then (upd q.1 q.2 v, q.2 + 1) else if w = 1 then (upd q.1 q.2 (nm v), q.2 + 1)
  else if w = 2 then (upd q.1 (q.2 - 1) (if q.1 (q.2 - 1) = 0 then 1 else 0), q.2)
  else (upd q.1 (q.2 - 2) (jn v (q.1 (q.2 - 2)) (q.1 (q.2 - 1))), q.2 - 1)
def tkRun (nm : Int32 → Int32) (W V : Nat → Int32) : Nat → (Nat → Int32) × Nat
  | 0 => (fun _ => 0, 0)
  | k + 1 => tkStep nm (W k) (V k) (tkRun nm W V k)
def tkD (W : Nat → Int32) : Nat → Nat
  | 0 => 0
  | k + 1 => if W k = 0 ∨ W k = 1 then tkD W k + 1 else if W k = 2 then tkD W k else tkD W k - 1
def tkT (u : Nat) (W V : Nat → Int32) (k : Nat) : Prop := (W k = 0 ∧ 0 ≤ V k ∧ V k ≤ 9999) ∨ (W k = 1 ∧ isNm u (V k)) ∨ (W k = 2 ∧ 1 ≤ tkD W k) ∨ (W k = 3 ∧ isSg (V k) ∧ 2 ≤ tkD W k)
def tkOk (u : Nat) (W V : Nat → Int32) (N : Nat) : Prop := N ≤ 60 ∧ ∀ k, k < N → tkT u W V k
theorem tk_run_d (nm : Int32 → Int32) (W V : Nat → Int32) : ∀ k, (tkRun nm W V k).2 = tkD W k
  | 0 => rfl
  | k + 1 => by
    have ih := tk_run_d nm W V k
    rw [tkRun, tkD, tkStep]
    by_cases h0 : W k = 0
    · simp [h0, ih]
    · by_cases h1 : W k = 1
      · simp [h1, ih]
      · by_cases h2 : W k = 2
        · simp [h2, ih]
        · simp [h0, h1, h2, ih]
theorem tk_le {W : Nat → Int32} : ∀ k, tkD W k ≤ k
  | 0 => Nat.le_refl _
  | k + 1 => by
    have := tk_le (W := W) k
    rw [tkD]
    split
    · omega
    · split <;> omega
theorem tk_pos {u : Nat} {W V : Nat → Int32} : ∀ k, (∀ j, j < k + 1 → tkT u W V j) → 1 ≤ tkD W (k + 1)
  | 0, h => by
    rcases h 0 (by omega) with h | h | h | h
    · simp [tkD, h.1]
    · simp [tkD, h.1]
    · have := h.2; simp [tkD] at this
    · have := h.2.2; simp [tkD] at this
  | k + 1, h => by
    have ih := tk_pos k (fun j hj => h j (by omega))
    rcases h (k + 1) (by omega) with q | q | q | q
    · rw [tkD, if_pos (Or.inl q.1)]; omega
    · rw [tkD, if_pos (Or.inr q.1)]; omega
    · rw [tkD, if_neg (by rw [q.1]; decide), if_pos q.1]; exact ih
    · rw [tkD, if_neg (by rw [q.1]; decide), if_neg (by rw [q.1]; decide)]; omega
def agr (n : Nat) (f g : Nat → Int32) : Prop := ∀ i, i < n → f i = g i
theorem agr_push {n : Nat} {f g : Nat → Int32} {x : Int32} (h : agr n f g) : agr (n + 1) (upd f n x) (upd g n x) := by
  intro i hi
  unfold upd
  by_cases e : i = n
  · simp [e]
  · simp [e]; exact h i (by omega)
theorem agr_set {n j : Nat} {f g : Nat → Int32} {x : Int32} (h : agr n f g) : agr n (upd f j x) (upd g j x) := by
  intro i hi
  unfold upd
  by_cases e : i = j
  · simp [e]
  · simp [e]; exact h i hi
theorem agr_le {n k : Nat} {f g : Nat → Int32} (h : agr n f g) (hk : k ≤ n) : agr k f g := fun i hi => h i (by omega)
/-- the steps of a row's u-th text -/
def txN (s : Nat → Int32) (u : Nat) : Int32 := s (181 + 125 * u)
def txW (s : Nat → Int32) (u : Nat) : Nat → Int32 := fun k => s (182 + 125 * u + 2 * k)
def txV (s : Nat → Int32) (u : Nat) : Nat → Int32 := fun k => s (183 + 125 * u + 2 * k)
def txOk (s : Nat → Int32) (u : Nat) : Prop := ∃ N, txN s u = nI N ∧ tkOk u (txW s u) (txV s u) N
def nmS (u : Nat) (x y z : Int32) (v : Int32) : Int32 := if u = 0 then (if v = 109 then x else if v = 100 then y else z) else (if v = 116 then x else if v = 119 then y else z)
def evT (s : Nat → Int32) (u : Nat) (x y z : Int32) : Int32 := (tkRun (nmS u x y z) (txW s u) (txV s u) (txN s u).toNatClampNeg).1 0
theorem sA_com {m : xM2} {a b : Nat} {f g : Nat → Int32} (h : a ≠ b) : sA (sA m a f) b g = sA (sA m b g) a f := by
  unfold sA
  simp only [Prod.mk.injEq, and_true]
  funext c
  by_cases h1 : c = b
  · subst h1
    have h2 : ¬ c = a := fun q => h q.symm
    simp [h2]
  · by_cases h2 : c = a
    · subst h2; simp [h1]
    · simp [h1, h2]
theorem worked_loop {m : xM2} {u N : Nat} {nm : Int32 → Int32} (hu : u < 2) (hN : txN (m.1 90) u = nI N) (hok : tkOk u (txW (m.1 90) u) (txV (m.1 90) u) N) (hnm : ∀ v, isNm u v → ∃ c, c < 128 ∧ v = nI c ∧ m.1 95 c = nm v) :
    ∀ (j k n : Nat), k + j = N → j < n → ∀ f, agr (tkD (txW (m.1 90) u) k) f (tkRun nm (txW (m.1 90) u) (txV (m.1 90) u) k).1 → (1 ≤ k → 1 ≤ tkD (txW (m.1 90) u) k) → 1 ≤ N →
      ∃ f', fm_X11_worked_b14 n 89 (nI (181 + 125 * u)) (nI (tkD (txW (m.1 90) u) k)) (nI k) (mk (sA m 96 f)) = some ((tkRun nm (txW (m.1 90) u) (txV (m.1 90) u) N).1 0, mk (sA m 96 f')) := by
  intro j
  induction j with
  | zero =>
    intro k n hk hn f hf hp h1
    obtain ⟨n, rfl⟩ : ∃ n', n = n' + 1 := ⟨n - 1, by omega⟩
    have hkN : k = N := by omega
    subst hkN
    refine ⟨f, ?_⟩
    unfold fm_X11_worked_b14
    have e1 : (sA m 96 f).1 90 = m.1 90 := sA_n (by decide)
    simp only [gR_89_0, Option.bind_some, ob2_some, if_true, if_false, reduceIte, al_90 _ (show 181 + 125 * u < 515 by omega), e1]
    rw [show m.1 90 (181 + 125 * u) = nI k from hN, if_pos (Int32.le_refl _)]
    simp only [gR_89_11, Option.bind_some, ob2_some, if_true, if_false, reduceIte]
    rw [show (0 : Int32) = nI 0 from rfl, al_96 _ (by decide)]
    simp only [Option.bind_some, ob2_some, if_true, if_false, reduceIte, sA_s]
    rw [hf 0 (hp h1)]
  | succ j ih =>
    intro k n hk hn f hf hp h1
    obtain ⟨n, rfl⟩ : ∃ n', n = n' + 1 := ⟨n - 1, by omega⟩
    have hkN : k < N := by omega
    have hN60 := hok.1
    have hT := hok.2 k hkN
    have hd := tk_le (W := txW (m.1 90) u) k
    have hpos : 1 ≤ tkD (txW (m.1 90) u) (k + 1) := tk_pos k (fun j hj => hok.2 j (by omega))
    have e1 : (sA m 96 f).1 90 = m.1 90 := sA_n (by decide)
    have e2 : (sA m 96 f).1 96 = f := sA_s
    have e3 : (sA m 96 f).1 95 = m.1 95 := sA_n (by decide)
    unfold fm_X11_worked_b14
    have i1 : ((nI (181 + 125 * u)) + 1) + 2 * nI k = nI (182 + 125 * u + 2 * k) := by
      show nI (181 + 125 * u) + nI 1 + nI 2 * nI k = _
      rw [pk_mul, nI_add, nI_add]
      exact congrArg nI (by omega)
    have i2 : ((nI (181 + 125 * u)) + 2) + 2 * nI k = nI (183 + 125 * u + 2 * k) := by
      show nI (181 + 125 * u) + nI 2 + nI 2 * nI k = _
      rw [pk_mul, nI_add, nI_add]
      exact congrArg nI (by omega)
    simp only [gR_89_0, Option.bind_some, ob2_some, if_true, if_false, reduceIte, al_90 _ (show 181 + 125 * u < 515 by omega), e1, i1, i2, al_90 _ (show 182 + 125 * u + 2 * k < 515 by omega), al_90 _ (show 183 + 125 * u + 2 * k < 515 by omega)]
    rw [show m.1 90 (181 + 125 * u) = nI N from hN, if_neg (nI_ge hkN (by omega))]
    have w1 : m.1 90 (182 + 125 * u + 2 * k) = txW (m.1 90) u k := rfl
    have w2 : m.1 90 (183 + 125 * u + 2 * k) = txV (m.1 90) u k := rfl
    rw [w1, w2]
    have go : ∀ f', agr (tkD (txW (m.1 90) u) (k + 1)) f' (tkRun nm (txW (m.1 90) u) (txV (m.1 90) u) (k + 1)).1 → ∃ f'', fm_X11_worked_b14 n 89 (nI (181 + 125 * u)) (nI (tkD (txW (m.1 90) u) (k + 1))) (nI k + 1) (mk (sA m 96 f')) = some ((tkRun nm (txW (m.1 90) u) (txV (m.1 90) u) N).1 0, mk (sA m 96 f'')) := by
      intro f' hf'
      rw [nI_1]
      exact ih (k + 1) n (by omega) (by omega) f' hf' (fun _ => hpos) h1
    have hd2 := tk_run_d nm (txW (m.1 90) u) (txV (m.1 90) u) k
    generalize hq : tkRun nm (txW (m.1 90) u) (txV (m.1 90) u) k = q at *
    have hR : tkRun nm (txW (m.1 90) u) (txV (m.1 90) u) (k + 1) = tkStep nm (txW (m.1 90) u k) (txV (m.1 90) u k) q := by rw [tkRun, hq]
    generalize hD : tkD (txW (m.1 90) u) k = D at *
    have hDs : tkD (txW (m.1 90) u) (k + 1) = if txW (m.1 90) u k = 0 ∨ txW (m.1 90) u k = 1 then D + 1 else if txW (m.1 90) u k = 2 then D else D - 1 := by rw [tkD, hD]
    rw [hR, hDs] at go
    rcases hT with ⟨hw, -, -⟩ | ⟨hw, hv⟩ | ⟨hw, hg⟩ | ⟨hw, hv, hg⟩
    · rw [hw] at go ⊢
      simp only [tkStep, true_or, Option.bind_some, ob2_some, if_true, if_false, reduceIte] at go
      rw [if_pos rfl]
      unfold fm_X11_worked_b66
      simp only [gR_89_11, Option.bind_some, ob2_some, if_true, if_false, reduceIte]
      unfold fm_X11_worked_b88
      simp only [as_96 _ (show D < 64 by omega), Option.bind_some, ob2_some, if_true, if_false, reduceIte, e2, sA_sA]
      unfold fm_X11_worked_b158
      rw [show nI D + 1 = nI (D + 1) from nI_1 D]
      exact go _ (by rw [hd2]; exact agr_push hf)
    · rw [hw] at go ⊢
      obtain ⟨c, hc, hvc, hnc⟩ := hnm _ hv
      simp only [tkStep, or_true, Option.bind_some, ob2_some, if_true, if_false, reduceIte, one_ne] at go
      rw [if_neg one_ne, if_pos rfl]
      unfold fm_X11_worked_b66
      simp only [gR_89_11, Option.bind_some, ob2_some, if_true, if_false, reduceIte, one_ne, gR_89_10]
      rw [hvc, al_95 _ hc]
      unfold fm_X11_worked_b88
      simp only [as_96 _ (show D < 64 by omega), Option.bind_some, ob2_some, if_true, if_false, reduceIte, e2, e3, sA_sA, hnc]
      unfold fm_X11_worked_b158
      rw [show nI D + 1 = nI (D + 1) from nI_1 D]
      exact go _ (by rw [hd2]; exact agr_push hf)
    · rw [hw] at go ⊢
      obtain ⟨E, rfl⟩ : ∃ E, D = E + 1 := ⟨D - 1, by omega⟩
      have x1 : ¬ (2 : Int32) = 0 := by decide
      have x2 : ¬ (2 : Int32) = 1 := by decide
      simp only [tkStep, Option.bind_some, ob2_some, if_true, if_false, reduceIte, x1, x2, or_self] at go
      rw [if_neg x1, if_neg x2, if_pos rfl]
      simp only [gR_89_11, Option.bind_some, ob2_some, if_true, if_false, reduceIte, nI_pred, al_96 _ (show E < 64 by omega), as_96 _ (show E < 64 by omega), e2, sA_sA]
      unfold fm_X11_worked_b158
      rw [hd2, show E + 1 - 1 = E from rfl] at go
      exact go _ (by rw [hf E (by omega)]; exact agr_set hf)
    · rw [hw] at go ⊢
      obtain ⟨E, rfl⟩ : ∃ E, D = E + 2 := ⟨D - 2, by omega⟩
      have x1 : ¬ (3 : Int32) = 0 := by decide
      have x2 : ¬ (3 : Int32) = 1 := by decide
      have x3 : ¬ (3 : Int32) = 2 := by decide
      simp only [tkStep, Option.bind_some, ob2_some, if_true, if_false, reduceIte, x1, x2, x3, or_self] at go
      rw [if_neg x1, if_neg x2, if_neg x3]
      simp only [gR_89_11, Option.bind_some, ob2_some, if_true, if_false, reduceIte, pk_m1, nI_pred, al_96 _ (show E < 64 by omega), al_96 _ (show E + 1 < 64 by omega), as_96 _ (show E < 64 by omega), e2, sA_sA]
      unfold fm_X11_worked_b158
      rw [hd2, show E + 2 - 2 = E from rfl, show E + 2 - 1 = E + 1 from rfl] at go
      exact go _ (by rw [hf E (by omega), hf (E + 1) (by omega)]; exact agr_le (agr_set hf) (by omega))
theorem worked_ok {m : xM2} {u : Nat} {x y z : Int32} (hu : u < 2) (h : txOk (m.1 90) u) (hN : ¬ txN (m.1 90) u ≤ 0) (hnm : ∀ v, isNm u v → ∃ c, c < 128 ∧ v = nI c ∧ m.1 95 c = nmS u x y z v) :
    ∃ f, fm_X11_worked 89 (nI u) (mk m) = some (evT (m.1 90) u x y z, mk (sA m 96 f)) := by
  obtain ⟨N, h1, h2⟩ := h
  have hpos : 1 ≤ N := by
    rcases Nat.eq_zero_or_pos N with q | q
    · subst q
      exact absurd (by rw [h1]; decide) hN
    · exact q
  obtain ⟨f, hf⟩ := worked_loop (nm := nmS u x y z) hu h1 h2 hnm N 0 5000 (by omega) (by have := h2.1; omega) (m.1 96) (fun i hi => absurd hi (by simp [tkD])) (fun q => absurd q (by decide)) hpos
  refine ⟨f, ?_⟩
  unfold fm_X11_worked evT
  rw [h1, nI_clamp (by have := h2.1; omega)]
  rw [sA_self] at hf
  have e : (181 : Int32) + 125 * nI u = nI (181 + 125 * u) := by
    show nI 181 + nI 125 * nI u = _
    rw [pk_mul, nI_add]
  rw [e]
  exact hf
