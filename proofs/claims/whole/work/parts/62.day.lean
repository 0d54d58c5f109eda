/-! A DAY OF THE REFERENCE, as a map of rows -/
def eq181 (s s' : Nat → Int32) : Prop := ∀ j, 181 ≤ j → s' j = s j
theorem eq181.N {s s' : Nat → Int32} (h : eq181 s s') (u : Nat) : txN s' u = txN s u := h _ (by omega)
theorem eq181.W {s s' : Nat → Int32} (h : eq181 s s') (u : Nat) : txW s' u = txW s u := by funext k; exact h _ (by omega)
theorem eq181.V {s s' : Nat → Int32} (h : eq181 s s') (u : Nat) : txV s' u = txV s u := by funext k; exact h _ (by omega)
theorem eq181.ev {s s' : Nat → Int32} (h : eq181 s s') (u : Nat) (x y z : Int32) : evT s' u x y z = evT s u x y z := by unfold evT; rw [h.N, h.W, h.V]
theorem eq181.ok {s s' : Nat → Int32} (h : eq181 s s') {u : Nat} (ho : txOk s u) : txOk s' u := by unfold txOk; rw [h.N, h.W, h.V]; exact ho
theorem holdsS_eq {s s' : Nat → Int32} {k : Nat} (hk : k < 20) (h : eq181 s s') (h2 : ∀ j, j < 88 → s' j = s j) : holdsS s' k = holdsS s k := by
  unfold holdsS rawS slipS toldS
  rw [h.N, h.ev, h2 (8 + 4 * k) (by omega), h2 (8 + 4 * k + 1) (by omega), h2 (8 + 4 * k + 2) (by omega), h2 (8 + 4 * k + 3) (by omega), h2 0 (by omega)]
theorem wearS_eq {s s' : Nat → Int32} {t : Nat} {w : Int32} (h : eq181 s s') (h0 : s' 0 = s 0) (h2 : s' (88 + 3 * t + 2) = s (88 + 3 * t + 2)) : wearS s' t w = wearS s t w := by
  unfold wearS
  rw [h.N, h.ev, h0, h2]
/-- worn by a day, for the threads below i -/
def dw (s : Nat → Int32) (i : Nat) : Nat → Int32 := fun j => if 88 ≤ j ∧ j < 88 + 3 * i ∧ (j - 88) % 3 = 1 ∧ gn s ((j - 88) / 3) = false then fm_X11_held (s j + wearS s ((j - 88) / 3) (s j)) 0 99 else s j
theorem dw_0 {s : Nat → Int32} : dw s 0 = s := by
  funext j
  unfold dw
  rw [if_neg (by omega)]
theorem dw_lo {s : Nat → Int32} {i j : Nat} (h : j < 88 ∨ 181 ≤ j ∧ i ≤ 31) : dw s i j = s j := by
  unfold dw
  rw [if_neg (by omega)]
theorem dw_at {s : Nat → Int32} {i t w : Nat} (hw : w < 3) : dw s i (88 + 3 * t + w) = if t < i ∧ w = 1 ∧ gn s t = false then fm_X11_held (s (88 + 3 * t + w) + wearS s t (s (88 + 3 * t + w))) 0 99 else s (88 + 3 * t + w) := by
  unfold dw
  have e1 : (88 + 3 * t + w - 88) / 3 = t := by omega
  have e2 : (88 + 3 * t + w - 88) % 3 = w := by omega
  rw [e1, e2]
  by_cases h : t < i ∧ w = 1 ∧ gn s t = false
  · rw [if_pos h, if_pos ⟨by omega, by omega, h.2.1, h.2.2⟩]
  · rw [if_neg h, if_neg (fun q => h ⟨by omega, q.2.2.1, q.2.2.2⟩)]
theorem dw_gn {s : Nat → Int32} {i t : Nat} : gn (dw s i) t = gn s t := by
  unfold gn
  rw [show 88 + 3 * t = 88 + 3 * t + 0 from rfl, dw_at (by decide), if_neg (by simp)]
theorem dw_181 {s : Nat → Int32} {i : Nat} (hi : i ≤ 31) : eq181 s (dw s i) := fun j h => dw_lo (Or.inr ⟨h, hi⟩)
theorem row_ext {f g : Nat → Int32} (h1 : ∀ j, j < 88 → f j = g j) (h2 : ∀ t w, t < 31 → w < 3 → f (88 + 3 * t + w) = g (88 + 3 * t + w)) (h3 : ∀ j, 181 ≤ j → f j = g j) : f = g := by
  funext j
  rcases Nat.lt_or_ge j 88 with h | h
  · exact h1 j h
  · rcases Nat.lt_or_ge j 181 with q | q
    · have := h2 ((j - 88) / 3) ((j - 88) % 3) (by omega) (by omega)
      rw [show 88 + 3 * ((j - 88) / 3) + (j - 88) % 3 = j by omega] at this
      exact this
    · exact h3 j q
theorem dw_keep {s : Nat → Int32} {i : Nat} (hi : i < 31) (hg : gn s i = true) : dw s (i + 1) = dw s i := by
  refine row_ext (fun j h => ?_) (fun t w ht hw => ?_) (fun j h => ?_)
  · rw [dw_lo (Or.inl h), dw_lo (Or.inl h)]
  · rw [dw_at hw, dw_at hw]
    by_cases e : t = i
    · subst e
      simp [hg]
    · have : t < i + 1 ↔ t < i := by omega
      simp only [this]
  · rw [dw_lo (Or.inr ⟨h, by omega⟩), dw_lo (Or.inr ⟨h, by omega⟩)]
theorem dw_step {s : Nat → Int32} {i : Nat} (hi : i < 31) (hg : gn s i = false) : upd (dw s i) (88 + 3 * i + 1) (fm_X11_held (s (88 + 3 * i + 1) + wearS s i (s (88 + 3 * i + 1))) 0 99) = dw s (i + 1) := by
  refine row_ext (fun j h => ?_) (fun t w ht hw => ?_) (fun j h => ?_)
  · rw [dw_lo (Or.inl h)]
    unfold upd
    rw [if_neg (by omega), dw_lo (Or.inl h)]
  · rw [dw_at hw]
    unfold upd
    by_cases e : t = i ∧ w = 1
    · obtain ⟨rfl, rfl⟩ := e
      rw [if_pos rfl, if_pos ⟨by omega, rfl, hg⟩]
    · rw [if_neg (by omega), dw_at hw]
      by_cases e2 : t = i
      · subst e2
        have : ¬ w = 1 := fun q => e ⟨rfl, q⟩
        simp [this]
      · have : t < i + 1 ↔ t < i := by omega
        simp only [this]
  · rw [dw_lo (Or.inr ⟨h, by omega⟩)]
    unfold upd
    rw [if_neg (by omega), dw_lo (Or.inr ⟨h, by omega⟩)]
/-- what a day of the reference leaves alone -/
def scD (m m' : xM2) : Prop := m'.2 = m.2 ∧ ∀ a, a ≠ 90 → a ≠ 95 → a ≠ 96 → m'.1 a = m.1 a
theorem scD.tr {m m1 m2 : xM2} (h : scD m m1) (h2 : scD m1 m2) : scD m m2 := ⟨h2.1.trans h.1, fun a x y z => (h2.2 a x y z).trans (h.2 a x y z)⟩
theorem scR.D {m m1 : xM2} (h : scR m m1) : scD m m1 := ⟨h.1, fun a _ y z => h.2 a y z⟩
theorem scD.rf {m : xM2} : scD m m := ⟨rfl, fun _ _ _ _ => rfl⟩
theorem scD.set {m : xM2} {f : Nat → Int32} : scD m (sA m 90 f) := ⟨rfl, fun a h _ _ => sA_n h⟩
theorem day_b2 {s : Nat → Int32} (hx : txOk s 1) : ∀ (j i n : Nat), i + j = 31 → j < n → ∀ m : xM2, m.1 90 = dw s i → ∃ m', scD m m' ∧ m'.1 90 = dw s 31 ∧ fm_X11_day_b2 n 89 (nI i) (mk m) = fm_X11_day_b55 5000 89 0 (mk m') := by
  intro j
  induction j with
  | zero =>
    intro i n hi hn m hm
    obtain ⟨n, rfl⟩ : ∃ n', n = n' + 1 := ⟨n - 1, by omega⟩
    have : i = 31 := by omega
    subst this
    refine ⟨m, scD.rf, hm, ?_⟩
    rw [fm_X11_day_b2, if_pos le31]
  | succ j ih =>
    intro i n hi hn m hm
    obtain ⟨n, rfl⟩ : ∃ n', n = n' + 1 := ⟨n - 1, by omega⟩
    have hi31 : i < 31 := by omega
    rw [fm_X11_day_b2, if_neg (n31 hi31), if_pos (his_89 m), isMissing_ok hi31, Option.bind_some, hm, dw_gn]
    by_cases hg : gn s i = true
    · simp only [hg, Option.bind_some, ob2_some, if_true, if_false, reduceIte, one_ne, fm_X11_day_b47, nI_1]
      exact ih (i + 1) n (by omega) (by omega) m (by rw [hm, dw_keep hi31 hg])
    · have hg : gn s i = false := by simpa using hg
      have hxm : txOk (m.1 90) 1 := by rw [hm]; exact (dw_181 (by omega)).ok hx
      obtain ⟨m1, h1, e1⟩ := wears_ok hi31 hxm
      simp only [hg, Option.bind_some, ob2_some, if_true, if_false, reduceIte, gR_89_0, of1 hi31, fm_X11_day_b47, nI_1, Bool.false_eq_true]
      rw [e1, ob2_some, show ((88 : Int32) + 3 * nI i) + 1 = nI (88 + 3 * i + 1) from ix_of (w := 1), as_90 m1 (show 88 + 3 * i + 1 < 515 by omega), Option.bind_some, h1.s, hm]
      have w0 : dw s i (88 + 3 * i + 1) = s (88 + 3 * i + 1) := by rw [dw_at (by decide), if_neg (by omega)]
      have w2 : dw s i (88 + 3 * i + 2) = s (88 + 3 * i + 2) := by rw [dw_at (by decide), if_neg (by omega)]
      rw [w0, wearS_eq (dw_181 (by omega)) (dw_lo (Or.inl (by decide))) w2, dw_step hi31 hg]
      obtain ⟨m2, h2, e2, e3⟩ := ih (i + 1) n (by omega) (by omega) (sA m1 90 (dw s (i + 1))) sA_s
      exact ⟨m2, (h1.D.tr scD.set).tr h2, e2, e3⟩
/-- the thread dies by this day -/
def dies (s : Nat → Int32) (t : Nat) : Bool := !gn s t && decide (strS s t (dw s 31 (88 + 3 * t + 1)) ≤ 0)
def dl (s : Nat → Int32) (i : Nat) : Nat → Int32 := fun j => if 88 ≤ j ∧ j < 88 + 3 * i ∧ (j - 88) % 3 ≠ 2 ∧ dies s ((j - 88) / 3) = true then 0 else dw s 31 j
theorem dl_0 {s : Nat → Int32} : dl s 0 = dw s 31 := by
  funext j
  unfold dl
  rw [if_neg (by omega)]
theorem dl_lo {s : Nat → Int32} {i j : Nat} (h : j < 88 ∨ 181 ≤ j ∧ i ≤ 31) : dl s i j = s j := by
  unfold dl
  rw [if_neg (by omega), dw_lo (by omega)]
theorem dl_at {s : Nat → Int32} {i t w : Nat} (hw : w < 3) : dl s i (88 + 3 * t + w) = if t < i ∧ w ≠ 2 ∧ dies s t = true then 0 else dw s 31 (88 + 3 * t + w) := by
  unfold dl
  have e1 : (88 + 3 * t + w - 88) / 3 = t := by omega
  have e2 : (88 + 3 * t + w - 88) % 3 = w := by omega
  rw [e1, e2]
  by_cases h : t < i ∧ w ≠ 2 ∧ dies s t = true
  · rw [if_pos h, if_pos ⟨by omega, by omega, h.2.1, h.2.2⟩]
  · rw [if_neg h, if_neg (fun q => h ⟨by omega, q.2.2.1, q.2.2.2⟩)]
theorem dl_181 {s : Nat → Int32} {i : Nat} (hi : i ≤ 31) : eq181 s (dl s i) := fun j h => dl_lo (Or.inr ⟨h, hi⟩)
theorem dl_keep {s : Nat → Int32} {i : Nat} (hi : i < 31) (hg : dies s i = false) : dl s (i + 1) = dl s i := by
  refine row_ext (fun j h => ?_) (fun t w ht hw => ?_) (fun j h => ?_)
  · rw [dl_lo (Or.inl h), dl_lo (Or.inl h)]
  · rw [dl_at hw, dl_at hw]
    by_cases e : t = i
    · subst e
      simp [hg]
    · have : t < i + 1 ↔ t < i := by omega
      simp only [this]
  · rw [dl_lo (Or.inr ⟨h, by omega⟩), dl_lo (Or.inr ⟨h, by omega⟩)]
theorem dl_step {s : Nat → Int32} {i : Nat} (hi : i < 31) (hg : dies s i = true) : upd (upd (dl s i) (88 + 3 * i + 0) 0) (88 + 3 * i + 1) 0 = dl s (i + 1) := by
  refine row_ext (fun j h => ?_) (fun t w ht hw => ?_) (fun j h => ?_)
  · rw [dl_lo (Or.inl h)]
    unfold upd
    rw [if_neg (by omega), if_neg (by omega), dl_lo (Or.inl h)]
  · rw [dl_at hw]
    unfold upd
    by_cases e : t = i
    · subst e
      by_cases e1 : w = 1
      · subst e1
        rw [if_pos rfl, if_pos ⟨by omega, by decide, hg⟩]
      · rw [if_neg (by omega)]
        by_cases e0 : w = 0
        · subst e0
          rw [if_pos rfl, if_pos ⟨by omega, by decide, hg⟩]
        · have e2 : w = 2 := by omega
          subst e2
          rw [if_neg (by omega), dl_at hw]
          simp
    · rw [if_neg (by omega), if_neg (by omega), dl_at hw]
      have : t < i + 1 ↔ t < i := by omega
      simp only [this]
  · rw [dl_lo (Or.inr ⟨h, by omega⟩)]
    unfold upd
    rw [if_neg (by omega), if_neg (by omega), dl_lo (Or.inr ⟨h, by omega⟩)]
theorem loses_ok {m : xM2} {t : Nat} (ht : t < 31) : fm_X11_loses 89 (nI t) (mk m) = some (mk (sA m 90 (upd (upd (m.1 90) (88 + 3 * t + 0) 0) (88 + 3 * t + 1) 0))) := by
  unfold fm_X11_loses
  simp only [gR_89_0, Option.bind_some, ob2_some, if_true, if_false, reduceIte, show ((88 : Int32) + 3 * nI t) + 0 = nI (88 + 3 * t + 0) from ix_of (w := 0), show ((88 : Int32) + 3 * nI t) + 1 = nI (88 + 3 * t + 1) from ix_of (w := 1), as_90 _ (show 88 + 3 * t + 0 < 515 by omega), as_90 _ (show 88 + 3 * t + 1 < 515 by omega), sA_s, sA_sA]
def dayS (s : Nat → Int32) : Nat → Int32 := upd (dl s 31) 0 (s 0 + 1)
theorem day_b55 {s : Nat → Int32} (hx : txOk s 0) : ∀ (j i n : Nat), i + j = 31 → j < n → ∀ m : xM2, m.1 90 = dl s i → ∃ m', scD m m' ∧ m'.1 90 = dayS s ∧ fm_X11_day_b55 n 89 (nI i) (mk m) = some (mk m') := by
  intro j
  induction j with
  | zero =>
    intro i n hi hn m hm
    obtain ⟨n, rfl⟩ : ∃ n', n = n' + 1 := ⟨n - 1, by omega⟩
    have : i = 31 := by omega
    subst this
    refine ⟨sA m 90 (dayS s), scD.set, sA_s, ?_⟩
    have a0 : ∀ x, hp_ast (mk m) 90 0 x = some (mk (sA m 90 (upd (m.1 90) 0 x))) := fun x => as_90 m (i := 0) (by decide)
    rw [fm_X11_day_b55, if_pos le31]
    simp only [gR_89_0, Option.bind_some, ob2_some, if_true, if_false, reduceIte, al0, a0, hm]
    rw [dl_lo (Or.inl (by decide))]
    rfl
  | succ j ih =>
    intro i n hi hn m hm
    obtain ⟨n, rfl⟩ : ∃ n', n = n' + 1 := ⟨n - 1, by omega⟩
    have hi31 : i < 31 := by omega
    have g0 : gn (dl s i) i = gn s i := by
      unfold gn
      rw [show 88 + 3 * i = 88 + 3 * i + 0 from rfl, dl_at (by decide), if_neg (by omega), dw_at (by decide), if_neg (by simp)]
    rw [fm_X11_day_b55, if_neg (n31 hi31), if_pos (his_89 m), isMissing_ok hi31, Option.bind_some, hm, g0]
    by_cases hg : gn s i = true
    · simp only [hg, Option.bind_some, ob2_some, if_true, if_false, reduceIte, one_ne, fm_X11_day_b82, nI_1]
      exact ih (i + 1) n (by omega) (by omega) m (by rw [hm, dl_keep hi31 (by simp [dies, hg])])
    · have hg : gn s i = false := by simpa using hg
      have hxm : txOk (m.1 90) 0 := by rw [hm]; exact (dl_181 (by omega)).ok hx
      obtain ⟨m1, h1, e1⟩ := strength_ok hi31 hxm
      simp only [hg, Option.bind_some, ob2_some, if_true, if_false, reduceIte, fm_X11_day_b82, nI_1, Bool.false_eq_true]
      rw [e1, ob2_some, hm]
      have w1 : dl s i (88 + 3 * i + 1) = dw s 31 (88 + 3 * i + 1) := by rw [dl_at (by decide), if_neg (by omega)]
      have s1 : strS (dl s i) i (dl s i (88 + 3 * i + 1)) = strS s i (dw s 31 (88 + 3 * i + 1)) := by
        unfold strS
        rw [holdsS_eq (kL_lt i hi31) (dl_181 (by omega)) (fun j h => dl_lo (Or.inl h)), holdsS_eq (kR_lt i hi31) (dl_181 (by omega)) (fun j h => dl_lo (Or.inl h)), w1]
      rw [s1]
      have hm1 : m1.1 90 = dl s i := by rw [h1.s, hm]
      by_cases hd : 0 < strS s i (dw s 31 (88 + 3 * i + 1))
      · rw [if_pos hd]
        obtain ⟨m2, h2, e2, e3⟩ := ih (i + 1) n (by omega) (by omega) m1 (by rw [hm1, dl_keep hi31 (by simp [dies, hg, Int32.not_le.mpr hd])])
        exact ⟨m2, h1.D.tr h2, e2, e3⟩
      · rw [if_neg hd, if_pos (his_89 m1), loses_ok hi31, Option.bind_some, hm1, dl_step hi31 (by simp [dies, hg, Int32.not_lt.mp hd])]
        obtain ⟨m2, h2, e2, e3⟩ := ih (i + 1) n (by omega) (by omega) (sA m1 90 (dl s (i + 1))) sA_s
        exact ⟨m2, (h1.D.tr scD.set).tr h2, e2, e3⟩
theorem day_ok {m : xM2} (h0 : txOk (m.1 90) 0) (h1 : txOk (m.1 90) 1) : ∃ m', scD m m' ∧ m'.1 90 = dayS (m.1 90) ∧ fm_X11_day 89 (mk m) = some (mk m') := by
  obtain ⟨m1, a1, a2, a3⟩ := day_b2 h1 31 0 5000 rfl (by decide) m dw_0.symm
  obtain ⟨m2, b1, b2, b3⟩ := day_b55 h0 31 0 5000 rfl (by decide) m1 (by rw [a2, dl_0])
  refine ⟨m2, a1.tr b1, b2, ?_⟩
  unfold fm_X11_day
  exact a3.trans b3
