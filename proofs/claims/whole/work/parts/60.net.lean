/-! THE CLASS'S NET AGAINST A ROW -/
theorem heldW {v lo hi : Int32} (h : lo ≤ hi) : fm_X10_heldWithin v lo hi = fm_X11_held v lo hi := by
  unfold fm_X10_heldWithin fm_X11_held ji_max ji_min
  by_cases h1 : lo ≤ v
  · rw [if_pos h1]
    by_cases h2 : v ≤ hi
    · rw [if_pos h2]
      by_cases h3 : v < hi
      · rw [if_pos h3]
        by_cases h4 : lo < v
        · rw [if_pos h4]
        · rw [if_neg h4]
          exact Int32.le_antisymm h1 (Int32.not_lt.mp h4)
      · rw [if_neg h3]
        have e : v = hi := Int32.le_antisymm h2 (Int32.not_lt.mp h3)
        subst e
        by_cases h4 : lo < v
        · rw [if_pos h4]
        · rw [if_neg h4]
          exact Int32.le_antisymm h1 (Int32.not_lt.mp h4)
    · rw [if_neg h2, if_neg (fun q => h2 (Int32.le_of_lt q))]
      by_cases h4 : lo < hi
      · rw [if_pos h4]
      · rw [if_neg h4]
        exact Int32.le_antisymm h (Int32.not_lt.mp h4)
  · rw [if_neg h1]
    have hv : v < lo := Int32.not_le.mp h1
    rw [if_pos (Int32.lt_of_lt_of_le hv h), if_neg (fun q => h1 (Int32.le_of_lt q))]
theorem min9 {x : Int32} (h : 0 ≤ x) : ji_min x 9 = fm_X11_held x 0 9 := by
  unfold ji_min fm_X11_held
  rw [if_pos h]
  by_cases h2 : x ≤ 9
  · rw [if_pos h2, if_neg (Int32.not_lt.mpr h2)]
  · rw [if_neg h2, if_pos (Int32.not_le.mp h2)]
def netR (m : xM2) (o : Nat) (s : Nat → Int32) : Prop :=
  (∀ k, k < 20 → m.1 (o + 1) k = s (8 + 4 * k)) ∧ (∀ k, k < 20 → m.1 (o + 2) k = s (8 + 4 * k + 1)) ∧ (∀ k, k < 20 → m.1 (o + 3) k = s (8 + 4 * k + 2)) ∧ (∀ k, k < 20 → m.1 (o + 4) k = s (8 + 4 * k + 3)) ∧
  (∀ t, t < 31 → m.1 (o + 5) t = s (88 + 3 * t + 1)) ∧ (∀ t, t < 31 → m.1 (o + 6) t = s (88 + 3 * t + 2)) ∧ m.2 o 9 = goneS s ∧ m.2 o 10 = s 0 ∧ lawR m (o + 8) 0 s ∧ lawR m (o + 11) 1 s
/-- a net's scratch rows -/
def scX (o : Nat) (m m' : xM2) : Prop := m'.2 = m.2 ∧ ∀ a, a ≠ o + 7 → a ≠ o + 10 → a ≠ o + 13 → m'.1 a = m.1 a
def scC (o : Nat) (m m' : xM2) : Prop := m'.2 = m.2 ∧ ∀ a, a ≠ o + 10 → a ≠ o + 13 → m'.1 a = m.1 a
theorem scC.X {o : Nat} {m m' : xM2} (h : scC o m m') : scX o m m' := ⟨h.1, fun a _ y z => h.2 a y z⟩
theorem scC.rf {o : Nat} {m : xM2} : scC o m m := ⟨rfl, fun _ _ _ => rfl⟩
theorem scC.tr {o : Nat} {m m1 m2 : xM2} (h : scC o m m1) (h2 : scC o m1 m2) : scC o m m2 := ⟨h2.1.trans h.1, fun a x y => (h2.2 a x y).trans (h.2 a x y)⟩
theorem lawR.sc {o L u : Nat} {m m' : xM2} {s : Nat → Int32} (h : lawR m L u s) (hs : scX o m m') (h1 : L + 1 ≠ o + 7) (h2 : L + 1 ≠ o + 10) (h3 : L + 1 ≠ o + 13) : lawR m' L u s :=
  ⟨by rw [hs.1]; exact h.1, fun N a b k c => by rw [hs.2 _ h1 h2 h3]; exact h.2 N a b k c⟩
theorem netR.scx {o : Nat} {m m' : xM2} {s : Nat → Int32} (h : netR m o s) (hs : scX o m m') : netR m' o s := by
  obtain ⟨a1, a2, a3, a4, a5, a6, a7, a8, a9, b1⟩ := h
  have e : ∀ d, d ≠ 7 → d ≠ 10 → d ≠ 13 → m'.1 (o + d) = m.1 (o + d) := fun d x y z => hs.2 _ (by omega) (by omega) (by omega)
  refine ⟨?_, ?_, ?_, ?_, ?_, ?_, by rw [hs.1]; exact a7, by rw [hs.1]; exact a8, a9.sc hs (by omega) (by omega) (by omega), b1.sc hs (by omega) (by omega) (by omega)⟩
  · rw [e 1 (by decide) (by decide) (by decide)]; exact a1
  · rw [e 2 (by decide) (by decide) (by decide)]; exact a2
  · rw [e 3 (by decide) (by decide) (by decide)]; exact a3
  · rw [e 4 (by decide) (by decide) (by decide)]; exact a4
  · rw [e 5 (by decide) (by decide) (by decide)]; exact a5
  · rw [e 6 (by decide) (by decide) (by decide)]; exact a6
theorem netR.sc {o : Nat} {m m' : xM2} {s : Nat → Int32} (h : netR m o s) (hs : scC o m m') : netR m' o s := h.scx hs.X
/-- bounds of a row that days keep (B: the last day) -/
def dayOk (s : Nat → Int32) (B : Nat) : Prop := txOk s 0 ∧ txOk s 1 ∧ (∃ d, d ≤ B ∧ s 0 = nI d ∧ ∀ k, k < 20 → ∃ e, e ≤ d ∧ s (8 + 4 * k + 3) = nI e) ∧ (∀ t, t < 31 → ∃ w, w ≤ 99 ∧ s (88 + 3 * t + 1) = nI w) ∧ ∀ t, t < 31 → s (88 + 3 * t) = 0 → s (88 + 3 * t + 1) = 0
theorem dayOk.since {s : Nat → Int32} {B k : Nat} (h : dayOk s B) (hB : B < 100000) (hk : k < 20) : 0 ≤ s 0 - s (8 + 4 * k + 3) := by
  obtain ⟨-, -, ⟨d, hd, e0, hd2⟩, -, -⟩ := h
  obtain ⟨e, he, e1⟩ := hd2 k hk
  rw [e0, e1, pk_sub he]
  exact nI_pos' (by omega)
theorem holdsOf_ok {m : xM2} {o k B : Nat} {s : Nat → Int32} (ho : isNet o) (hR : netR m o s) (hd : dayOk s B) (hB : B < 100000) (hk : k < 20) : ∃ m', scC o m m' ∧ fm_X5_holdsOf o (nI k) (mk m) = some (holdsS s k, mk m') := by
  have hs0 := hd.since hB hk
  obtain ⟨a1, a2, a3, a4, a5, a6, a7, a8, a9, b1⟩ := id hR
  have hL := nt_law0 ho
  unfold fm_X5_holdsOf holdsS rawS
  simp only [ntR0 ho, ntR1 ho, ntR2 ho, ntR3 ho, ntI10 ho, Option.bind_some, ob2_some, if_true, if_false, reduceIte, ntA1 ho _ hk, ntA2 ho _ hk, ntA3 ho _ hk, ntA4 ho _ hk, a1 k hk, a2 k hk, a3 k hk, a4 k hk, a8, fm_X5_holdsOf_b167, fm_X5_holdsOf_b158, min9 hs0, ntR7 ho, heldW (show (0 : Int32) ≤ 99 by decide)]
  have sl : (20 + s (8 + 4 * k + 1)) / 2 - fm_X11_held (s 0 - s (8 + 4 * k + 3)) 0 9 = slipS s k := rfl
  rw [sl]
  by_cases h1 : s (8 + 4 * k) = 1
  · exact ⟨m, scC.rf, by rw [if_pos h1, if_pos h1]⟩
  · by_cases h2 : s (8 + 4 * k) = 2
    · exact ⟨m, scC.rf, by rw [if_neg h1, if_pos h2, if_neg h1, if_pos h2]⟩
    · by_cases h3 : s (8 + 4 * k) = 3
      · exact ⟨m, scC.rf, by rw [if_neg h1, if_neg h2, if_pos h3, if_neg h1, if_neg h2, if_pos h3]⟩
      · by_cases h4 : s (8 + 4 * k) = 4
        · exact ⟨m, scC.rf, by rw [if_neg h1, if_neg h2, if_neg h3, if_pos h4, if_neg h1, if_neg h2, if_neg h3, if_pos h4]⟩
        · by_cases h5 : s (8 + 4 * k) = 5
          · exact ⟨m, scC.rf, by rw [if_neg h1, if_neg h2, if_neg h3, if_neg h4, if_pos h5, if_neg h1, if_neg h2, if_neg h3, if_neg h4, if_pos h5]⟩
          · by_cases h6 : s (8 + 4 * k) = 6
            · rw [if_neg h1, if_neg h2, if_neg h3, if_neg h4, if_neg h5, if_pos h6, if_neg h1, if_neg h2, if_neg h3, if_neg h4, if_neg h5, if_pos h6]
              rw [if_pos (lwH hL m), isThere_ok hL a9, Option.bind_some]
              unfold toldS
              by_cases hT : txN s 0 ≤ 0
              · exact ⟨m, scC.rf, by simp only [hT, Option.bind_some, ob2_some, if_true, if_false, reduceIte]⟩
              · obtain ⟨f, hf⟩ := worth_ok (s (8 + 4 * k + 1)) (s 0 - s (8 + 4 * k + 3)) (s (8 + 4 * k + 2)) hL a9 hd.1 hT
                refine ⟨sA m (o + 8 + 2) f, ⟨rfl, fun a x y => sA_n (by omega)⟩, ?_⟩
                simp only [hT, Option.bind_some, ob2_some, if_true, if_false, reduceIte, one_ne, lwH hL]
                rw [hf]
                rfl
            · exact ⟨m, scC.rf, by rw [if_neg h1, if_neg h2, if_neg h3, if_neg h4, if_neg h5, if_neg h6, if_neg h1, if_neg h2, if_neg h3, if_neg h4, if_neg h5, if_neg h6]⟩
theorem wearsOf_ok {m : xM2} {o t B : Nat} {s : Nat → Int32} (ho : isNet o) (hR : netR m o s) (hd : dayOk s B) (ht : t < 31) : ∃ m', scC o m m' ∧ fm_X5_wearsOf o (nI t) (mk m) = some (wearS s t (s (88 + 3 * t + 1)), mk m') := by
  obtain ⟨a1, a2, a3, a4, a5, a6, a7, a8, a9, b1⟩ := id hR
  have hL := nt_law1 ho
  unfold fm_X5_wearsOf wearS
  simp only [ntR8 ho, ntR4 ho, ntR5 ho, ntI10 ho, Option.bind_some, ob2_some, if_true, if_false, reduceIte, ntA5 ho _ ht, ntA6 ho _ ht, a5 t ht, a6 t ht, a8, lwH hL, isThere_ok hL b1, heldW (show (0 : Int32) ≤ 20 by decide)]
  by_cases hT : txN s 1 ≤ 0
  · refine ⟨m, scC.rf, ?_⟩
    simp only [hT, Option.bind_some, ob2_some, if_true, if_false, reduceIte]
    rw [show fm_X11_held 1 0 20 = 1 from by decide]
  · obtain ⟨f, hf⟩ := worth_ok (nI t) (s (88 + 3 * t + 1)) (s 0 - s (88 + 3 * t + 2)) hL b1 hd.2.1 hT
    refine ⟨sA m (o + 11 + 2) f, ⟨rfl, fun a x y => sA_n (by omega)⟩, ?_⟩
    simp only [hT, Option.bind_some, ob2_some, if_true, if_false, reduceIte, one_ne]
    rw [hf]
    rfl
theorem bt_gone {s : Nat → Int32} {t : Nat} (ht : t < 31) : bt (goneS s) t = gn s t := by
  unfold goneS
  rw [bt_enc (by decide) (by omega)]
  simp [ht]
theorem nmiss_ok {m : xM2} {o t : Nat} {s : Nat → Int32} (ho : isNet o) (hR : m.2 o 9 = goneS s) (ht : t < 31) : fm_X5_isMissing o (nI t) (mk m) = some (if gn s t then 1 else 0) := by
  unfold fm_X5_isMissing
  rw [ntI9 ho, Option.bind_some, hR, bt_in (by omega), bt_gone ht]
  cases gn s t <;> simp
theorem strengthOf_ok {m : xM2} {o t B : Nat} {s : Nat → Int32} (ho : isNet o) (hR : netR m o s) (hd : dayOk s B) (hB : B < 100000) (ht : t < 31) : ∃ m', scC o m m' ∧ fm_X5_strengthOf o (nI t) (mk m) = some (strS s t (s (88 + 3 * t + 1)), mk m') := by
  obtain ⟨m1, h1, e1⟩ := holdsOf_ok ho hR hd hB (kL_lt t ht)
  obtain ⟨m2, h2, e2⟩ := holdsOf_ok ho (hR.sc h1) hd hB (kR_lt t ht)
  refine ⟨m2, h1.tr h2, ?_⟩
  have hR2 := (hR.sc h1).sc h2
  unfold fm_X5_strengthOf
  rw [if_pos (ntH ho m), lesser_eq t ht, e1, ob2_some, if_pos (ntH ho m1), greater_eq t ht, e2, ob2_some, ntR4 ho, Option.bind_some, ntA5 ho _ ht, Option.bind_some, hR2.2.2.2.2.1 t ht]
  rfl
