/-! WHAT A KNOT HOLDS, WHAT A THREAD WEARS: both sides -/
theorem al0 (m : xM2) : hp_ald (mk m) 90 0 = some (m.1 90 0) := al_90 m (i := 0) (by decide)
def slipS (s : Nat → Int32) (k : Nat) : Int32 := (20 + s (8 + 4 * k + 1)) / 2 - fm_X11_held (s 0 - s (8 + 4 * k + 3)) 0 9
def toldS (s : Nat → Int32) (k : Nat) : Int32 := if txN s 0 ≤ 0 then 20 + s (8 + 4 * k + 1) else evT s 0 (s (8 + 4 * k + 1)) (s 0 - s (8 + 4 * k + 3)) (s (8 + 4 * k + 2))
def rawS (s : Nat → Int32) (k : Nat) : Int32 := if s (8 + 4 * k) = 1 then slipS s k else if s (8 + 4 * k) = 2 then 2 * (20 + s (8 + 4 * k + 1)) else if s (8 + 4 * k) = 3 then 10 else if s (8 + 4 * k) = 4 then slipS s k + s (8 + 4 * k + 1) else if s (8 + 4 * k) = 5 then 2 * (20 + s (8 + 4 * k + 1)) - 15 else if s (8 + 4 * k) = 6 then toldS s k else 20 + s (8 + 4 * k + 1)
def holdsS (s : Nat → Int32) (k : Nat) : Int32 := fm_X11_held (rawS s k) 0 99
/-- the reference's scratch rows for texts -/
def scR (m m' : xM2) : Prop := m'.2 = m.2 ∧ ∀ a, a ≠ 95 → a ≠ 96 → m'.1 a = m.1 a
theorem scR.rf {m : xM2} : scR m m := ⟨rfl, fun _ _ _ => rfl⟩
theorem scR.tr {m m1 m2 : xM2} (h : scR m m1) (h2 : scR m1 m2) : scR m m2 := ⟨h2.1.trans h.1, fun a x y => (h2.2 a x y).trans (h.2 a x y)⟩
theorem scR.s {m m1 : xM2} (h : scR m m1) : m1.1 90 = m.1 90 := h.2 90 (by decide) (by decide)
theorem hasText_ok {m : xM2} {u : Nat} (hu : u < 2) : fm_X11_hasText 89 (nI u) (mk m) = some (if txN (m.1 90) u ≤ 0 then 0 else 1) := by
  have e : (181 : Int32) + 125 * nI u = nI (181 + 125 * u) := by
    show nI 181 + nI 125 * nI u = _
    rw [pk_mul, nI_add]
  simp only [fm_X11_hasText, gR_89_0, Option.bind_some, ob2_some, if_true, if_false, reduceIte, e, al_90 m (show 181 + 125 * u < 515 by omega)]
  show (if txN (m.1 90) u ≤ 0 then some 0 else some 1) = _
  by_cases h : txN (m.1 90) u ≤ 0 <;> simp [h]
theorem nm3 {f : Nat → Int32} {x y z : Int32} : ∀ v, isNm 0 v → ∃ c, c < 128 ∧ v = nI c ∧ upd (upd (upd f 109 x) 100 y) 104 z c = nmS 0 x y z v := by
  intro v h
  unfold isNm at h
  rw [if_pos rfl] at h
  rcases h with rfl | rfl | rfl
  · exact ⟨109, by decide, by decide, rfl⟩
  · exact ⟨100, by decide, by decide, rfl⟩
  · exact ⟨104, by decide, by decide, rfl⟩
theorem nm4 {f : Nat → Int32} {x y z : Int32} : ∀ v, isNm 1 v → ∃ c, c < 128 ∧ v = nI c ∧ upd (upd (upd f 116 x) 119 y) 97 z c = nmS 1 x y z v := by
  intro v h
  unfold isNm at h
  rw [if_neg (by decide)] at h
  rcases h with rfl | rfl | rfl
  · exact ⟨116, by decide, by decide, rfl⟩
  · exact ⟨119, by decide, by decide, rfl⟩
  · exact ⟨97, by decide, by decide, rfl⟩
theorem holdsTold_ok {m : xM2} {k : Nat} (hk : k < 20) (ht : txOk (m.1 90) 0) : ∃ m', scR m m' ∧ fm_X11_holdsTold 89 (nI k) (mk m) = some (toldS (m.1 90) k, mk m') := by
  have h0 := hasText_ok (m := m) (u := 0) (by decide)
  rw [show nI 0 = (0 : Int32) from rfl] at h0
  unfold fm_X11_holdsTold toldS
  rw [if_pos (his_89 m), h0, Option.bind_some]
  by_cases hT : txN (m.1 90) 0 ≤ 0
  · refine ⟨m, scR.rf, ?_⟩
    simp only [hT, Option.bind_some, ob2_some, if_true, if_false, reduceIte, its1 hk]
  · have a1 : ∀ (m : xM2) (x : Int32), hp_ast (mk m) 95 109 x = some (mk (sA m 95 (upd (m.1 95) 109 x))) := fun m x => as_95 m (i := 109) (by decide)
    have a2 : ∀ (m : xM2) (x : Int32), hp_ast (mk m) 95 100 x = some (mk (sA m 95 (upd (m.1 95) 100 x))) := fun m x => as_95 m (i := 100) (by decide)
    have a3 : ∀ (m : xM2) (x : Int32), hp_ast (mk m) 95 104 x = some (mk (sA m 95 (upd (m.1 95) 104 x))) := fun m x => as_95 m (i := 104) (by decide)
    have n90 : ∀ f, (sA m 95 f).1 90 = m.1 90 := fun f => sA_n (by decide)
    simp only [hT, Option.bind_some, ob2_some, if_true, if_false, reduceIte, one_ne, gR_89_10, gR_89_0, its1 hk, its2 hk, its3 hk, a1, a2, a3, al0, his_89, sA_s, sA_sA, n90]
    obtain ⟨f, hf⟩ := worked_ok (m := sA m 95 (upd (upd (upd (m.1 95) 109 (m.1 90 (8 + 4 * k + 1))) 100 (m.1 90 0 - m.1 90 (8 + 4 * k + 3))) 104 (m.1 90 (8 + 4 * k + 2)))) (u := 0) (x := m.1 90 (8 + 4 * k + 1)) (y := m.1 90 0 - m.1 90 (8 + 4 * k + 3)) (z := m.1 90 (8 + 4 * k + 2)) (by decide) (by rw [n90]; exact ht) (by rw [n90]; exact hT) (by rw [sA_s]; exact nm3)
    rw [n90, show nI 0 = (0 : Int32) from rfl] at hf
    rw [hf]
    refine ⟨sA (sA m 95 _) 96 f, ⟨rfl, fun a h5 h6 => ?_⟩, rfl⟩
    rw [sA_n h6, sA_n h5]
theorem slipped_ok {m : xM2} {k : Nat} (hk : k < 20) : fm_X11_slipped 89 (nI k) (mk m) = some (slipS (m.1 90) k) := by
  simp only [fm_X11_slipped, his_89, Option.bind_some, ob2_some, if_true, if_false, reduceIte, its1 hk, gR_89_0, al0, its3 hk, slipS]
theorem holds_ok {m : xM2} {k : Nat} (hk : k < 20) (ht : txOk (m.1 90) 0) : ∃ m', scR m m' ∧ fm_X11_holds 89 (nI k) (mk m) = some (holdsS (m.1 90) k, mk m') := by
  unfold fm_X11_holds holdsS rawS
  simp only [his_89, Option.bind_some, ob2_some, if_true, if_false, reduceIte, its1 hk, its0 hk, fm_X11_holds_b114, slipped_ok hk]
  by_cases h1 : m.1 90 (8 + 4 * k) = 1
  · exact ⟨m, scR.rf, by simp only [h1, Option.bind_some, ob2_some, if_true, if_false, reduceIte]⟩
  · by_cases h2 : m.1 90 (8 + 4 * k) = 2
    · exact ⟨m, scR.rf, by rw [if_neg h1, if_pos h2, if_neg h1, if_pos h2]⟩
    · by_cases h3 : m.1 90 (8 + 4 * k) = 3
      · exact ⟨m, scR.rf, by rw [if_neg h1, if_neg h2, if_pos h3, if_neg h1, if_neg h2, if_pos h3]⟩
      · by_cases h4 : m.1 90 (8 + 4 * k) = 4
        · exact ⟨m, scR.rf, by rw [if_neg h1, if_neg h2, if_neg h3, if_pos h4, if_neg h1, if_neg h2, if_neg h3, if_pos h4]⟩
        · by_cases h5 : m.1 90 (8 + 4 * k) = 5
          · exact ⟨m, scR.rf, by rw [if_neg h1, if_neg h2, if_neg h3, if_neg h4, if_pos h5, if_neg h1, if_neg h2, if_neg h3, if_neg h4, if_pos h5]⟩
          · by_cases h6 : m.1 90 (8 + 4 * k) = 6
            · obtain ⟨m', hs, hf⟩ := holdsTold_ok hk ht
              refine ⟨m', hs, ?_⟩
              rw [if_neg h1, if_neg h2, if_neg h3, if_neg h4, if_neg h5, if_pos h6, if_neg h1, if_neg h2, if_neg h3, if_neg h4, if_neg h5, if_pos h6, hf]
              rfl
            · exact ⟨m, scR.rf, by rw [if_neg h1, if_neg h2, if_neg h3, if_neg h4, if_neg h5, if_neg h6, if_neg h1, if_neg h2, if_neg h3, if_neg h4, if_neg h5, if_neg h6]⟩
def kL (t : Nat) : Nat := if t < 16 then 5 * (t / 4) + t % 4 else t - 16
def kR (t : Nat) : Nat := if t < 16 then kL t + 1 else kL t + 5
theorem lessOf_eq : ∀ t, t < 31 → fm_X11_lessOf (nI t) = nI (kL t) := by decide +kernel
theorem otherOf_eq : ∀ t, t < 31 → fm_X11_otherOf (nI t) = nI (kR t) := by decide +kernel
theorem lesser_eq : ∀ t, t < 31 → fm_X0_lesserKnot (nI t) = nI (kL t) := by decide +kernel
theorem greater_eq : ∀ t, t < 31 → fm_X0_greaterKnot (nI t) = nI (kR t) := by decide +kernel
theorem kL_lt : ∀ t, t < 31 → kL t < 20 := by decide +kernel
theorem kR_lt : ∀ t, t < 31 → kR t < 20 := by decide +kernel
def strS (s : Nat → Int32) (t : Nat) (w : Int32) : Int32 := holdsS s (kL t) + holdsS s (kR t) - w
theorem strength_ok {m : xM2} {t : Nat} (ht : t < 31) (hx : txOk (m.1 90) 0) : ∃ m', scR m m' ∧ fm_X11_strength 89 (nI t) (mk m) = some (strS (m.1 90) t (m.1 90 (88 + 3 * t + 1)), mk m') := by
  obtain ⟨m1, h1, e1⟩ := holds_ok (kL_lt t ht) hx
  obtain ⟨m2, h2, e2⟩ := holds_ok (m := m1) (kR_lt t ht) (by rw [h1.s]; exact hx)
  refine ⟨m2, h1.tr h2, ?_⟩
  unfold fm_X11_strength
  rw [if_pos (his_89 m), lessOf_eq t ht, e1, ob2_some, if_pos (his_89 m1), otherOf_eq t ht, e2, ob2_some, if_pos (his_89 m2), of1 ht, Option.bind_some, (h1.tr h2).s, h1.s]
  rfl
def wearS (s : Nat → Int32) (t : Nat) (w : Int32) : Int32 := fm_X11_held (if txN s 1 ≤ 0 then 1 else evT s 1 (nI t) w (s 0 - s (88 + 3 * t + 2))) 0 20
theorem wears_ok {m : xM2} {t : Nat} (ht : t < 31) (hx : txOk (m.1 90) 1) : ∃ m', scR m m' ∧ fm_X11_wears 89 (nI t) (mk m) = some (wearS (m.1 90) t (m.1 90 (88 + 3 * t + 1)), mk m') := by
  have h0 := hasText_ok (m := m) (u := 1) (by decide)
  rw [show nI 1 = (1 : Int32) from rfl] at h0
  unfold fm_X11_wears wearS
  rw [if_pos (his_89 m), h0, Option.bind_some]
  by_cases hT : txN (m.1 90) 1 ≤ 0
  · exact ⟨m, scR.rf, by simp only [hT, Option.bind_some, ob2_some, if_true, if_false, reduceIte, fm_X11_wears_b57]⟩
  · have a1 : ∀ (m : xM2) (x : Int32), hp_ast (mk m) 95 116 x = some (mk (sA m 95 (upd (m.1 95) 116 x))) := fun m x => as_95 m (i := 116) (by decide)
    have a2 : ∀ (m : xM2) (x : Int32), hp_ast (mk m) 95 119 x = some (mk (sA m 95 (upd (m.1 95) 119 x))) := fun m x => as_95 m (i := 119) (by decide)
    have a3 : ∀ (m : xM2) (x : Int32), hp_ast (mk m) 95 97 x = some (mk (sA m 95 (upd (m.1 95) 97 x))) := fun m x => as_95 m (i := 97) (by decide)
    have n90 : ∀ f, (sA m 95 f).1 90 = m.1 90 := fun f => sA_n (by decide)
    simp only [hT, Option.bind_some, ob2_some, if_true, if_false, reduceIte, one_ne, gR_89_10, gR_89_0, of1 ht, of2 ht, a1, a2, a3, al0, his_89, sA_s, sA_sA, n90]
    obtain ⟨f, hf⟩ := worked_ok (m := sA m 95 (upd (upd (upd (m.1 95) 116 (nI t)) 119 (m.1 90 (88 + 3 * t + 1))) 97 (m.1 90 0 - m.1 90 (88 + 3 * t + 2)))) (u := 1) (x := nI t) (y := m.1 90 (88 + 3 * t + 1)) (z := m.1 90 0 - m.1 90 (88 + 3 * t + 2)) (by decide) (by rw [n90]; exact hx) (by rw [n90]; exact hT) (by rw [sA_s]; exact nm4)
    rw [n90, show nI 1 = (1 : Int32) from rfl] at hf
    rw [hf, ob2_some]
    refine ⟨sA (sA m 95 _) 96 f, ⟨rfl, fun a h5 h6 => ?_⟩, rfl⟩
    rw [sA_n h6, sA_n h5]
