/-! CLASS AND REFERENCE TOGETHER -/
def quayR (m : xM2) (q : Nat) (s : Nat → Int32) : Prop :=
  netR m (q + 1) s ∧ (∀ i, i < 3 → m.1 (q + 15) i = s (5 + i)) ∧ (∀ j, j < 60 → m.1 (q + 16) j = s (431 + j)) ∧ (∀ j, j < 24 → m.1 (q + 17) j = s (491 + j)) ∧ m.2 q 4 = s 2 ∧ m.2 q 5 = s 3 ∧ m.2 q 6 = s 1 ∧ m.2 q 7 = s 4
def wf (s : Nat → Int32) : Prop :=
  dayOk s 9999 ∧ (∀ k, k < 20 → ∃ c, c ≤ 6 ∧ s (8 + 4 * k) = nI c) ∧ (∀ t, t < 31 → s (88 + 3 * t) = 0 ∨ s (88 + 3 * t) = 1) ∧ (∃ j, j ≤ 60 ∧ s 2 = nI j) ∧ (∃ j, j ≤ 24 ∧ s 3 = nI j) ∧ ∀ i, i < 3 → ∃ v, 1 ≤ v ∧ v ≤ 30 ∧ s (5 + i) = nI v
def numR (x y : Int32) : Prop := x = y ∨ (¬ (0 ≤ x ∧ x ≤ 127) ∧ ¬ (0 ≤ y ∧ y ≤ 127))
def shR (m : xM2) (i : Nat) : Prop :=
  m.2 (81 + 2 * i) 1 = m.1 101 i ∧ m.2 (81 + 2 * i) 2 = m.1 102 i ∧ (m.1 101 i = 0 ∨ m.1 101 i = 8 ∨ m.1 101 i = 16 ∨ m.1 101 i = 32) ∧ (∃ n, n ≤ 40 ∧ m.1 102 i = nI n) ∧ (m.1 101 i = 0 → m.1 102 i = 0) ∧ ∀ j, j < 40 → numR (m.1 (82 + 2 * i) j) (m.1 103 (40 * i + j))
def trR (m : xM2) : Prop := ∃ n, n ≤ 30 ∧ m.2 77 1 = nI n ∧ m.2 89 16 = nI n ∧ ∀ j, j < n → m.1 78 j = m.1 100 j
def erR (m : xM2) : Prop := ∀ k, 1 ≤ k → k ≤ 6 → m.1 80 k = m.1 93 k
def imR (m : xM2) : Prop := m.2 0 10 = m.2 89 3 ∧ (¬ m.2 89 3 = 0 → quayR m 19 (m.1 91) ∧ wf (m.1 91))
def Rel (m : xM2) : Prop := quayR m 1 (m.1 90) ∧ wf (m.1 90) ∧ imR m ∧ erR m ∧ (∀ i, i < 4 → shR m i) ∧ trR m
def same (m m' : xM2) (a : Nat) : Prop := m'.1 a = m.1 a ∧ m'.2 a = m.2 a
theorem netR.mv {m m' : xM2} {o : Nat} {s : Nat → Int32} (h : netR m o s) (hs : ∀ a, o ≤ a → a < o + 14 → same m m' a) : netR m' o s := by
  obtain ⟨a1, a2, a3, a4, a5, a6, a7, a8, a9, b1⟩ := h
  have e : ∀ d, d < 14 → m'.1 (o + d) = m.1 (o + d) := fun d hd => (hs (o + d) (by omega) (by omega)).1
  have e2 := (hs o (by omega) (by omega)).2
  refine ⟨by rw [e 1 (by decide)]; exact a1, by rw [e 2 (by decide)]; exact a2, by rw [e 3 (by decide)]; exact a3, by rw [e 4 (by decide)]; exact a4, by rw [e 5 (by decide)]; exact a5, by rw [e 6 (by decide)]; exact a6, by rw [e2]; exact a7, by rw [e2]; exact a8, a9.mv (e 9 (by decide)) (by rw [(hs (o + 8) (by omega) (by omega)).2]), b1.mv (e 12 (by decide)) (by rw [(hs (o + 11) (by omega) (by omega)).2])⟩
theorem quayR.mv {m m' : xM2} {q : Nat} {s : Nat → Int32} (h : quayR m q s) (hs : ∀ a, q ≤ a → a < q + 18 → same m m' a) : quayR m' q s := by
  obtain ⟨a1, a2, a3, a4, a5, a6, a7, a8⟩ := h
  have e2 := (hs q (by omega) (by omega)).2
  exact ⟨a1.mv (fun a h1 h2 => hs a (by omega) (by omega)), by rw [(hs (q + 15) (by omega) (by omega)).1]; exact a2, by rw [(hs (q + 16) (by omega) (by omega)).1]; exact a3, by rw [(hs (q + 17) (by omega) (by omega)).1]; exact a4, by rw [e2]; exact a5, by rw [e2]; exact a6, by rw [e2]; exact a7, by rw [e2]; exact a8⟩
/-- an ordinary call of the class: what it keeps -/
def kpC (m m' : xM2) : Prop := (∀ a, (19 ≤ a ∧ a < 37) ∨ 77 ≤ a → same m m' a) ∧ m'.2 0 10 = m.2 0 10
/-- an ordinary call of the reference -/
def kpR (m m' : xM2) : Prop := (∀ a, a < 89 → same m m' a) ∧ m'.1 91 = m.1 91 ∧ m'.1 93 = m.1 93 ∧ m'.1 100 = m.1 100 ∧ m'.1 101 = m.1 101 ∧ m'.1 102 = m.1 102 ∧ m'.1 103 = m.1 103 ∧ m'.2 89 3 = m.2 89 3 ∧ m'.2 89 16 = m.2 89 16
theorem kpC.rf {m : xM2} : kpC m m := ⟨fun _ _ => ⟨rfl, rfl⟩, rfl⟩
theorem kpC.tr {m m1 m2 : xM2} (h : kpC m m1) (h2 : kpC m1 m2) : kpC m m2 := ⟨fun a ha => ⟨(h2.1 a ha).1.trans (h.1 a ha).1, (h2.1 a ha).2.trans (h.1 a ha).2⟩, h2.2.trans h.2⟩
theorem kpR.rf {m : xM2} : kpR m m := ⟨fun _ _ => ⟨rfl, rfl⟩, rfl, rfl, rfl, rfl, rfl, rfl, rfl, rfl⟩
theorem kpR.tr {m m1 m2 : xM2} (h : kpR m m1) (h2 : kpR m1 m2) : kpR m m2 := by
  obtain ⟨a1, a2, a3, a4, a5, a6, a7, a8, a9⟩ := h
  obtain ⟨b1, b2, b3, b4, b5, b6, b7, b8, b9⟩ := h2
  exact ⟨fun a ha => ⟨(b1 a ha).1.trans (a1 a ha).1, (b1 a ha).2.trans (a1 a ha).2⟩, b2.trans a2, b3.trans a3, b4.trans a4, b5.trans a5, b6.trans a6, b7.trans a7, b8.trans a8, b9.trans a9⟩
theorem shR.mv {m m' : xM2} {i : Nat} (h : shR m i) (h1 : same m m' (81 + 2 * i)) (h2 : same m m' (82 + 2 * i)) (h3 : m'.1 101 = m.1 101) (h4 : m'.1 102 = m.1 102) (h5 : m'.1 103 = m.1 103) : shR m' i := by
  unfold shR
  rw [h1.2, h2.1, h3, h4, h5]
  exact h
theorem Rel.step {m m1 m2 : xM2} {s' : Nat → Int32} (h : Rel m) (hc : kpC m m1) (hr : kpR m1 m2) (hq : quayR m1 1 s') (hs : m2.1 90 = s') (hw : wf s') : Rel m2 := by
  obtain ⟨-, -, ⟨i1, i2⟩, he, hsh, ⟨n, n1, n2, n3, n4⟩⟩ := h
  obtain ⟨c1, c2⟩ := hc
  obtain ⟨r1, r2, r3, r4, r5, r6, r7, r8, r9⟩ := hr
  have cc : ∀ a, 89 ≤ a → same m m1 a := fun a ha => c1 a (Or.inr (by omega))
  have st : ∀ a, (19 ≤ a ∧ a < 37) ∨ (77 ≤ a ∧ a < 89) → same m m2 a := fun a ha => ⟨(r1 a (by omega)).1.trans (c1 a (by omega)).1, (r1 a (by omega)).2.trans (c1 a (by omega)).2⟩
  have i89 : m2.2 89 3 = m.2 89 3 := by rw [r8, (cc 89 (by decide)).2]
  have t89 : m2.2 89 16 = m.2 89 16 := by rw [r9, (cc 89 (by decide)).2]
  refine ⟨?_, by rw [hs]; exact hw, ⟨?_, fun q => ?_⟩, fun k h1 h2 => ?_, fun i hi => ?_, ⟨n, n1, ?_, ?_, fun j hj => ?_⟩⟩
  · rw [hs]
    exact hq.mv (fun a h1 h2 => r1 a (by omega))
  · rw [(r1 0 (by decide)).2, c2, i89]
    exact i1
  · rw [i89] at q
    have := i2 q
    rw [r2, (cc 91 (by decide)).1]
    exact ⟨this.1.mv (fun a h1 h2 => st a (by omega)), this.2⟩
  · rw [(st 80 (by omega)).1, r3, (cc 93 (by decide)).1]
    exact he k h1 h2
  · exact (hsh i hi).mv (st _ (by omega)) (st _ (by omega)) (by rw [r5, (cc 101 (by decide)).1]) (by rw [r6, (cc 102 (by decide)).1]) (by rw [r7, (cc 103 (by decide)).1])
  · rw [(st 77 (by omega)).2]; exact n2
  · rw [t89]; exact n3
  · rw [(st 78 (by omega)).1, r4, (cc 100 (by decide)).1]
    exact n4 j hj
/-- a refused call: both count it, both answer it -/
theorem refuse_ok {m : xM2} {k : Nat} (h1 : 1 ≤ k) (h2 : k ≤ 6) : fm_X10_refuse 0 (-1000000000 - nI k) (mk m) = some (-1000000000 - nI k, mk (sA m 80 (upd (m.1 80) k (m.1 80 k + 1)))) := by
  have e : ∀ k, 1 ≤ k → k ≤ 6 → (-1000000000 : Int32) - (-1000000000 - nI k) = nI k ∧ fm_X10_isWithin (nI k) 1 6 = 1 := by
    have : ∀ k, k < 7 → 1 ≤ k → ((-1000000000 : Int32) - (-1000000000 - nI k) = nI k ∧ fm_X10_isWithin (nI k) 1 6 = 1) := by decide +kernel
    exact fun k a b => this k (by omega) a
  obtain ⟨e1, e2⟩ := e k h1 h2
  unfold fm_X10_refuse
  simp only [e1, e2, Option.bind_some, ob2_some, if_true, if_false, reduceIte, one_ne, gR_0_9, al_80 m (show k < 7 by omega), as_80 m (show k < 7 by omega)]
