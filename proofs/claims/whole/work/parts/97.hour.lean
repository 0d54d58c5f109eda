/-! THE HOUR -/
def dg (N p h : Nat) : Nat := p / 3 ^ (N - 1 - h) % 3
def bA (N p : Nat) (sz sp : Nat → Nat) (man : Nat) : Nat → Nat
  | 0 => 0
  | i + 1 => bA N p sz sp man i + (if dg N p i = man then sz i * sp man else 0)
def mnR (N p : Nat) (sz sp : Nat → Nat) (i : Nat) : Nat := max (max (bA N p sz sp 0 i) (bA N p sz sp 1 i)) (bA N p sz sp 2 i)
def bstR (N : Nat) (sz sp : Nat → Nat) : Nat → Nat
  | 0 => 0
  | n + 1 => if n = 0 then 0 else if mnR N n sz sp N < mnR N (bstR N sz sp n) sz sp N then n else bstR N sz sp n
theorem dg_lt (N p h : Nat) : dg N p h < 3 := Nat.mod_lt _ (by decide)
section HR
variable {N p : Nat} {sz sp : Nat → Nat}
theorem bA_le (hz : ∀ h, sz h ≤ 31) (hp : ∀ i, sp i ≤ 30) (man : Nat) : ∀ i, bA N p sz sp man i ≤ 930 * i
  | 0 => Nat.le_refl 0
  | i + 1 => by
    have := bA_le hz hp man i
    have : sz i * sp man ≤ 31 * 30 := Nat.mul_le_mul (hz i) (hp man)
    rw [bA]
    split <;> omega
theorem bA_mono (man : Nat) {i : Nat} : ∀ d, bA N p sz sp man i ≤ bA N p sz sp man (i + d)
  | 0 => Nat.le_refl _
  | d + 1 => by
    have := bA_mono man (i := i) d
    show _ ≤ bA N p sz sp man (i + d) + _
    omega
theorem mnR_le (hz : ∀ h, sz h ≤ 31) (hp : ∀ i, sp i ≤ 30) (i : Nat) : mnR N p sz sp i ≤ 930 * i := by
  have a := bA_le (N := N) (p := p) hz hp 0 i
  have b := bA_le (N := N) (p := p) hz hp 1 i
  have c := bA_le (N := N) (p := p) hz hp 2 i
  unfold mnR
  omega
/-- the class's longest so far -/
theorem mnR_step (i : Nat) : max (mnR N p sz sp i) (bA N p sz sp (dg N p i) (i + 1)) = mnR N p sz sp (i + 1) := by
  have h := dg_lt N p i
  have : dg N p i = 0 ∨ dg N p i = 1 ∨ dg N p i = 2 := by omega
  have a := bA_mono (N := N) (p := p) (sz := sz) (sp := sp) 0 (i := i) 1
  have b := bA_mono (N := N) (p := p) (sz := sz) (sp := sp) 1 (i := i) 1
  have c := bA_mono (N := N) (p := p) (sz := sz) (sp := sp) 2 (i := i) 1
  have o : ∀ man, dg N p i ≠ man → bA N p sz sp man (i + 1) = bA N p sz sp man i := fun man hm => by rw [bA, if_neg hm]; rfl
  unfold mnR
  rcases this with e | e | e
  · have := o 1 (by omega)
    have := o 2 (by omega)
    rw [e]; omega
  · have := o 0 (by omega)
    have := o 2 (by omega)
    rw [e]; omega
  · have := o 0 (by omega)
    have := o 1 (by omega)
    rw [e]; omega
end HR
theorem m_1 (i : Nat) : nI i + (-1) = nI i - 1 := by rw [Int32.sub_eq_add_neg]
theorem rem3 {a : Nat} (ha : a < 2 ^ 31) : ji_rem (nI a) 3 = nI (a % 3) := pk_rem (d := 3) ha (by decide) (by decide)
theorem div3 {a : Nat} (ha : a < 2 ^ 31) : nI a / 3 = nI (a / 3) := pk_div (d := 3) ha (by decide) (by decide)
/-- the class's rows of the hour alone -/
def scU (m m' : xM2) : Prop := (∀ a, a < 73 ∨ 77 ≤ a → m'.1 a = m.1 a) ∧ ∀ o, o ≠ 72 → m'.2 o = m.2 o
theorem scU.rf {m : xM2} : scU m m := ⟨fun _ _ => rfl, fun _ _ => rfl⟩
theorem scU.tr {m m1 m2 : xM2} (h : scU m m1) (g : scU m1 m2) : scU m m2 := ⟨fun a ha => (g.1 a ha).trans (h.1 a ha), fun o ho => (g.2 o ho).trans (h.2 o ho)⟩
theorem scU.A {m : xM2} {a : Nat} {f : Nat → Int32} (h : 73 ≤ a ∧ a < 77 := by decide) : scU m (sA m a f) := ⟨fun b hb => sA_n (by omega), fun _ _ => rfl⟩
theorem scU.F {m : xM2} {k : Nat} {x : Int32} : scU m (sF m 72 k x) := ⟨fun _ _ => rfl, fun o ho => sF_n ho⟩
theorem max_nI' {a b : Nat} (ha : a < 100000) (hb : b < 100000) : ji_max (nI a) (nI b) = nI (max a b) := by
  unfold ji_max
  by_cases q : a < b
  · rw [if_pos (nI_lt q (by omega)), Nat.max_eq_right (by omega)]
  · rw [if_neg (nI_nlt (by omega) (by omega)), Nat.max_eq_left (by omega)]
section HR2
variable {N p : Nat} {sz sp : Nat → Nat}
/-- what the rows of the hour hold -/
def hrS (N : Nat) (sz sp : Nat → Nat) (m : xM2) : Prop := (∀ h, h < N → m.1 73 h = nI (sz h)) ∧ ∀ i, i < 3 → m.1 16 i = nI (sp i)
theorem tried_l {l5 l6 : Int32} {k59 : Nat → Nat → Int32 → Int32 → Int32 → qx_H → Option qx_H} (hN : N ≤ 6) (hp : p < 729) : ∀ (i n : Nat), i < n → i ≤ N → ∀ m : xM2, (∀ h, i ≤ h → h < N → m.1 74 h = nI (dg N p h)) → ∃ m' r, fm_X1_plan_b76 k59 n 72 16 (nI N) l5 l6 (nI (p / 3 ^ (N - i))) (nI i - 1) (mk m) = fm_X1_plan_b76 k59 1 72 16 (nI N) l5 l6 r (-1) (mk m') ∧ scU m m' ∧ m'.1 73 = m.1 73 ∧ m'.1 75 = m.1 75 ∧ m'.2 = m.2 ∧ ∀ h, h < N → m'.1 74 h = nI (dg N p h)
  | 0, n, hn, hi, m, hm => by
    obtain ⟨n, rfl⟩ : ∃ z, n = z + 1 := ⟨n - 1, by omega⟩
    refine ⟨m, nI (p / 3 ^ (N - 0)), ?_, scU.rf, rfl, rfl, rfl, fun h h1 => hm h (by omega) h1⟩
    rw [show nI 0 - 1 = -1 by decide, fm_X1_plan_b76, fm_X1_plan_b76, if_pos (show (-1 : Int32) < 0 by decide), if_pos (show (-1 : Int32) < 0 by decide)]
  | i + 1, n, hn, hi, m, hm => by
    obtain ⟨n, rfl⟩ : ∃ z, n = z + 1 := ⟨n - 1, by omega⟩
    have sm : p / 3 ^ (N - (i + 1)) < 2 ^ 31 := Nat.lt_of_le_of_lt (Nat.div_le_self _ _) (by omega)
    have e1 : p / 3 ^ (N - (i + 1)) % 3 = dg N p i := by unfold dg; rw [show N - 1 - i = N - (i + 1) by omega]
    have e2 : p / 3 ^ (N - (i + 1)) / 3 = p / 3 ^ (N - i) := by rw [Nat.div_div_eq_div_mul, ← Nat.pow_succ, show (N - (i + 1)).succ = N - i by omega]
    obtain ⟨m', r, a1, a2, a3, a4, a5, a6⟩ := tried_l hN hp i n (by omega) (by omega) (sA m 74 (upd (m.1 74) i (nI (dg N p i)))) (fun h h1 h2 => by
      rw [sA_s]
      by_cases q : h = i
      · rw [q, upd_s]
      · rw [upd_n q]; exact hm h (by omega) h2)
    refine ⟨m', r, ?_, scU.tr scU.A a2, a3.trans (sA_n (by decide)), a4.trans (sA_n (by decide)), a5, a6⟩
    rw [nI_pred, fm_X1_plan_b76, if_neg (nI_pos (by omega)), gR_72_1, Option.bind_some, rem3 sm, e1, as_74 m (show i < 6 by omega), Option.bind_some, div3 sm, e2, m_1]
    exact a1
theorem mot_l (hN : N ≤ 6) (hz : ∀ h, sz h ≤ 31) (hs : ∀ i, sp i ≤ 30) : ∀ (j i n : Nat), i + j = N → j < n → ∀ m : xM2, hrS N sz sp m → (∀ h, h < N → m.1 74 h = nI (dg N p h)) → (∀ man, man < 3 → m.1 76 man = nI (bA N p sz sp man i)) → ∃ m', fm_X1_minutesOfTried_b25 n 72 (nI N) 16 (nI (mnR N p sz sp i)) (nI i) (mk m) = some (nI (mnR N p sz sp N), mk m') ∧ scA 76 m m' := by
  intro j
  induction j with
  | zero =>
    intro i n hi hn m h1 h2 h3
    obtain ⟨n, rfl⟩ : ∃ z, n = z + 1 := ⟨n - 1, by omega⟩
    have : i = N := by omega
    subst this
    exact ⟨m, by rw [fm_X1_minutesOfTried_b25, if_pos (Int32.le_refl _)], scA.rf⟩
  | succ j ih =>
    intro i n hi hn m h1 h2 h3
    obtain ⟨n, rfl⟩ : ∃ z, n = z + 1 := ⟨n - 1, by omega⟩
    have d3 := dg_lt N p i
    have i6 : i < 6 := by omega
    have b1 := bA_le (N := N) (p := p) hz hs (dg N p i) (i + 1)
    have m1 := mnR_le (N := N) (p := p) hz hs i
    have eb : nI (bA N p sz sp (dg N p i) i) + nI (sz i) * nI (sp (dg N p i)) = nI (bA N p sz sp (dg N p i) (i + 1)) := by rw [pk_mul, nI_add, bA, if_pos rfl]
    obtain ⟨m', a1, a2⟩ := ih (i + 1) n (by omega) (by omega) (sA m 76 (upd (m.1 76) (dg N p i) (nI (bA N p sz sp (dg N p i) (i + 1))))) ⟨fun h hh => (congrFun (sA_n (by decide)) h).trans (h1.1 h hh), fun k hk => (congrFun (sA_n (by decide)) k).trans (h1.2 k hk)⟩ (fun h hh => (congrFun (sA_n (by decide)) h).trans (h2 h hh)) (fun man hm => by
      rw [sA_s]
      by_cases q : man = dg N p i
      · rw [q, upd_s]
      · rw [upd_n q, h3 man hm, bA, if_neg (fun z => q z.symm)]; rfl)
    refine ⟨m', ?_, scA.tr scA.set a2⟩
    rw [fm_X1_minutesOfTried_b25, if_neg (nI_ge (by omega) (by omega)), gR_72_1, Option.bind_some, al_74 m i6, Option.bind_some, h2 i (by omega), gR_72_3, Option.bind_some, al_76 m d3, Option.bind_some, h3 _ d3, gR_72_0, Option.bind_some, al_73 m i6, Option.bind_some, h1.1 i (by omega), al_16 m d3, Option.bind_some, h1.2 _ d3, eb, as_76 m d3, Option.bind_some, gR_72_3, Option.bind_some, al_76 _ d3, Option.bind_some, sA_s, upd_s, max_nI' (by omega) (by omega), mnR_step, nI_1]
    exact a1
theorem mot_ok (hN : N ≤ 6) (hz : ∀ h, sz h ≤ 31) (hs : ∀ i, sp i ≤ 30) {m : xM2} (h1 : hrS N sz sp m) (h2 : ∀ h, h < N → m.1 74 h = nI (dg N p h)) : ∃ m', fm_X1_minutesOfTried 72 (nI N) 16 (mk m) = some (nI (mnR N p sz sp N), mk m') ∧ scA 76 m m' := by
  have stp : ∀ (n i : Nat) (m : xM2), i < 3 → fm_X1_minutesOfTried_b2 (n + 1) 72 (nI N) 16 (nI i) (mk m) = fm_X1_minutesOfTried_b2 n 72 (nI N) 16 (nI (i + 1)) (mk (sA m 76 (upd (m.1 76) i 0))) := fun n i m hi => by
    have g : ¬ (3 : Int32) ≤ nI i := nI_ge (b := 3) hi (by decide)
    rw [fm_X1_minutesOfTried_b2, if_neg g, gR_72_3, Option.bind_some, as_76 m hi, Option.bind_some, nI_1]
  obtain ⟨m', a1, a2⟩ := mot_l (p := p) hN hz hs N 0 5000 (by omega) (by omega) (sA m 76 (upd (upd (upd (m.1 76) 0 0) 1 0) 2 0)) ⟨fun h hh => (congrFun (sA_n (by decide)) h).trans (h1.1 h hh), fun k hk => (congrFun (sA_n (by decide)) k).trans (h1.2 k hk)⟩ (fun h hh => (congrFun (sA_n (by decide)) h).trans (h2 h hh)) (fun man hm => by
    rw [sA_s, bA]
    have : man = 0 ∨ man = 1 ∨ man = 2 := by omega
    rcases this with rfl | rfl | rfl <;> rfl)
  refine ⟨m', ?_, scA.tr scA.set a2⟩
  have s0 := stp 4999 0 m (by decide)
  rw [stp 4998 1 _ (by decide), stp 4997 2 _ (by decide), sA_s, sA_sA, sA_s, sA_sA] at s0
  refine s0.trans ?_
  show fm_X1_minutesOfTried_b2 (4996 + 1) 72 (nI N) 16 (nI 3) _ = _
  rw [fm_X1_minutesOfTried_b2, if_pos (by decide)]
  exact a1
end HR2
theorem hrRow1 : isRow 74 6 := ⟨fun _ => rfl, fun _ _ => rfl⟩
theorem hrRow2 : isRow 75 6 := ⟨fun _ => rfl, fun _ _ => rfl⟩
section HR3
variable {N : Nat} {sz sp : Nat → Nat}
theorem pow3_le (hN : N ≤ 6) : 1 ≤ 3 ^ N ∧ 3 ^ N ≤ 729 := by
  have : N = 0 ∨ N = 1 ∨ N = 2 ∨ N = 3 ∨ N = 4 ∨ N = 5 ∨ N = 6 := by omega
  rcases this with rfl | rfl | rfl | rfl | rfl | rfl | rfl <;> decide
theorem bstR_lt : ∀ n, 1 ≤ n → bstR N sz sp n < n
  | 0, h => absurd h (by decide)
  | n + 1, _ => by
    rw [bstR]
    by_cases e : n = 0
    · rw [if_pos e]; omega
    · rw [if_neg e]
      have := bstR_lt n (by omega)
      split <;> omega
/-- after q rows of men -/
def plS (N : Nat) (sz sp : Nat → Nat) (q : Nat) (m : xM2) : Prop := if q = 0 then m.2 72 4 = 931 else m.2 72 4 = nI (mnR N (bstR N sz sp q) sz sp N) ∧ ∀ h, h < N → m.1 75 h = nI (dg N (bstR N sz sp q) h)
theorem plan_row (hN : N ≤ 6) (hz : ∀ h, sz h ≤ 31) (hs : ∀ i, sp i ≤ 30) (h0 : mnR N 0 sz sp N ≤ 930) {q n : Nat} (hq : q < 3 ^ N) {m : xM2} (h1 : hrS N sz sp m) (h2 : plS N sz sp q m) : ∃ m', fm_X1_plan_b59 (n + 1) 72 16 (nI N) (nI (3 ^ N)) (nI q) (mk m) = fm_X1_plan_b59 n 72 16 (nI N) (nI (3 ^ N)) (nI (q + 1)) (mk m') ∧ scU m m' ∧ hrS N sz sp m' ∧ plS N sz sp (q + 1) m' := by
  have p3 := pow3_le hN
  have q729 : q < 729 := by omega
  obtain ⟨m1, r, a1, a2, a3, a4, a5, a6⟩ := tried_l (l5 := nI (3 ^ N)) (l6 := nI q) (k59 := fm_X1_plan_b59 n) hN q729 N 5000 (by omega) (Nat.le_refl N) m (fun h x y => absurd x (by omega))
  rw [Nat.sub_self, Nat.pow_zero, Nat.div_one] at a1
  have h1' : hrS N sz sp m1 := ⟨fun h hh => by rw [a3]; exact h1.1 h hh, fun i hi => by rw [a2.1 16 (by decide)]; exact h1.2 i hi⟩
  obtain ⟨m2, b1, b2⟩ := mot_ok hN hz hs h1' a6
  have i4 : m2.2 72 4 = m.2 72 4 := by rw [b2.1, a5]
  have t74 : ∀ h, h < N → m2.1 74 h = nI (dg N q h) := fun h hh => by rw [b2.2 74 (by decide)]; exact a6 h hh
  have mq := mnR_le (N := N) (p := q) hz hs N
  have sc2 : scU m m2 := a2.tr ⟨fun a ha => b2.2 a (by omega), fun o _ => by rw [b2.1]⟩
  have hr2 : hrS N sz sp m2 := ⟨fun h hh => by rw [b2.2 73 (by decide)]; exact h1'.1 h hh, fun i hi => by rw [b2.2 16 (by decide)]; exact h1'.2 i hi⟩
  have top : fm_X1_plan_b59 (n + 1) 72 16 (nI N) (nI (3 ^ N)) (nI q) (mk m) = (hp_gI (mk m2) 72 0 4).bind fun v116 => if v116 ≤ nI (mnR N q sz sp N) then (fm_X1_plan_b143 (fm_X1_plan_b59 n) 72 16 (nI N) (nI (3 ^ N)) (nI q) (mk m2)) else ((hp_put (mk m2) 72 0 4 (.int (nI (mnR N q sz sp N)))).bind fun H125 => (hp_gR H125 72 0 1).bind fun v129 => (hp_gR H125 72 0 2).bind fun v134 => (hp_cpy H125 v129 0 v134 0 (nI N)).bind fun H140 => fm_X1_plan_b143 (fm_X1_plan_b59 n) 72 16 (nI N) (nI (3 ^ N)) (nI q) H140) := by
    rw [fm_X1_plan_b59, if_neg (nI_ge hq (by omega)), a1, fm_X1_plan_b76, if_pos (show (-1 : Int32) < 0 by decide), if_pos (his_72 m1), b1, ob2_some]
  have set : ¬ m.2 72 4 ≤ nI (mnR N q sz sp N) → bstR N sz sp (q + 1) = q → ∃ m', fm_X1_plan_b59 (n + 1) 72 16 (nI N) (nI (3 ^ N)) (nI q) (mk m) = fm_X1_plan_b59 n 72 16 (nI N) (nI (3 ^ N)) (nI (q + 1)) (mk m') ∧ scU m m' ∧ hrS N sz sp m' ∧ plS N sz sp (q + 1) m' := by
    intro ng eb
    obtain ⟨m3, c1, c2, c3, c4⟩ := cpS (m := sF m2 72 4 (nI (mnR N q sz sp N))) (N := N) hrRow1 hrRow2 hN hN (by omega)
    refine ⟨m3, ?_, sc2.tr (scU.F.tr ⟨fun a ha => c3 a (by omega), fun o _ => by rw [c2]⟩), ⟨fun h hh => by rw [c3 73 (by decide)]; exact hr2.1 h hh, fun i hi => by rw [c3 16 (by decide)]; exact hr2.2 i hi⟩, ?_⟩
    · rw [top, gI_72_4, Option.bind_some, i4, if_neg ng, mP_72_4, Option.bind_some, gR_72_1, Option.bind_some, gR_72_2, Option.bind_some, c1, Option.bind_some, fm_X1_plan_b143, nI_1]
    · unfold plS
      rw [if_neg (by omega), eb]
      exact ⟨by rw [c2, sF_s, upd_s], fun h hh => by rw [c4 h hh]; exact t74 h hh⟩
  unfold plS at h2
  by_cases e : q = 0
  · rw [if_pos e] at h2
    refine set ?_ (by rw [bstR, if_pos e, e])
    rw [h2, e]
    exact nI_ge (b := 931) (by omega) (by decide)
  · rw [if_neg e] at h2
    have mb := mnR_le (N := N) (p := bstR N sz sp q) hz hs N
    by_cases lt : mnR N q sz sp N < mnR N (bstR N sz sp q) sz sp N
    · refine set ?_ (by rw [bstR, if_neg e, if_pos lt])
      rw [h2.1]
      exact nI_ge lt (by omega)
    · have eb : bstR N sz sp (q + 1) = bstR N sz sp q := by rw [bstR, if_neg e, if_neg lt]
      refine ⟨m2, ?_, sc2, hr2, ?_⟩
      · rw [top, gI_72_4, Option.bind_some, i4, h2.1, if_pos (nI_le (by omega) (by omega)), fm_X1_plan_b143, nI_1]
      · unfold plS
        rw [if_neg (by omega), eb]
        exact ⟨by rw [i4]; exact h2.1, fun h hh => by rw [b2.2 75 (by decide), a4]; exact h2.2 h hh⟩
theorem plan_rows (hN : N ≤ 6) (hz : ∀ h, sz h ≤ 31) (hs : ∀ i, sp i ≤ 30) (h0 : mnR N 0 sz sp N ≤ 930) : ∀ (j q n : Nat), q + j = 3 ^ N → j < n → ∀ m : xM2, hrS N sz sp m → plS N sz sp q m → ∃ m', fm_X1_plan_b59 n 72 16 (nI N) (nI (3 ^ N)) (nI q) (mk m) = some (mk m') ∧ scU m m' ∧ plS N sz sp (3 ^ N) m' := by
  intro j
  induction j with
  | zero =>
    intro q n hq hn m h1 h2
    obtain ⟨n, rfl⟩ : ∃ z, n = z + 1 := ⟨n - 1, by omega⟩
    rw [Nat.add_zero] at hq
    refine ⟨m, by rw [fm_X1_plan_b59, hq, if_pos (Int32.le_refl _)], scU.rf, ?_⟩
    rw [← hq]
    exact h2
  | succ j ih =>
    intro q n hq hn m h1 h2
    obtain ⟨n, rfl⟩ : ∃ z, n = z + 1 := ⟨n - 1, by omega⟩
    obtain ⟨m1, a1, a2, a3, a4⟩ := plan_row (n := n) hN hz hs h0 (show q < 3 ^ N by omega) h1 h2
    obtain ⟨m', b1, b2, b3⟩ := ih (q + 1) n (by omega) (by omega) m1 a3 a4
    exact ⟨m', a1.trans b1, a2.tr b2, b3⟩
theorem sizes_l {x : Int32} (hl : lo 31 x) (hN : N ≤ 6) (hk : ∀ k, k < N → ¬ rst x k = 0) : ∀ (j i n : Nat), i + j = N → j < n → ∀ m : xM2, (∀ h, h < i → m.1 73 h = nI (hsz x h)) → ∃ m', fm_X1_plan_b14 n 72 x 16 (nI N) (nI (3 ^ i)) (nI i) (mk m) = (hp_put (mk m') 72 0 4 (.int 931)).bind (fun H53 => fm_X1_plan_b59 5000 72 16 (nI N) (nI (3 ^ N)) 0 H53) ∧ scU m m' ∧ ∀ h, h < N → m'.1 73 h = nI (hsz x h) := by
  intro j
  induction j with
  | zero =>
    intro i n hi hn m hm
    obtain ⟨n, rfl⟩ : ∃ z, n = z + 1 := ⟨n - 1, by omega⟩
    have : i = N := by omega
    subst this
    exact ⟨m, by rw [fm_X1_plan_b14, if_pos (Int32.le_refl _)], scU.rf, hm⟩
  | succ j ih =>
    intro i n hi hn m hm
    obtain ⟨n, rfl⟩ : ∃ z, n = z + 1 := ⟨n - 1, by omega⟩
    obtain ⟨m', b1, b2, b3⟩ := ih (i + 1) n (by omega) (by omega) (sA m 73 (upd (m.1 73) i (nI (hsz x i)))) (fun h hh => by
      rw [sA_s]
      by_cases q : h = i
      · rw [q, upd_s]
      · rw [upd_n q]; exact hm h (by omega))
    have e3 : nI (3 ^ i) * 3 = nI (3 ^ (i + 1)) := by rw [show (3 : Int32) = nI 3 from rfl, pk_mul, Nat.pow_succ]
    refine ⟨m', ?_, scU.tr scU.A b2, b3⟩
    rw [fm_X1_plan_b14, if_neg (nI_ge (by omega) (by omega)), gR_72_0, Option.bind_some, holeAt_ok hl (by omega) (show i < N by omega) hk, Option.bind_some, hol_cnt, show cnt (bt (hol (rst x i))) 31 = hsz x i from rfl, as_73 m (show i < 6 by omega), Option.bind_some, e3, nI_1]
    exact b1
end HR3
theorem hsz_le (x : Int32) (i : Nat) : hsz x i ≤ 31 := cnt_le 31
theorem cnt_diff {p q : Nat → Bool} : ∀ n, (∀ i, i < n → q i = true → p i = true) → cnt (fun i => p i && !q i) n + cnt q n = cnt p n
  | 0, _ => rfl
  | n + 1, h => by
    have := cnt_diff (p := p) (q := q) n (fun i hi => h i (by omega))
    have hn := h n (by omega)
    rw [cnt, cnt, cnt]
    cases a : q n
    · cases b : p n <;> simp <;> omega
    · rw [hn a]; simp; omega
theorem rst_cnt {x : Int32} (hl : lo 31 x) (i : Nat) : cnt (bt (rst x (i + 1))) 31 + hsz x i = cnt (bt (rst x i)) 31 := by
  have e : cnt (bt (rst x (i + 1))) 31 = cnt (fun u => bt (rst x i) u && !bt (hol (rst x i)) u) 31 := cnt_cong fun u hu => by rw [rst, b_and, bt_not _ (by omega)]
  rw [e]
  exact cnt_diff 31 fun u hu q => hol_sub u (by omega) q
theorem bA_0 {N : Nat} {x : Int32} {sp : Nat → Nat} (hl : lo 31 x) (man : Nat) : ∀ i, bA N 0 (hsz x) sp man i + cnt (bt (rst x i)) 31 * sp man ≤ 31 * sp man
  | 0 => by
    have := Nat.mul_le_mul_right (sp man) (cnt_le (p := bt (rst x 0)) 31)
    rw [bA]
    omega
  | i + 1 => by
    have ih := bA_0 hl (N := N) (sp := sp) man i
    have e := rst_cnt hl i
    rw [← e, Nat.add_mul] at ih
    rw [bA]
    split <;> omega
theorem mn0_le {N : Nat} {x : Int32} {sp : Nat → Nat} (hl : lo 31 x) (hs : ∀ i, sp i ≤ 30) : mnR N 0 (hsz x) sp N ≤ 930 := by
  have a := bA_0 (N := N) (sp := sp) hl 0 N
  have b := bA_0 (N := N) (sp := sp) hl 1 N
  have c := bA_0 (N := N) (sp := sp) hl 2 N
  have := hs 0
  have := hs 1
  have := hs 2
  unfold mnR
  omega
theorem plan_ok {m : xM2} {x : Int32} {N : Nat} {sp : Nat → Nat} (hl : lo 31 x) (hN : N ≤ 6) (hk : ∀ k, k < N → ¬ rst x k = 0) (hs : ∀ i, sp i ≤ 30) (h16 : ∀ i, i < 3 → m.1 16 i = nI (sp i)) : ∃ m', fm_X1_plan 72 x (nI N) 16 (mk m) = some (mk m') ∧ scU m m' ∧ m'.2 72 4 = nI (mnR N (bstR N (hsz x) sp (3 ^ N)) (hsz x) sp N) ∧ ∀ h, h < N → m'.1 75 h = nI (dg N (bstR N (hsz x) sp (3 ^ N)) h) := by
  obtain ⟨m1, a1, a2, a3⟩ := sizes_l hl hN hk N 0 5000 (by omega) (by omega) m (fun h hh => absurd hh (by omega))
  have p3 := pow3_le hN
  obtain ⟨m2, b1, b2, b3⟩ := plan_rows (sz := hsz x) (sp := sp) hN (hsz_le x) hs (mn0_le hl hs) (3 ^ N) 0 5000 (by omega) (by omega) (sF m1 72 4 931) ⟨a3, fun i hi => by rw [sF_1, a2.1 16 (by decide)]; exact h16 i hi⟩ (by unfold plS; rw [if_pos rfl, sF_s, upd_s])
  unfold plS at b3
  rw [if_neg (by omega)] at b3
  have mn : ji_min (nI N) 6 = nI N := by
    unfold ji_min
    exact if_neg (nI_nlt (a := 6) hN (by decide))
  refine ⟨m2, ?_, (a2.tr scU.F).tr b2, b3⟩
  unfold fm_X1_plan
  rw [mn]
  refine a1.trans ?_
  rw [mP_72_4, Option.bind_some]
  exact b1
