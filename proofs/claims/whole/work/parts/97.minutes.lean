/-! THE HOUR: THE REFERENCE -/
section HR4
variable {N p : Nat} {sz sp : Nat → Nat}
theorem threes_ok {n : Nat} (hn : n ≤ 6) (H : qx_H) : fm_X11_threes (nI n) H = some (nI (3 ^ n)) := by
  have key : ∀ (j i f : Nat), i + j = n → j < f → fm_X11_threes_b4 f (nI n) (nI (3 ^ i)) (nI i) H = some (nI (3 ^ n)) := by
    intro j
    induction j with
    | zero =>
      intro i f hi hf
      obtain ⟨f, rfl⟩ : ∃ z, f = z + 1 := ⟨f - 1, by omega⟩
      have : i = n := by omega
      subst this
      rw [fm_X11_threes_b4, if_pos (Int32.le_refl _)]
    | succ j ih =>
      intro i f hi hf
      obtain ⟨f, rfl⟩ : ∃ z, f = z + 1 := ⟨f - 1, by omega⟩
      have e3 : nI (3 ^ i) * 3 = nI (3 ^ (i + 1)) := by rw [show (3 : Int32) = nI 3 from rfl, pk_mul, Nat.pow_succ]
      rw [fm_X11_threes_b4, if_neg (nI_ge (by omega) (by omega)), e3, nI_1]
      exact ih (i + 1) f (by omega) (by omega)
  exact key n 0 5000 (by omega) (by omega)
def hrR (N : Nat) (sz sp : Nat → Nat) (m : xM2) : Prop := (∀ h, h < N → m.1 98 h = nI (sz h)) ∧ ∀ i, i < 3 → m.1 90 (5 + i) = nI (sp i)
theorem bA_sub (man : Nat) {i : Nat} (hi : i + 1 ≤ N) : bA N p sz sp man N - bA N p sz sp man i = (bA N p sz sp man N - bA N p sz sp man (i + 1)) + (if dg N p i = man then sz i * sp man else 0) := by
  obtain ⟨d, hd⟩ : ∃ d, N = (i + 1) + d := ⟨N - (i + 1), by omega⟩
  have a := bA_mono (N := N) (p := p) (sz := sz) (sp := sp) man (i := i + 1) d
  rw [← hd] at a
  have b : bA N p sz sp man (i + 1) = bA N p sz sp man i + (if dg N p i = man then sz i * sp man else 0) := rfl
  omega
theorem mby_l (hN : N ≤ 6) (hp : p < 729) (hz : ∀ h, sz h ≤ 31) (hs : ∀ i, sp i ≤ 30) : ∀ (i n : Nat), i < n → i ≤ N → ∀ m : xM2, hrR N sz sp m → (∀ man, man < 3 → m.1 99 man = nI (bA N p sz sp man N - bA N p sz sp man i)) → ∃ m', fm_X11_minutesBy_b30 n 89 (nI (p / 3 ^ (N - i))) (nI i - 1) (mk m) = some (nI (mnR N p sz sp N), mk m') ∧ scA 99 m m'
  | 0, n, hn, hi, m, h1, h2 => by
    obtain ⟨n, rfl⟩ : ∃ z, n = z + 1 := ⟨n - 1, by omega⟩
    have c0 := h2 0 (by decide)
    have c1 := h2 1 (by decide)
    have c2 := h2 2 (by decide)
    rw [show bA N p sz sp 0 0 = 0 from rfl, Nat.sub_zero] at c0
    rw [show bA N p sz sp 1 0 = 0 from rfl, Nat.sub_zero] at c1
    rw [show bA N p sz sp 2 0 = 0 from rfl, Nat.sub_zero] at c2
    have l0 := bA_le (N := N) (p := p) hz hs 0 N
    have l1 := bA_le (N := N) (p := p) hz hs 1 N
    have l2 := bA_le (N := N) (p := p) hz hs 2 N
    have al0 : ∀ m : xM2, hp_ald (mk m) 99 0 = some (m.1 99 0) := fun m => al_99 m (i := 0) (by decide)
    have al1 : ∀ m : xM2, hp_ald (mk m) 99 1 = some (m.1 99 1) := fun m => al_99 m (i := 1) (by decide)
    have al2 : ∀ m : xM2, hp_ald (mk m) 99 2 = some (m.1 99 2) := fun m => al_99 m (i := 2) (by decide)
    have fin : ∀ a : Nat, a ≤ 6000 → fm_X11_minutesBy_b104 89 (nI a) (mk m) = some (nI (max a (bA N p sz sp 2 N)), mk m) := fun a ha => by
      rw [fm_X11_minutesBy_b104, gR_89_14, Option.bind_some, al2, Option.bind_some, c2]
      by_cases q : bA N p sz sp 2 N ≤ a
      · rw [if_pos (nI_le q (by omega)), Nat.max_eq_left q]
      · rw [if_neg (nI_ge (by omega) (by omega)), Option.bind_some, al2, Option.bind_some, c2, Nat.max_eq_right (by omega)]
    refine ⟨m, ?_, scA.rf⟩
    rw [show nI 0 - 1 = -1 by decide, fm_X11_minutesBy_b30, if_pos (show (-1 : Int32) < 0 by decide), gR_89_14, Option.bind_some, al0, Option.bind_some, Option.bind_some, al1, Option.bind_some, c0, c1]
    by_cases q : bA N p sz sp 0 N ≤ bA N p sz sp 1 N
    · rw [if_pos (nI_le q (by omega)), Option.bind_some, al1, Option.bind_some, c1, fin _ (by omega)]
      unfold mnR
      rw [Nat.max_eq_right q]
    · rw [if_neg (nI_ge (by omega) (by omega)), Option.bind_some, al0, Option.bind_some, c0, fin _ (by omega)]
      unfold mnR
      rw [show max (bA N p sz sp 0 N) (bA N p sz sp 1 N) = bA N p sz sp 0 N from Nat.max_eq_left (by omega)]
  | i + 1, n, hn, hi, m, h1, h2 => by
    obtain ⟨n, rfl⟩ : ∃ z, n = z + 1 := ⟨n - 1, by omega⟩
    have sm : p / 3 ^ (N - (i + 1)) < 2 ^ 31 := Nat.lt_of_le_of_lt (Nat.div_le_self _ _) (by omega)
    have e1 : p / 3 ^ (N - (i + 1)) % 3 = dg N p i := by unfold dg; rw [show N - 1 - i = N - (i + 1) by omega]
    have e2 : p / 3 ^ (N - (i + 1)) / 3 = p / 3 ^ (N - i) := by rw [Nat.div_div_eq_div_mul, ← Nat.pow_succ, show (N - (i + 1)).succ = N - i by omega]
    have d3 := dg_lt N p i
    have bs := bA_sub (N := N) (p := p) (sz := sz) (sp := sp) (dg N p i) hi
    rw [if_pos rfl] at bs
    have eb : nI (bA N p sz sp (dg N p i) N - bA N p sz sp (dg N p i) (i + 1)) + nI (sz i) * nI (sp (dg N p i)) = nI (bA N p sz sp (dg N p i) N - bA N p sz sp (dg N p i) i) := by rw [pk_mul, nI_add, bs]
    obtain ⟨m', a1, a2⟩ := mby_l hN hp hz hs i n (by omega) (by omega) (sA m 99 (upd (m.1 99) (dg N p i) (nI (bA N p sz sp (dg N p i) N - bA N p sz sp (dg N p i) i)))) ⟨fun h hh => (congrFun (sA_n (by decide)) h).trans (h1.1 h hh), fun k hk => (congrFun (sA_n (by decide)) (5 + k)).trans (h1.2 k hk)⟩ (fun man hm => by
      rw [sA_s]
      by_cases q : man = dg N p i
      · rw [q, upd_s]
      · rw [upd_n q, h2 man hm]
        have := bA_sub (N := N) (p := p) (sz := sz) (sp := sp) man hi
        rw [if_neg (fun z => q z.symm), Nat.add_zero] at this
        rw [this])
    refine ⟨m', ?_, scA.tr scA.set a2⟩
    rw [nI_pred, fm_X11_minutesBy_b30, if_neg (nI_pos (by omega)), gR_89_14, Option.bind_some, rem3 sm, e1, al_99 m d3, Option.bind_some, h2 _ d3, gR_89_13, Option.bind_some, al_98 m (show i < 31 by omega), Option.bind_some, h1.1 i (by omega), gR_89_0, Option.bind_some, show (5 : Int32) + nI (dg N p i) = nI (5 + dg N p i) from nI_add 5 _, al_90 m (show 5 + dg N p i < 515 by omega), Option.bind_some, h1.2 _ d3, eb, as_99 m d3, Option.bind_some, div3 sm, e2, m_1]
    exact a1
theorem mby_ok (hN : N ≤ 6) (hp : p < 729) (hz : ∀ h, sz h ≤ 31) (hs : ∀ i, sp i ≤ 30) {m : xM2} (h1 : hrR N sz sp m) : ∃ m', fm_X11_minutesBy 89 (nI p) (nI N) (mk m) = some (nI (mnR N p sz sp N), mk m') ∧ scA 99 m m' := by
  have stp : ∀ (n i : Nat) (m : xM2), i < 3 → fm_X11_minutesBy_b5 (n + 1) 89 (nI N) (nI p) (nI i) (mk m) = fm_X11_minutesBy_b5 n 89 (nI N) (nI p) (nI (i + 1)) (mk (sA m 99 (upd (m.1 99) i 0))) := fun n i m hi => by
    have g : ¬ (3 : Int32) ≤ nI i := nI_ge (b := 3) hi (by decide)
    rw [fm_X11_minutesBy_b5, if_neg g, gR_89_14, Option.bind_some, as_99 m hi, Option.bind_some, nI_1]
  obtain ⟨m', a1, a2⟩ := mby_l hN hp hz hs N 5000 (by omega) (Nat.le_refl N) (sA m 99 (upd (upd (upd (m.1 99) 0 0) 1 0) 2 0)) ⟨fun h hh => (congrFun (sA_n (by decide)) h).trans (h1.1 h hh), fun k hk => (congrFun (sA_n (by decide)) (5 + k)).trans (h1.2 k hk)⟩ (fun man hm => by
    rw [sA_s, Nat.sub_self]
    have : man = 0 ∨ man = 1 ∨ man = 2 := by omega
    rcases this with rfl | rfl | rfl <;> rfl)
  rw [Nat.sub_self, Nat.pow_zero, Nat.div_one] at a1
  refine ⟨m', ?_, scA.tr scA.set a2⟩
  have s0 := stp 4999 0 m (by decide)
  rw [stp 4998 1 _ (by decide), stp 4997 2 _ (by decide), sA_s, sA_sA, sA_s, sA_sA] at s0
  refine s0.trans ?_
  show fm_X11_minutesBy_b5 (4996 + 1) 89 (nI N) (nI p) (nI 3) _ = _
  rw [fm_X11_minutesBy_b5, if_pos (by decide)]
  exact a1
theorem min_l {a : Int32} (hN : N ≤ 6) (hz : ∀ h, sz h ≤ 31) (hs : ∀ i, sp i ≤ 30) : ∀ (j q n : Nat), q + j = 3 ^ N → j < n → 1 ≤ q → ∀ m : xM2, hrR N sz sp m → ∃ m', fm_X11_minutes_b44 n 89 a (nI N) (nI (bstR N sz sp q)) (nI q) (mk m) = fm_X11_minutes_b44 1 89 a (nI N) (nI (bstR N sz sp (3 ^ N))) (nI (3 ^ N)) (mk m') ∧ scA 99 m m' := by
  have p3 := pow3_le hN
  intro j
  induction j with
  | zero =>
    intro q n hq hn h1 m h2
    obtain ⟨n, rfl⟩ : ∃ z, n = z + 1 := ⟨n - 1, by omega⟩
    rw [Nat.add_zero] at hq
    refine ⟨m, ?_, scA.rf⟩
    rw [hq, fm_X11_minutes_b44, fm_X11_minutes_b44, threes_ok hN, Option.bind_some, Option.bind_some, if_pos (Int32.le_refl _), if_pos (Int32.le_refl _)]
  | succ j ih =>
    intro q n hq hn h1 m h2
    obtain ⟨n, rfl⟩ : ∃ z, n = z + 1 := ⟨n - 1, by omega⟩
    have b729 := bstR_lt (N := N) (sz := sz) (sp := sp) q h1
    obtain ⟨m1, a1, a2⟩ := mby_ok (p := q) hN (by omega) hz hs h2
    have h3 : hrR N sz sp m1 := ⟨fun h hh => by rw [a2.2 98 (by decide)]; exact h2.1 h hh, fun i hi => by rw [a2.2 90 (by decide)]; exact h2.2 i hi⟩
    obtain ⟨m2, b1, b2⟩ := mby_ok (p := bstR N sz sp q) hN (by omega) hz hs h3
    have h4 : hrR N sz sp m2 := ⟨fun h hh => by rw [b2.2 98 (by decide)]; exact h3.1 h hh, fun i hi => by rw [b2.2 90 (by decide)]; exact h3.2 i hi⟩
    obtain ⟨m', c1, c2⟩ := ih (q + 1) n (by omega) (by omega) (by omega) m2 h4
    have mq := mnR_le (N := N) (p := q) hz hs N
    have mb := mnR_le (N := N) (p := bstR N sz sp q) hz hs N
    refine ⟨m', ?_, (a2.tr b2).tr c2⟩
    have e : (if nI (mnR N (bstR N sz sp q) sz sp N) ≤ nI (mnR N q sz sp N) then nI (bstR N sz sp q) else nI q) = nI (bstR N sz sp (q + 1)) := by
      rw [bstR, if_neg (show ¬ q = 0 by omega)]
      by_cases lt : mnR N q sz sp N < mnR N (bstR N sz sp q) sz sp N
      · rw [if_pos lt, if_neg (nI_ge lt (by omega))]
      · rw [if_neg lt, if_pos (nI_le (by omega) (by omega))]
    rw [fm_X11_minutes_b44, threes_ok hN, Option.bind_some, if_neg (nI_ge (by omega) (by omega)), if_pos (his_89 m), a1, ob2_some, if_pos (his_89 m1), b1, ob2_some, e, nI_1]
    exact c1
end HR4
theorem p_minutes {m : xM2} (h : Rel m) (a : Int32) : pr m (fm_X10_minutes 0 a) (fm_X11_minutes 89 a) := by
  have g9 := h.1.g9
  obtain ⟨hq, hw, -⟩ := id h
  by_cases hm : -1 ≤ a
  · have l := lo_gone (m.1 90)
    obtain ⟨N, hN, h0, hk⟩ := hol_num l
    have hc := holesIn_ok l hN h0 hk (mk m)
    have cpre : fm_X10_minutes 0 a (mk m) = if a < nI N then (if nI N ≤ 6 then ((fm_X1_plan 72 (goneS (m.1 90)) (nI N) 16 (mk m)).bind fun H73 => if 0 ≤ a then ((hp_gR H73 0 8 6).bind fun v91 => (hp_gR H73 v91 0 2).bind fun v94 => (hp_ald H73 v94 a).bind fun v98 => some (v98, H73)) else ((hp_gR H73 0 8 6).bind fun v81 => (hp_gI H73 v81 0 4).bind fun v84 => some (v84, H73))) else fm_X10_refuse 0 (-1000000004) (mk m)) else fm_X10_refuse 0 (-1000000002) (mk m) := by
      unfold fm_X10_minutes
      rw [if_pos hm, gR_0_0, Option.bind_some, gR_1_0, Option.bind_some, gI_2_9, Option.bind_some, g9, hc, Option.bind_some, gR_0_6, Option.bind_some, Option.bind_some, gR_1_0, Option.bind_some, gI_2_9, Option.bind_some, g9, Option.bind_some, gR_1_1, Option.bind_some, if_pos (his_72 m), if_pos (his_0 m), ob2_eta, ob2_eta, if_pos (his_0 m)]
    have rpre : ∀ mr : xM2, mr.1 90 = m.1 90 → ∃ m2, scH mr m2 ∧ (∀ k, k < N → m2.1 98 k = nI (hsz (goneS (m.1 90)) k)) ∧ fm_X11_minutes 89 a (mk mr) = if a < nI N then (if nI N ≤ 6 then fm_X11_minutes_b44 5000 89 a (nI N) 0 1 (mk m2) else fm_X11_error 89 4 (mk m2)) else fm_X11_error 89 2 (mk m2) := fun mr hr => by
      obtain ⟨m2, b1, b2, b3⟩ := findH_ok (m := mr) (s := m.1 90) hr hN h0 hk
      refine ⟨m2, b1, b2, ?_⟩
      unfold fm_X11_minutes
      rw [if_pos hm, if_pos (his_89 mr), b3, ob2_some, if_pos (his_89 m2), ob2_eta, ob2_eta, if_pos (his_89 m2)]
    by_cases lt : a < nI N
    · by_cases le6 : N ≤ 6
      · have l6 : nI N ≤ 6 := nI_le (b := 6) le6 (by decide)
        have sp3 : ∀ i, i < 3 → ∃ v, v ≤ 30 ∧ m.1 90 (5 + i) = nI v := fun i hi => by
          obtain ⟨v, -, v2, v3⟩ := hw.2.2.2.2.2 i hi
          exact ⟨v, v2, v3⟩
        obtain ⟨sp, hs30, hsp⟩ : ∃ sp : Nat → Nat, (∀ i, sp i ≤ 30) ∧ ∀ i, i < 3 → m.1 90 (5 + i) = nI (sp i) := by
          obtain ⟨v0, a0, b0⟩ := sp3 0 (by decide)
          obtain ⟨v1, a1, b1⟩ := sp3 1 (by decide)
          obtain ⟨v2, a2, b2⟩ := sp3 2 (by decide)
          refine ⟨fun i => if i = 0 then v0 else if i = 1 then v1 else v2, fun i => ?_, fun i hi => ?_⟩
          · show (if i = 0 then v0 else if i = 1 then v1 else v2) ≤ 30
            split
            · exact a0
            · split
              · exact a1
              · exact a2
          · have : i = 0 ∨ i = 1 ∨ i = 2 := by omega
            rcases this with rfl | rfl | rfl
            · exact b0
            · exact b1
            · exact b2
        have h16 : ∀ i, i < 3 → m.1 16 i = nI (sp i) := fun i hi => (hq.2.1 i hi).trans (hsp i hi)
        obtain ⟨m1, c1, c2, c3, c4⟩ := plan_ok (m := m) (x := goneS (m.1 90)) l le6 hk hs30 h16
        have e90 : m1.1 90 = m.1 90 := c2.1 90 (by decide)
        obtain ⟨m2, b1, b2, b3⟩ := rpre m1 e90
        have hr2 : hrR N (hsz (goneS (m.1 90))) sp m2 := ⟨b2, fun i hi => by rw [b1.2 90 (by decide), e90]; exact hsp i hi⟩
        have p3 := pow3_le le6
        obtain ⟨m3, d1, d2⟩ := min_l (a := a) le6 (hsz_le _) hs30 (3 ^ N - 1) 1 5000 (by omega) (by omega) (by omega) m2 hr2
        rw [show bstR N (hsz (goneS (m.1 90))) sp 1 = 0 from rfl, show nI 0 = 0 from rfl, show nI 1 = 1 from rfl] at d1
        have hr3 : hrR N (hsz (goneS (m.1 90))) sp m3 := ⟨fun k hk => by rw [d2.2 98 (by decide)]; exact hr2.1 k hk, fun i hi => by rw [d2.2 90 (by decide)]; exact hr2.2 i hi⟩
        have bl := bstR_lt (N := N) (sz := hsz (goneS (m.1 90))) (sp := sp) (3 ^ N) p3.1
        have kc : kpC m m1 := ⟨fun c hc => ⟨c2.1 c (by omega), c2.2 c (by omega)⟩, by rw [c2.2 0 (by decide)]⟩
        have q1 : quayR m1 1 (m.1 90) := hq.mv fun c h1 h2 => ⟨c2.1 c (by omega), c2.2 c (by omega)⟩
        have fin0 : fm_X11_minutes 89 a (mk m1) = fm_X11_minutes_b44 1 89 a (nI N) (nI (bstR N (hsz (goneS (m.1 90))) sp (3 ^ N))) (nI (3 ^ N)) (mk m3) := by
          rw [b3, if_pos lt, if_pos l6, d1]
        rcases m1_or hm with ha | ⟨k, hk31, rfl⟩
        · obtain ⟨m4, f1, f2⟩ := mby_ok (p := bstR N (hsz (goneS (m.1 90))) sp (3 ^ N)) le6 (by omega) (hsz_le _) hs30 hr3
          refine h.see (v := nI (mnR N (bstR N (hsz (goneS (m.1 90))) sp (3 ^ N)) (hsz (goneS (m.1 90))) sp N)) (m1 := m1) (m2 := m4) ?_ ?_ kc q1 (kpR.tr b1.R (kpR.tr d2.R f2.R)) (by rw [f2.2 90 (by decide), d2.2 90 (by decide), b1.2 90 (by decide)])
          · rw [cpre, if_pos lt, if_pos l6, c1, Option.bind_some, if_neg (by rw [ha]; decide), gR_0_6, Option.bind_some, gI_72_4, Option.bind_some, c3]
          · rw [fin0, fm_X11_minutes_b44, threes_ok le6, Option.bind_some, if_pos (Int32.le_refl _), if_pos ha, if_pos (his_89 m3), f1, ob2_some]
        · have kN : k < N := (nI_ltI hk31 (by omega)).mp lt
          have ixk : nI N - 1 - nI k = nI (N - 1 - k) := by
            obtain ⟨N', rfl⟩ : ∃ z, N = z + 1 := ⟨N - 1, by omega⟩
            rw [nI_pred, pk_sub (by omega), show N' + 1 - 1 - k = N' - k by omega]
          have pk3 := pow3_le (N := N - 1 - k) (by omega)
          have nz : ¬ nI (3 ^ (N - 1 - k)) = 0 := nI_ne0 (by omega) (by omega)
          have dv : nI (bstR N (hsz (goneS (m.1 90))) sp (3 ^ N)) / nI (3 ^ (N - 1 - k)) = nI (bstR N (hsz (goneS (m.1 90))) sp (3 ^ N) / 3 ^ (N - 1 - k)) := pk_div (by omega) (by omega) (by omega)
          have rm : ji_rem (nI (bstR N (hsz (goneS (m.1 90))) sp (3 ^ N) / 3 ^ (N - 1 - k))) 3 = nI (dg N (bstR N (hsz (goneS (m.1 90))) sp (3 ^ N)) k) := rem3 (Nat.lt_of_le_of_lt (Nat.div_le_self _ _) (by omega))
          refine h.see (v := nI (dg N (bstR N (hsz (goneS (m.1 90))) sp (3 ^ N)) k)) (m1 := m1) (m2 := m3) ?_ ?_ kc q1 (kpR.tr b1.R d2.R) (by rw [d2.2 90 (by decide), b1.2 90 (by decide)])
          · rw [cpre, if_pos lt, if_pos l6, c1, Option.bind_some, if_pos (nI_pos' hk31), gR_0_6, Option.bind_some, gR_72_2, Option.bind_some, al_75 m1 (show k < 6 by omega), Option.bind_some, c4 k kN]
          · rw [fin0, fm_X11_minutes_b44, threes_ok le6, Option.bind_some, if_pos (Int32.le_refl _), if_neg (ne_m1 hk31), ixk, threes_ok (by omega), Option.bind_some, if_pos nz, dv, rm]
      · have l6 : ¬ nI N ≤ 6 := nI_ge (a := 6) (by omega) (by omega)
        refine h.errs (k := 4) (by decide) (by decide) ?_ fun m' e => ?_
        · rw [show (-1000000000 - nI 4 : Int32) = -1000000004 by decide, cpre, if_pos lt, if_neg l6]
        · obtain ⟨m2, b1, b2, b3⟩ := rpre m' e.at
          refine ⟨m2, b1.R, b1.2 90 (by decide), ?_⟩
          rw [b3, if_pos lt, if_neg l6]
          rfl
    · refine h.errs (k := 2) (by decide) (by decide) ?_ fun m' e => ?_
      · rw [show (-1000000000 - nI 2 : Int32) = -1000000002 by decide, cpre, if_neg lt]
      · obtain ⟨m2, b1, b2, b3⟩ := rpre m' e.at
        refine ⟨m2, b1.R, b1.2 90 (by decide), ?_⟩
        rw [b3, if_neg lt]
        rfl
  · refine h.e1 ?_ fun m' e => ?_
    · unfold fm_X10_minutes
      rw [if_neg hm, if_pos (his_0 m), ob2_eta]
    · unfold fm_X11_minutes
      rw [if_neg hm, if_pos (his_89 m'), ob2_eta]
