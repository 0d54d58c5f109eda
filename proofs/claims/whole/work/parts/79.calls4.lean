/-! CALLS: DAYS -/
theorem quayR.days {m m1 : xM2} {s : Nat → Int32} {n : Nat} (h : quayR m 1 s) (hs : scN 2 m m1) (hn : netR m1 2 (dayN s n)) : quayR m1 1 (dayN s n) :=
  h.net hs hn fun j h1 h2 => dayN_at (by omega) n
theorem wf.d0 {s : Nat → Int32} (h : wf s) : ∃ d, d ≤ 9999 ∧ s 0 = nI d := by
  obtain ⟨⟨-, -, ⟨d, d1, d2, -⟩, -⟩, -⟩ := h
  exact ⟨d, d1, d2⟩
theorem day_le {d n : Nat} (hd : d ≤ 9999) (hn : n ≤ 60) : (nI d + nI n ≤ 9999) ↔ d + n ≤ 9999 := by
  rw [nI_add]
  exact nI_leI (b := 9999) (by omega) (by decide)
theorem p_days {m : xM2} (h : Rel m) (a : Int32) : pr m (fm_X10_days 0 a) (fm_X11_days 89 a) := by
  obtain ⟨hq, hw, -⟩ := id h
  obtain ⟨d, d1, d2⟩ := hw.d0
  have day : m.2 2 10 = nI d := hq.1.2.2.2.2.2.2.2.1.trans d2
  rcases inC a (lo := 1) (hi := 60) 1 60 with ⟨n, n1, n2, rfl, ea⟩ | ea
  · by_cases q : d + n ≤ 9999
    · have q' := (day_le d1 n2).mpr q
      obtain ⟨m1, a1, a2, a3⟩ := passDays_ok (N := n) no2 hq.1 hw.d (by decide) (by omega)
      have e90 := a1.s
      obtain ⟨m2, b1, b2, b3⟩ := go_ok (m := m1) (N := n) (by rw [e90]; exact hw.d) (by omega)
      rw [e90] at b2
      refine h.ok (v := nI (cnt (gn (dayN (m.1 90) n)) 31)) (m1 := m1) (m2 := m2) ?_ ?_ a1.C b1.R (hq.days a1 a2) b2 (hw.days d2 q)
      · simp only [fm_X10_days, fm_X10_daysError, below2, below3, below4, below5, below6, below7, below20, below31, below70, within_in, fm_X11_isKnot, fm_X11_isThread, fm_X11_isHand, fm_X11_isSheet, his_0, his_89, Option.bind_some, ob2_some, if_true, if_false, reduceIte, ob2_eta, one_ne, ea, gR_0_0, gR_1_0, gI_2_10, day, q', his_2, a3, missT_ok no2 a2]
      · simp only [fm_X11_days, below2, below3, below4, below5, below6, below7, below20, below31, below70, within_in, fm_X11_isKnot, fm_X11_isThread, fm_X11_isHand, fm_X11_isSheet, his_0, his_89, Option.bind_some, ob2_some, if_true, if_false, reduceIte, ob2_eta, one_ne, ea, gR_89_0, al0, e90, d2, q', b3, missing_ok, b2]
    · have q' : ¬ (nI d + nI n ≤ 9999) := fun x => q ((day_le d1 n2).mp x)
      refine h.e3 ?_ fun m' e => ?_
      · simp only [fm_X10_days, fm_X10_daysError, below2, below3, below4, below5, below6, below7, below20, below31, below70, within_in, fm_X11_isKnot, fm_X11_isThread, fm_X11_isHand, fm_X11_isSheet, his_0, his_89, Option.bind_some, ob2_some, if_true, if_false, reduceIte, ob2_eta, one_ne, ea, gR_0_0, gR_1_0, gI_2_10, day, q', show ¬ (-1000000003 : Int32) = 0 by decide]
      · simp only [fm_X11_days, below2, below3, below4, below5, below6, below7, below20, below31, below70, within_in, fm_X11_isKnot, fm_X11_isThread, fm_X11_isHand, fm_X11_isSheet, his_0, his_89, Option.bind_some, ob2_some, if_true, if_false, reduceIte, ob2_eta, one_ne, ea, gR_89_0, al0, e.at (a := 90), d2, q']
  · refine h.e1 ?_ fun m' e => ?_
    · simp only [fm_X10_days, fm_X10_daysError, below2, below3, below4, below5, below6, below7, below20, below31, below70, within_in, fm_X11_isKnot, fm_X11_isThread, fm_X11_isHand, fm_X11_isSheet, his_0, his_89, Option.bind_some, ob2_some, if_true, if_false, reduceIte, ob2_eta, one_ne, ea, show ¬ (-1000000001 : Int32) = 0 by decide]
    · simp only [fm_X11_days, below2, below3, below4, below5, below6, below7, below20, below31, below70, within_in, fm_X11_isKnot, fm_X11_isThread, fm_X11_isHand, fm_X11_isSheet, his_0, his_89, Option.bind_some, ob2_some, if_true, if_false, reduceIte, ob2_eta, one_ne, ea]
/-- a seal's bite and a day -/
def drZ (s : Nat → Int32) : Int32 := s 4 * 1103515245 + 12345
def drT (s : Nat → Int32) : Int32 := ji_rem (ji_ushr (drZ s) 8) 31
theorem drT_ok (s : Nat → Int32) : ∃ t, t < 31 ∧ drT s = nI t := by
  unfold drT
  have e : ji_ushr (drZ s) 8 = nI (tN (drZ s) / 2 ^ 8) := tN_nI (by have := tN_lt (drZ s); omega) (tN_ushr (drZ s) (k := 8) (by decide))
  rw [e]
  exact ⟨_, Nat.mod_lt _ (by decide), pk_rem (d := 31) (by have := tN_lt (drZ s); omega) (by decide) (by decide)⟩
def drS (s : Nat → Int32) : Nat → Int32 := dayS (upd (upd (upd s 4 (drZ s)) (88 + 3 * (drT s).toNatClampNeg + 0) 0) (88 + 3 * (drT s).toNatClampNeg + 1) 0)
def drN (s : Nat → Int32) : Nat → Nat → Int32
  | 0 => s
  | n + 1 => drS (drN s n)
theorem drN_succ (s : Nat → Int32) (n : Nat) : drN s (n + 1) = drS (drN s n) := rfl
theorem drS_eq {s : Nat → Int32} {t : Nat} (ht : t < 31) (e : drT s = nI t) : drS s = dayS (upd (upd (upd s 4 (drZ s)) (88 + 3 * t + 0) 0) (88 + 3 * t + 1) 0) := by
  unfold drS
  rw [e, nI_clamp (by omega)]
theorem wf.draw {s : Nat → Int32} {d : Nat} (h : wf s) (h0 : s 0 = nI d) (hd : d + 1 ≤ 9999) : wf (drS s) ∧ drS s 0 = nI (d + 1) := by
  obtain ⟨t, ht, e⟩ := drT_ok s
  rw [drS_eq ht e]
  have w := (h.low (j := 4) (x := drZ s) (by decide)).lose ht
  have z : (upd (upd (upd s 4 (drZ s)) (88 + 3 * t + 0) 0) (88 + 3 * t + 1) 0) 0 = nI d := by rw [upd_n (by omega), upd_n (by omega), upd_n (by omega)]; exact h0
  exact ⟨w.days (n := 1) z hd, dayN_0 z 1⟩
theorem wf.drawN {s : Nat → Int32} {d : Nat} (h : wf s) (h0 : s 0 = nI d) : ∀ n, d + n ≤ 9999 → wf (drN s n) ∧ drN s n 0 = nI (d + n)
  | 0, _ => ⟨h, h0⟩
  | n + 1, hd => by
    obtain ⟨a, b⟩ := wf.drawN h h0 n (by omega)
    exact a.draw b (by omega)
theorem draws_c {N : Nat} {s : Nat → Int32} {d : Nat} (hw : wf s) (h0 : s 0 = nI d) (hN : d + N ≤ 9999) : ∀ (j i n : Nat), i + j = N → j < n → ∀ m : xM2, quayR m 1 (drN s i) → ∃ m', kpC m m' ∧ quayR m' 1 (drN s N) ∧ fm_X10_draws_b18 n 0 (nI N) (nI i) (mk m) = some (nI (cnt (gn (drN s N)) 31), mk m') := by
  intro j
  induction j with
  | zero =>
    intro i n hi hn m hm
    obtain ⟨n, rfl⟩ : ∃ n', n = n' + 1 := ⟨n - 1, by omega⟩
    have : i = N := by omega
    subst this
    refine ⟨m, kpC.rf, hm, ?_⟩
    rw [fm_X10_draws_b18, if_pos (Int32.le_refl _)]
    simp only [gR_0_0, gR_1_0, Option.bind_some, ob2_some, if_true, if_false, reduceIte, his_2, missT_ok no2 hm.1]
  | succ j ih =>
    intro i n hi hn m hm
    obtain ⟨n, rfl⟩ : ∃ n', n = n' + 1 := ⟨n - 1, by omega⟩
    obtain ⟨w, z⟩ := hw.drawN h0 i (by omega)
    obtain ⟨t, ht, e⟩ := drT_ok (drN s i)
    have q1 := hm.fld (k := 7) (j := 4) (x := drZ (drN s i))
    obtain ⟨m1, c1, c2, c3, -⟩ := lose_ok no2 q1.1 ht
    have w2 := (w.low (j := 4) (x := drZ (drN s i)) (by decide)).lose ht
    obtain ⟨m2, d1, d2, d3⟩ := pass_ok no2 c2 w2.d (by decide)
    rw [← drS_eq ht e, ← drN_succ] at d2
    have q2 : quayR m2 1 (drN s (i + 1)) := q1.net (c1.tr d1) d2 fun j h1 h2 => by
      rw [drN_succ, drS_eq ht e, dayS, upd_n (by omega), dl_lo (by omega), upd_n (by omega), upd_n (by omega)]
    obtain ⟨m3, k1, k2, k3⟩ := ih (i + 1) n (by omega) (by omega) m2 q2
    refine ⟨m3, (kpC.tr kpC.F (c1.tr d1).C).tr k1, k2, ?_⟩
    have ez : m.2 1 7 = drN s i 4 := hm.2.2.2.2.2.2.2
    have ez2 : m.2 1 7 * 1103515245 + 12345 = drZ (drN s i) := by rw [ez]; rfl
    have et : ji_rem (ji_ushr (drZ (drN s i)) 8) 31 = nI t := e
    rw [fm_X10_draws_b18, if_neg (nI_ge (by omega) (by omega))]
    simp only [gR_0_0, gR_1_0, Option.bind_some, ob2_some, if_true, if_false, reduceIte, his_1, his_2, fm_X6_nextDraw, gI_1_7, mP_1_7, ez2, sF_s, upd_s, et, c3, d3, nI_1]
    exact k3
theorem draws_r {N : Nat} {s : Nat → Int32} {d : Nat} (hw : wf s) (h0 : s 0 = nI d) (hN : d + N ≤ 9999) : ∀ (j i n : Nat), i + j = N → j < n → ∀ m : xM2, m.1 90 = drN s i → ∃ m', kpR m m' ∧ m'.1 90 = drN s N ∧ fm_X11_draws_b38 n 89 (nI N) (nI i) (mk m) = some (nI (cnt (gn (drN s N)) 31), mk m') := by
  intro j
  induction j with
  | zero =>
    intro i n hi hn m hm
    obtain ⟨n, rfl⟩ : ∃ n', n = n' + 1 := ⟨n - 1, by omega⟩
    have : i = N := by omega
    subst this
    refine ⟨m, kpR.rf, hm, ?_⟩
    rw [fm_X11_draws_b38, if_pos (Int32.le_refl _)]
    simp only [his_89, Option.bind_some, ob2_some, if_true, if_false, reduceIte, missing_ok, hm]
  | succ j ih =>
    intro i n hi hn m hm
    obtain ⟨n, rfl⟩ : ∃ n', n = n' + 1 := ⟨n - 1, by omega⟩
    obtain ⟨w, z⟩ := hw.drawN h0 i (by omega)
    obtain ⟨t, ht, e⟩ := drT_ok (drN s i)
    have w2 := (w.low (j := 4) (x := drZ (drN s i)) (by decide)).lose ht
    obtain ⟨m2, d1, d2, d3⟩ := day_ok (m := sA m 90 (upd (upd (upd (drN s i) 4 (drZ (drN s i))) (88 + 3 * t + 0) 0) (88 + 3 * t + 1) 0)) (by rw [sA_s]; exact w2.1.1) (by rw [sA_s]; exact w2.1.2.1)
    rw [sA_s, ← drS_eq ht e, ← drN_succ] at d2
    obtain ⟨m3, k1, k2, k3⟩ := ih (i + 1) n (by omega) (by omega) m2 d2
    refine ⟨m3, (kpR.tr kpR.A d1.R).tr k1, k2, ?_⟩
    have al4 : ∀ m : xM2, hp_ald (mk m) 90 4 = some (m.1 90 4) := fun m => al_90 m (i := 4) (by decide)
    have as4 : ∀ (m : xM2) x, hp_ast (mk m) 90 4 x = some (mk (sA m 90 (upd (m.1 90) 4 x))) := fun m x => as_90 m (i := 4) (by decide)
    have dr : fm_X11_draw 89 (mk m) = some (ji_ushr (drZ (drN s i)) 8, mk (sA m 90 (upd (drN s i) 4 (drZ (drN s i))))) := by
      unfold fm_X11_draw drZ
      simp only [gR_89_0, Option.bind_some, ob2_some, if_true, if_false, reduceIte, al4, as4, hm, sA_s, upd_s]
    have et : ji_rem (ji_ushr (drZ (drN s i)) 8) 31 = nI t := e
    have lo := loses_ok (m := sA m 90 (upd (drN s i) 4 (drZ (drN s i)))) ht
    rw [sA_s, sA_sA] at lo
    rw [fm_X11_draws_b38, if_neg (nI_ge (by omega) (by omega)), if_pos (his_89 m), dr, ob2_some, if_pos (his_89 _), et, lo, Option.bind_some, if_pos (his_89 _), d3, Option.bind_some, nI_1]
    exact k3
theorem p_draws {m : xM2} (h : Rel m) (a : Int32) : pr m (fm_X10_draws 0 a) (fm_X11_draws 89 a) := by
  obtain ⟨hq, hw, -⟩ := id h
  obtain ⟨d, d1, d2⟩ := hw.d0
  have day : m.2 2 10 = nI d := hq.1.2.2.2.2.2.2.2.1.trans d2
  rcases inC a (lo := 1) (hi := 60) 1 60 with ⟨n, n1, n2, rfl, ea⟩ | ea
  · by_cases q : d + n ≤ 9999
    · have q' := (day_le d1 n2).mpr q
      obtain ⟨m1, a1, a2, a3⟩ := draws_c hw d2 q n 0 5000 (by omega) (by omega) m hq
      have e90 : m1.1 90 = m.1 90 := (a1.1 90 (Or.inr (by decide))).1
      obtain ⟨m2, b1, b2, b3⟩ := draws_r hw d2 q n 0 5000 (by omega) (by omega) m1 e90
      rw [show nI 0 = 0 from rfl] at a3 b3
      refine h.ok (v := nI (cnt (gn (drN (m.1 90) n)) 31)) (m1 := m1) (m2 := m2) ?_ ?_ a1 b1 a2 b2 (hw.drawN d2 n q).1
      · simp only [fm_X10_draws, fm_X10_daysError, below2, below3, below4, below5, below6, below7, below20, below31, below70, within_in, fm_X11_isKnot, fm_X11_isThread, fm_X11_isHand, fm_X11_isSheet, his_0, his_89, Option.bind_some, ob2_some, if_true, if_false, reduceIte, ob2_eta, one_ne, ea, gR_0_0, gR_1_0, gI_2_10, day, q', a3]
      · simp only [fm_X11_draws, below2, below3, below4, below5, below6, below7, below20, below31, below70, within_in, fm_X11_isKnot, fm_X11_isThread, fm_X11_isHand, fm_X11_isSheet, his_0, his_89, Option.bind_some, ob2_some, if_true, if_false, reduceIte, ob2_eta, one_ne, ea, gR_89_0, al0, e90, d2, q', b3]
    · have q' : ¬ (nI d + nI n ≤ 9999) := fun x => q ((day_le d1 n2).mp x)
      refine h.e3 ?_ fun m' e => ?_
      · simp only [fm_X10_draws, fm_X10_daysError, below2, below3, below4, below5, below6, below7, below20, below31, below70, within_in, fm_X11_isKnot, fm_X11_isThread, fm_X11_isHand, fm_X11_isSheet, his_0, his_89, Option.bind_some, ob2_some, if_true, if_false, reduceIte, ob2_eta, one_ne, ea, gR_0_0, gR_1_0, gI_2_10, day, q', show ¬ (-1000000003 : Int32) = 0 by decide]
      · simp only [fm_X11_draws, below2, below3, below4, below5, below6, below7, below20, below31, below70, within_in, fm_X11_isKnot, fm_X11_isThread, fm_X11_isHand, fm_X11_isSheet, his_0, his_89, Option.bind_some, ob2_some, if_true, if_false, reduceIte, ob2_eta, one_ne, ea, gR_89_0, al0, e.at (a := 90), d2, q']
  · refine h.e1 ?_ fun m' e => ?_
    · simp only [fm_X10_draws, fm_X10_daysError, below2, below3, below4, below5, below6, below7, below20, below31, below70, within_in, fm_X11_isKnot, fm_X11_isThread, fm_X11_isHand, fm_X11_isSheet, his_0, his_89, Option.bind_some, ob2_some, if_true, if_false, reduceIte, ob2_eta, one_ne, ea, show ¬ (-1000000001 : Int32) = 0 by decide]
    · simp only [fm_X11_draws, below2, below3, below4, below5, below6, below7, below20, below31, below70, within_in, fm_X11_isKnot, fm_X11_isThread, fm_X11_isHand, fm_X11_isSheet, his_0, his_89, Option.bind_some, ob2_some, if_true, if_false, reduceIte, ob2_eta, one_ne, ea]
theorem no37 : isNet 37 := by unfold isNet; omega
theorem no51 : isNet 51 := by unfold isNet; omega
theorem quayR.far {m m1 : xM2} {s : Nat → Int32} {o : Nat} (h : quayR m 1 s) (hs : scN o m m1) (ho : 19 ≤ o) : quayR m1 1 s := h.mv fun a h1 h2 => hs a (by omega)
theorem p_then {m : xM2} (h : Rel m) (a b c : Int32) : pr m (fm_X10_then 0 a b c) (fm_X11_then 89 a b c) := by
  rcases inC a (lo := 0) (hi := 60) 0 60 with ⟨n, -, n2, rfl, ea⟩ | ea
  · rcases inC b (lo := 0) (hi := 30) 0 30 with ⟨t, -, ht, rfl, eb⟩ | eb
    · rcases inC c (lo := 0) (hi := 5) 0 5 with ⟨w, -, hw', rfl, ec⟩ | ec
      · obtain ⟨hq, hw, -⟩ := id h
        have ht' : t < 31 := by omega
        obtain ⟨m1, a1, a2, a3⟩ := become_ok no37 no2 (by decide) hq.1
        obtain ⟨m2, b1, b2, b3⟩ := passDays_ok (N := n) no37 a2 hw.d (by decide) (by omega)
        obtain ⟨m3, c1, c2⟩ := fact_ok no37 b2 (dayN_ok hw.d n) (by omega) ht' hw'
        have s3 : scN 37 m m3 := (a1.tr b1).tr c1.N
        have e90 : m3.1 90 = m.1 90 := s3.s
        obtain ⟨m4, d1, d2, d3⟩ := go_ok (m := sA m3 92 (cpy (m.1 90) (m3.1 92) 181)) (N := n) (B := 9999) (by rw [sA_n (by decide), e90]; exact hw.d) (by omega)
        rw [sA_n (by decide), e90] at d2
        obtain ⟨m5, f1, f2⟩ := told_ok (m := m4) ht' hw' (by rw [d2]; exact (dayN_ok hw.d n).1) (by rw [d2]; exact dayN_whole hw.2.2.1 n t ht')
        rw [d2] at f2
        have r92 : m5.1 92 = cpy (m.1 90) (m3.1 92) 181 := by rw [f1.2 92 (by decide) (by decide), d1.2 92 (by decide) (by decide) (by decide), sA_s]
        have bk : cpy (m5.1 92) (m5.1 90) 181 = m.1 90 := by rw [r92]; exact back_eq fun j hj => by rw [f1.s, d2, dayN_at (by omega)]
        refine h.see (v := factS (dayN (m.1 90) n) t w) (m1 := m3) (m2 := sA m5 90 (m.1 90)) ?_ ?_ s3.C (hq.far s3 (by decide)) (((kpR.A (a := 92)).tr d1.R).tr (kpR.tr f1.R kpR.A)) (by rw [sA_s, e90])
        · simp only [fm_X10_then, below2, below3, below4, below5, below6, below7, below20, below31, below70, within_in, fm_X11_isKnot, fm_X11_isThread, fm_X11_isHand, fm_X11_isSheet, his_0, his_89, Option.bind_some, ob2_some, if_true, if_false, reduceIte, ob2_eta, one_ne, ea, eb, ec, gR_0_0, gR_0_2, gR_1_0, his_37, a3, b3, c2]
        · simp only [fm_X11_then, below2, below3, below4, below5, below6, below7, below20, below31, below70, within_in, fm_X11_isKnot, fm_X11_isThread, fm_X11_isHand, fm_X11_isSheet, his_0, his_89, Option.bind_some, ob2_some, if_true, if_false, reduceIte, ob2_eta, one_ne, ea, eb, ec, layDown_ok, e90, d3, f2, layBack_ok, bk]
      · refine h.e1 ?_ fun m' e => ?_ <;> simp only [fm_X10_then, fm_X11_then, fm_X10_then_b28, fm_X11_then_b26, below2, below3, below4, below5, below6, below7, below20, below31, below70, within_in, fm_X11_isKnot, fm_X11_isThread, fm_X11_isHand, fm_X11_isSheet, his_0, his_89, Option.bind_some, ob2_some, if_true, if_false, reduceIte, ob2_eta, one_ne, ea, eb, ec]
    · refine h.e1 ?_ fun m' e => ?_ <;> simp only [fm_X10_then, fm_X11_then, fm_X10_then_b28, fm_X11_then_b26, below2, below3, below4, below5, below6, below7, below20, below31, below70, within_in, fm_X11_isKnot, fm_X11_isThread, fm_X11_isHand, fm_X11_isSheet, his_0, his_89, Option.bind_some, ob2_some, if_true, if_false, reduceIte, ob2_eta, one_ne, ea, eb]
  · refine h.e1 ?_ fun m' e => ?_ <;> simp only [fm_X10_then, fm_X11_then, fm_X10_then_b28, fm_X11_then_b26, below2, below3, below4, below5, below6, below7, below20, below31, below70, within_in, fm_X11_isKnot, fm_X11_isThread, fm_X11_isHand, fm_X11_isSheet, his_0, his_89, Option.bind_some, ob2_some, if_true, if_false, reduceIte, ob2_eta, one_ne, ea]
