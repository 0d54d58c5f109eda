/-! MENDING AHEAD: THREADS WEAR EACH FOR ITSELF -/
def sameT (u : Nat) (s s' : Nat → Int32) : Prop := (∀ j, j < 88 → s' j = s j) ∧ eq181 s s' ∧ ∀ w, w < 3 → s' (88 + 3 * u + w) = s (88 + 3 * u + w)
theorem sameT.g_ {u : Nat} {s s' : Nat → Int32} (h : sameT u s s') : gn s' u = gn s u := by
  have := h.2.2 0 (by decide)
  unfold gn
  rw [show 88 + 3 * u = 88 + 3 * u + 0 from rfl, this]
theorem sameT.dwE {u i : Nat} {s s' : Nat → Int32} (h : sameT u s s') {w : Nat} (hw : w < 3) : dw s' i (88 + 3 * u + w) = dw s i (88 + 3 * u + w) := by
  rw [dw_at hw, dw_at hw, h.g_, h.2.2 w hw, wearS_eq (t := u) (w := s (88 + 3 * u + w)) h.2.1 (h.1 0 (by decide)) (h.2.2 2 (by decide))]
theorem sameT.di {u : Nat} {s s' : Nat → Int32} (h : sameT u s s') (hu : u < 31) : dies s' u = dies s u := by
  have k1 := kL_lt u hu
  have k2 := kR_lt u hu
  unfold dies strS
  rw [h.g_, h.dwE (by decide), holdsS_eq k1 h.2.1 h.1, holdsS_eq k2 h.2.1 h.1]
theorem sameT.dy {u : Nat} {s s' : Nat → Int32} (h : sameT u s s') (hu : u < 31) : sameT u (dayS s) (dayS s') := by
  refine ⟨fun j hj => ?_, fun j hj => ?_, fun w hw => ?_⟩
  · unfold dayS
    by_cases e : j = 0
    · rw [e, upd_s, upd_s, h.1 0 (by decide)]
    · rw [upd_n e, upd_n e, dl_lo (Or.inl hj), dl_lo (Or.inl hj), h.1 j hj]
  · unfold dayS
    rw [upd_n (by omega), upd_n (by omega), dl_lo (Or.inr ⟨hj, by decide⟩), dl_lo (Or.inr ⟨hj, by decide⟩), h.2.1 j hj]
  · unfold dayS
    rw [upd_n (by omega), upd_n (by omega), dl_at hw, dl_at hw, h.di hu, h.dwE hw]
theorem sameT.dyN {u : Nat} {s s' : Nat → Int32} (h : sameT u s s') (hu : u < 31) : ∀ n, sameT u (dayN s n) (dayN s' n)
  | 0 => h
  | n + 1 => (sameT.dyN h hu n).dy hu
theorem renS_lo {s : Nat → Int32} {t j : Nat} (h : j < 88 + 3 * t ∨ 88 + 3 * t + 3 ≤ j) : renS s t j = s j := by unfold renS; rw [upd_n (by omega), upd_n (by omega), upd_n (by omega)]
theorem renS_at {s : Nat → Int32} {t : Nat} : renS s t (88 + 3 * t + 0) = 1 ∧ renS s t (88 + 3 * t + 1) = 0 ∧ renS s t (88 + 3 * t + 2) = s 0 := by
  unfold renS
  refine ⟨?_, ?_, upd_s⟩
  · rw [upd_n (by omega), upd_n (by omega), upd_s]
  · rw [upd_n (by omega), upd_s]
def raS (s : Nat → Int32) : Nat → Nat → Int32
  | 0 => s
  | i + 1 => if gn s i then raS s i else renS (raS s i) i
theorem raS_far {s : Nat → Int32} {j : Nat} : ∀ i, i ≤ 31 → (j < 88 ∨ 88 + 3 * i ≤ j) → raS s i j = s j
  | 0, _, _ => rfl
  | i + 1, hi, h => by
    rw [raS]
    split
    · exact raS_far i (by omega) (by omega)
    · rw [renS_lo (by omega)]; exact raS_far i (by omega) (by omega)
theorem raS_gn {s : Nat → Int32} {i : Nat} (hi : i ≤ 31) : gn (raS s i) i = gn s i := by
  unfold gn
  rw [raS_far i hi (by omega)]
theorem raS_wf {s : Nat → Int32} (h : wf s) : ∀ i, i ≤ 31 → wf (raS s i)
  | 0, _ => h
  | i + 1, hi => by
    rw [raS]
    split
    · exact raS_wf h i (by omega)
    · exact (raS_wf h i (by omega)).renew (by omega)
theorem raS_at {s : Nat → Int32} {t w : Nat} (ht : t < 31) (hw : w < 3) (hg : gn s t = false) : ∀ i, t < i → i ≤ 31 → raS s i (88 + 3 * t + w) = renS s t (88 + 3 * t + w)
  | 0, h, _ => absurd h (by omega)
  | i + 1, h, hi => by
    rw [raS]
    by_cases e : t = i
    · subst e
      rw [hg, if_neg (by decide)]
      have a := renS_at (s := raS s t) (t := t)
      have b := renS_at (s := s) (t := t)
      have z : raS s t 0 = s 0 := raS_far t (by omega) (Or.inl (by decide))
      have : w = 0 ∨ w = 1 ∨ w = 2 := by omega
      rcases this with rfl | rfl | rfl
      · rw [a.1, b.1]
      · rw [a.2.1, b.2.1]
      · rw [a.2.2, b.2.2, z]
    · split
      · exact raS_at ht hw hg i (by omega) (by omega)
      · rw [renS_lo (by omega)]; exact raS_at ht hw hg i (by omega) (by omega)
theorem same_ren {s : Nat → Int32} {t u : Nat} (ht : t < 31) (hu : u < 31) (h : u ≠ t) : sameT u s (renS s t) := ⟨fun j hj => renS_lo (by omega), fun j hj => renS_lo (by omega), fun w hw => renS_lo (by omega)⟩
theorem same_all {s : Nat → Int32} {t : Nat} (ht : t < 31) (hg : gn s t = false) : sameT t (renS s t) (raS s 31) := ⟨fun j hj => by rw [renS_lo (by omega), raS_far 31 (by decide) (by omega)], fun j hj => by rw [renS_lo (by omega), raS_far 31 (by decide) (by omega)], fun w hw => raS_at ht hw hg 31 ht (by decide)⟩
/-- how many are missing if one thread alone were new -/
def maC (s : Nat → Int32) (n t : Nat) : Nat := cnt (gn (dayN (renS s t) n)) 31
theorem ma_cnt {s : Nat → Int32} {n t : Nat} (ht : t < 31) (hg : gn s t = false) : fm_J6_bitCount_0f7a4 ((goneS (dayN s n) &&& (ji_shl 1 (nI t) ^^^ (-1))) ||| (goneS (dayN (raS s 31) n) &&& ji_shl 1 (nI t))) = nI (maC s n t) := by
  have l : lo 31 ((goneS (dayN s n) &&& (ji_shl 1 (nI t) ^^^ (-1))) ||| (goneS (dayN (raS s 31) n) &&& ji_shl 1 (nI t))) := fun i hi h => by
    rw [b_or, b_and, b_and, lo_gone _ i hi h, lo_gone _ i hi h]; rfl
  rw [bitCount_lo l]
  congr 1
  refine cnt_cong fun u hu => ?_
  rw [b_or, b_and, b_and, bt_not _ (by omega), bt_shl1 (by omega) (by omega), bt_gone hu, bt_gone hu]
  by_cases e : u = t
  · subst e
    rw [((same_all ht hg).dyN ht n).g_]
    simp
  · rw [((same_ren ht hu e).dyN hu n).g_]
    simp [e]
theorem renAll_l {o : Nat} {s : Nat → Int32} (ho : isNet o) : ∀ (j i n : Nat), i + j = 31 → j < n → ∀ m : xM2, netR m o (raS s i) → ∃ m', scN o m m' ∧ netR m' o (raS s 31) ∧ fm_X5_renewAll_b2 n o (nI i) (mk m) = some (mk m') := by
  intro j
  induction j with
  | zero =>
    intro i n hi hn m hm
    obtain ⟨n, rfl⟩ : ∃ n', n = n' + 1 := ⟨n - 1, by omega⟩
    have : i = 31 := by omega
    subst this
    exact ⟨m, scN.rf, hm, by rw [fm_X5_renewAll_b2, if_pos le31]⟩
  | succ j ih =>
    intro i n hi hn m hm
    obtain ⟨n, rfl⟩ : ∃ n', n = n' + 1 := ⟨n - 1, by omega⟩
    have i31 : i < 31 := by omega
    have nm := nmiss_ok ho hm.2.2.2.2.2.2.1 i31
    rw [raS_gn (by omega)] at nm
    cases g : gn s i
    · obtain ⟨m1, a1, a2, a3⟩ := renew_ok ho hm i31
      have e : raS s (i + 1) = renS (raS s i) i := by rw [raS, g, if_neg (by decide)]
      rw [← e] at a2
      obtain ⟨m', b1, b2, b3⟩ := ih (i + 1) n (by omega) (by omega) m1 a2
      refine ⟨m', a1.tr b1, b2, ?_⟩
      rw [fm_X5_renewAll_b2, if_neg (n31 i31), if_pos (ntH ho m), nm, g, if_neg (by decide), Option.bind_some, if_pos rfl, a3, Option.bind_some, fm_X5_renewAll_b21, nI_1]
      exact b3
    · have e : raS s (i + 1) = raS s i := by rw [raS, g, if_pos rfl]
      obtain ⟨m', b1, b2, b3⟩ := ih (i + 1) n (by omega) (by omega) m (by rw [e]; exact hm)
      refine ⟨m', b1, b2, ?_⟩
      rw [fm_X5_renewAll_b2, if_neg (n31 i31), if_pos (ntH ho m), nm, g, if_pos rfl, Option.bind_some, if_neg one_ne, fm_X5_renewAll_b21, nI_1]
      exact b3
/-- state of the search: none yet, or the best and how many -/
def maQ (bC fC bR fR : Int32) (set : Bool) : Prop := if set then bC = bR ∧ fC = fR ∧ ∃ b f : Nat, b < 31 ∧ f ≤ 31 ∧ bC = nI b ∧ fC = nI f else bC = -1 ∧ fC = 32 ∧ bR = -1
theorem ma_l {s : Nat → Int32} {N : Nat} {w : Int32} {mC : xM2} (hw : wf s) (hN : N ≤ 60) (h2 : mC.2 2 9 = goneS s) (h37 : mC.2 37 9 = goneS (dayN s N)) (h51 : mC.2 51 9 = goneS (dayN (raS s 31) N)) :
    ∀ (j i n n' : Nat), i + j = 31 → j < n → j < n' → ∀ (bC fC bR fR : Int32) (set : Bool), maQ bC fC bR fR set → (set = true ∨ ∃ t, i ≤ t ∧ t < 31 ∧ gn s t = false) →
      ∃ v, fm_X10_mendAhead_b107 n 0 w bC fC (nI i) (mk mC) = some (v, mk mC) ∧ ∀ mr : xM2, mr.1 90 = s → (∀ k, k < 181 → mr.1 92 k = s k) → ∃ mr', fm_X11_mendAhead_b37 n' 89 (nI N) w bR fR (nI i) (mk mr) = some (v, mk mr') ∧ kpR mr mr' ∧ mr'.1 90 = s := by
  intro j
  induction j with
  | zero =>
    intro i n n' hi hn hn' bC fC bR fR set hq hx
    obtain ⟨n, rfl⟩ : ∃ z, n = z + 1 := ⟨n - 1, by omega⟩
    obtain ⟨n', rfl⟩ : ∃ z, n' = z + 1 := ⟨n' - 1, by omega⟩
    have : i = 31 := by omega
    subst this
    rcases hx with rfl | ⟨t, t1, t2, -⟩
    · obtain ⟨e1, e2, b, f, b1, b2, b3, b4⟩ := hq
      subst e1
      subst e2
      refine ⟨if w = 0 then bC else fC, ?_, fun mr h3 h4 => ⟨mr, ?_, kpR.rf, h3⟩⟩
      · rw [fm_X10_mendAhead_b107, if_pos le31]
        split <;> rfl
      · rw [fm_X11_mendAhead_b37, if_pos le31, if_neg (by rw [b3]; exact ne_m1 (by omega))]
        split <;> rfl
    · omega
  | succ j ih =>
    intro i n n' hi hn hn' bC fC bR fR set hq hx
    obtain ⟨n, rfl⟩ : ∃ z, n = z + 1 := ⟨n - 1, by omega⟩
    obtain ⟨n', rfl⟩ : ∃ z, n' = z + 1 := ⟨n' - 1, by omega⟩
    have i31 : i < 31 := by omega
    have nm := nmiss_ok (m := mC) no2 h2 i31
    cases g : gn s i
    · have mc := ma_cnt (n := N) i31 g
      have c31 : maC s N i ≤ 31 := cnt_le 31
      have cC : ∀ bC fC, fm_X10_mendAhead_b107 (n + 1) 0 w bC fC (nI i) (mk mC) = fm_X10_mendAhead_b107 n 0 w (if fC ≤ nI (maC s N i) then bC else nI i) (if fC ≤ nI (maC s N i) then fC else nI (maC s N i)) (nI (i + 1)) (mk mC) := fun bC fC => by
        rw [fm_X10_mendAhead_b107, if_neg (n31 i31), gR_0_2, Option.bind_some, gI_37_9, Option.bind_some, gR_0_3, Option.bind_some, gI_51_9, Option.bind_some, gR_0_0, Option.bind_some, gR_1_0, Option.bind_some, if_pos (his_2 mC), nm, g, if_neg (by decide), Option.bind_some, if_pos rfl, h37, h51, mc, fm_X10_mendAhead_b175, nI_1]
      have cR : ∀ mr : xM2, mr.1 90 = s → (∀ k, k < 181 → mr.1 92 k = s k) → ∃ m1, kpR mr m1 ∧ m1.1 90 = s ∧ (∀ k, k < 181 → m1.1 92 k = s k) ∧ ∀ bR fR, fm_X11_mendAhead_b37 (n' + 1) 89 (nI N) w bR fR (nI i) (mk mr) = fm_X11_mendAhead_b37 n' 89 (nI N) w (if bR = -1 then nI i else if fR ≤ nI (maC s N i) then bR else nI i) (if bR = -1 then nI (maC s N i) else if fR ≤ nI (maC s N i) then fR else nI (maC s N i)) (nI (i + 1)) (mk m1) := fun mr h3 h4 => by
        have rn := renews_ok (m := mr) i31
        rw [h3, show upd (upd (upd s (88 + 3 * i + 0) 1) (88 + 3 * i + 1) 0) (88 + 3 * i + 2) (s 0) = renS s i from rfl] at rn
        have wr : wf (renS s i) := hw.renew i31
        obtain ⟨m2, d1, d2, d3⟩ := go_ok (m := sA mr 90 (renS s i)) (N := N) (B := 9999) (by rw [sA_s]; exact wr.d) (by omega)
        rw [sA_s] at d2
        have r92 : m2.1 92 = mr.1 92 := by rw [d1.2 92 (by decide) (by decide) (by decide), sA_n (by decide)]
        have bk : cpy (m2.1 92) (m2.1 90) 181 = s := by
          rw [r92, d2]
          funext k
          by_cases q : k < 181
          · rw [cpy_lt q, h4 k q]
          · rw [cpy_ge (by omega), dayN_at (by omega), renS_lo (by omega)]
        refine ⟨sA m2 90 s, (kpR.tr kpR.A d1.R).tr kpR.A, sA_s, fun k hk => by rw [sA_n (by decide), r92]; exact h4 k hk, fun bR fR => ?_⟩
        rw [fm_X11_mendAhead_b37, if_neg (n31 i31), if_pos (his_89 mr), isMissing_ok i31, h3, g, if_neg (by decide), Option.bind_some, if_pos rfl, rn, Option.bind_some, if_pos (his_89 _), d3, Option.bind_some, if_pos (his_89 m2), missing_ok, d2, Option.bind_some, layBack_ok, bk, Option.bind_some]
        by_cases e : bR = -1
        · rw [if_pos e, if_pos e, if_pos e, fm_X11_mendAhead_b86, fm_X11_mendAhead_b93, nI_1]
          rfl
        · rw [if_neg e, if_neg e, if_neg e, fm_X11_mendAhead_b93, nI_1]
          rfl
      have nq : maQ (if fC ≤ nI (maC s N i) then bC else nI i) (if fC ≤ nI (maC s N i) then fC else nI (maC s N i)) (if bR = -1 then nI i else if fR ≤ nI (maC s N i) then bR else nI i) (if bR = -1 then nI (maC s N i) else if fR ≤ nI (maC s N i) then fR else nI (maC s N i)) true := by
        cases set
        · obtain ⟨e1, e2, e3⟩ := hq
          have ng : ¬ fC ≤ nI (maC s N i) := by rw [e2]; exact nI_ge (b := 32) (by omega) (by decide)
          rw [if_neg ng, if_neg ng, if_pos e3, if_pos e3]
          exact ⟨rfl, rfl, i, maC s N i, i31, c31, rfl, rfl⟩
        · obtain ⟨e1, e2, b, f, b1, b2, b3, b4⟩ := hq
          subst e1
          subst e2
          have nb : ¬ bC = -1 := by rw [b3]; exact ne_m1 (by omega)
          rw [if_neg nb, if_neg nb]
          refine ⟨rfl, rfl, ?_⟩
          by_cases q : fC ≤ nI (maC s N i)
          · rw [if_pos q, if_pos q]; exact ⟨b, f, b1, b2, b3, b4⟩
          · rw [if_neg q, if_neg q]; exact ⟨i, maC s N i, i31, c31, rfl, rfl⟩
      obtain ⟨v, v1, v2⟩ := ih (i + 1) n n' (by omega) (by omega) (by omega) _ _ _ _ true nq (Or.inl rfl)
      refine ⟨v, (cC bC fC).trans v1, fun mr h3 h4 => ?_⟩
      obtain ⟨m1, c1, c2, c3, c4⟩ := cR mr h3 h4
      obtain ⟨mr', f1, f2, f3⟩ := v2 m1 c2 c3
      exact ⟨mr', (c4 bR fR).trans f1, c1.tr f2, f3⟩
    · obtain ⟨v, v1, v2⟩ := ih (i + 1) n n' (by omega) (by omega) (by omega) bC fC bR fR set hq (by
        rcases hx with q | ⟨t, t1, t2, t3⟩
        · exact Or.inl q
        · by_cases e : t = i
          · rw [e, g] at t3; cases t3
          · exact Or.inr ⟨t, by omega, t2, t3⟩)
      refine ⟨v, ?_, fun mr h3 h4 => ?_⟩
      · rw [fm_X10_mendAhead_b107, if_neg (n31 i31), gR_0_2, Option.bind_some, gI_37_9, Option.bind_some, gR_0_3, Option.bind_some, gI_51_9, Option.bind_some, gR_0_0, Option.bind_some, gR_1_0, Option.bind_some, if_pos (his_2 mC), nm, g, if_pos rfl, Option.bind_some, if_neg one_ne, fm_X10_mendAhead_b175, nI_1]
        exact v1
      · obtain ⟨mr', f1, f2, f3⟩ := v2 mr h3 h4
        refine ⟨mr', ?_, f2, f3⟩
        rw [fm_X11_mendAhead_b37, if_neg (n31 i31), if_pos (his_89 mr), isMissing_ok i31, h3, g, if_pos rfl, Option.bind_some, if_neg one_ne, fm_X11_mendAhead_b93, nI_1]
        exact f1
theorem ma_none {s : Nat → Int32} {N : Nat} {w fR : Int32} {mr : xM2} (h3 : mr.1 90 = s) (hg : ∀ t, t < 31 → gn s t = true) : ∀ (j i n : Nat), i + j = 31 → j < n → fm_X11_mendAhead_b37 n 89 (nI N) w (-1) fR (nI i) (mk mr) = fm_X11_error 89 2 (mk mr) := by
  intro j
  induction j with
  | zero =>
    intro i n hi hn
    obtain ⟨n, rfl⟩ : ∃ z, n = z + 1 := ⟨n - 1, by omega⟩
    have : i = 31 := by omega
    subst this
    rw [fm_X11_mendAhead_b37, if_pos le31, if_pos rfl, if_pos (his_89 mr), ob2_eta]
  | succ j ih =>
    intro i n hi hn
    obtain ⟨n, rfl⟩ : ∃ z, n = z + 1 := ⟨n - 1, by omega⟩
    have i31 : i < 31 := by omega
    rw [fm_X11_mendAhead_b37, if_neg (n31 i31), if_pos (his_89 mr), isMissing_ok i31, h3, hg i i31, if_pos rfl, Option.bind_some, if_neg one_ne, fm_X11_mendAhead_b93, nI_1]
    exact ih (i + 1) n (by omega) (by omega)
theorem cnt_all {p : Nat → Bool} : ∀ n, (∀ i, i < n → p i = true) → cnt p n = n
  | 0, _ => rfl
  | n + 1, h => by rw [cnt, cnt_all n (fun i hi => h i (by omega)), h n (by omega)]; rfl
theorem p_mendAhead {m : xM2} (h : Rel m) (a b : Int32) : pr m (fm_X10_mendAhead 0 a b) (fm_X11_mendAhead 89 a b) := by
  rcases inC a (lo := 1) (hi := 60) 1 60 with ⟨N, n1, n2, rfl, ea⟩ | ea
  · rcases inC b (lo := 0) (hi := 1) 0 1 with ⟨w, -, hw', rfl, eb⟩ | eb
    · obtain ⟨hq, hw, -⟩ := id h
      have mt := missT_ok no2 hq.1
      have c31 := cnt_le (p := gn (m.1 90)) 31
      by_cases all : cnt (gn (m.1 90)) 31 = 31
      · have hg := cnt_full (p := gn (m.1 90)) 31 (by omega)
        refine h.errs (k := 2) (by decide) (by decide) ?_ fun m' e => ?_
        · rw [show (-1000000000 - nI 2 : Int32) = -1000000002 by decide]
          unfold fm_X10_mendAhead
          rw [within_in, ea, if_neg one_ne, below2, eb, if_neg one_ne, gR_0_0, Option.bind_some, gR_1_0, Option.bind_some, if_pos (his_2 m), mt, Option.bind_some, all, if_pos (show nI 31 = 31 from rfl), if_pos (his_0 m), ob2_eta]
        · have e90 : m'.1 90 = m.1 90 := e.at
          refine ⟨sA m' 92 (cpy (m.1 90) (m'.1 92) 181), kpR.A, sA_n (by decide), ?_⟩
          have mn := ma_none (s := m.1 90) (N := N) (w := nI w) (fR := 0) (mr := sA m' 92 (cpy (m.1 90) (m'.1 92) 181)) (by rw [sA_n (by decide)]; exact e90) hg 31 0 5000 (by omega) (by omega)
          unfold fm_X11_mendAhead
          rw [ea, if_neg one_ne, eb, if_neg one_ne, if_pos (his_89 m'), layDown_ok, Option.bind_some, e90]
          exact mn
      · have nall : ¬ nI (cnt (gn (m.1 90)) 31) = 31 := fun q => all ((nI_eq (b := 31) (by omega) (by decide)).mp q)
        obtain ⟨m1, a1, a2, a3⟩ := become_ok no37 no2 (by decide) hq.1
        obtain ⟨m2, b1, b2, b3⟩ := passDays_ok (N := N) no37 a2 hw.d (by decide) (by omega)
        have q2 : netR m2 2 (m.1 90) := hq.1.mv fun c h1 h2 => (a1.tr b1) c (by omega)
        obtain ⟨m3, c1, c2, c3⟩ := become_ok no51 no2 (by decide) q2
        obtain ⟨m4, d1, d2, d3⟩ := renAll_l no51 31 0 5000 (by omega) (by omega) m3 (show netR m3 51 (raS (m.1 90) 0) from c2)
        have d3' : fm_X5_renewAll 51 (mk m3) = some (mk m4) := d3
        obtain ⟨m5, f1, f2, f3⟩ := passDays_ok (N := N) no51 d2 (raS_wf hw 31 (by decide)).d (by decide) (by omega)
        have s51 : scN 51 m2 m5 := (c1.tr d1).tr f1
        have s37 : scN 37 m m2 := a1.tr b1
        have fr : ∀ c, c < 37 ∨ 65 ≤ c → same m m5 c := fun c hc => ⟨(s51 c (by omega)).1.trans (s37 c (by omega)).1, (s51 c (by omega)).2.trans (s37 c (by omega)).2⟩
        have e90 : m5.1 90 = m.1 90 := (fr 90 (by omega)).1
        have g2 : m5.2 2 9 = goneS (m.1 90) := by rw [(fr 2 (by omega)).2]; exact hq.g9
        have g37 : m5.2 37 9 = goneS (dayN (m.1 90) N) := by rw [(s51 37 (by omega)).2]; exact b2.2.2.2.2.2.2.1
        have g51 : m5.2 51 9 = goneS (dayN (raS (m.1 90) 31) N) := f2.2.2.2.2.2.2.1
        have ex : ∃ t, 0 ≤ t ∧ t < 31 ∧ gn (m.1 90) t = false := by
          apply Classical.byContradiction
          intro q
          apply all
          refine cnt_all 31 fun t ht => ?_
          cases g : gn (m.1 90) t
          · exact absurd ⟨t, Nat.zero_le t, ht, g⟩ q
          · rfl
        obtain ⟨v, v1, v2⟩ := ma_l (w := nI w) hw n2 g2 g37 g51 31 0 5000 5000 (by omega) (by omega) (by omega) (-1) 32 (-1) 0 false ⟨rfl, rfl, rfl⟩ (Or.inr ex)
        obtain ⟨mr', k1, k2, k3⟩ := v2 (sA m5 92 (cpy (m.1 90) (m5.1 92) 181)) (by rw [sA_n (by decide)]; exact e90) (fun k hk => by rw [sA_s, cpy_lt hk])
        rw [show nI 0 = 0 from rfl] at v1 k1
        refine h.see (v := v) (m1 := m5) (m2 := mr') ?_ ?_ ⟨fun c hc => fr c (by omega), by rw [(fr 0 (by omega)).2]⟩ (hq.mv fun c h1 h2 => fr c (by omega)) (kpR.tr kpR.A k2) (by rw [k3, e90])
        · unfold fm_X10_mendAhead
          rw [within_in, ea, if_neg one_ne, below2, eb, if_neg one_ne, gR_0_0, Option.bind_some, gR_1_0, Option.bind_some, if_pos (his_2 m), mt, Option.bind_some, if_neg nall, gR_0_2, Option.bind_some, Option.bind_some, gR_1_0, Option.bind_some, if_pos (his_37 m), a3, Option.bind_some, gR_0_2, Option.bind_some, if_pos (his_37 m1), b3, Option.bind_some, gR_0_3, Option.bind_some, gR_0_0, Option.bind_some, gR_1_0, Option.bind_some, if_pos (his_51 m2), c3, Option.bind_some, gR_0_3, Option.bind_some, if_pos (his_51 m3), d3', Option.bind_some, gR_0_3, Option.bind_some, if_pos (his_51 m4), f3, Option.bind_some]
          exact v1
        · unfold fm_X11_mendAhead
          rw [ea, if_neg one_ne, eb, if_neg one_ne, if_pos (his_89 m5), layDown_ok, Option.bind_some, e90]
          exact k1
    · refine h.e1 ?_ fun m' e => ?_ <;> simp only [fm_X10_mendAhead, fm_X11_mendAhead, fm_X10_mendAhead_b18, fm_X11_mendAhead_b19, below2, below3, below4, below5, below6, below7, below20, below31, below70, within_in, fm_X11_isKnot, fm_X11_isThread, fm_X11_isHand, fm_X11_isSheet, his_0, his_89, Option.bind_some, ob2_some, if_true, if_false, reduceIte, ob2_eta, one_ne, ea, eb]
  · refine h.e1 ?_ fun m' e => ?_ <;> simp only [fm_X10_mendAhead, fm_X11_mendAhead, fm_X10_mendAhead_b18, fm_X11_mendAhead_b19, below2, below3, below4, below5, below6, below7, below20, below31, below70, within_in, fm_X11_isKnot, fm_X11_isThread, fm_X11_isHand, fm_X11_isSheet, his_0, his_89, Option.bind_some, ob2_some, if_true, if_false, reduceIte, ob2_eta, one_ne, ea]
