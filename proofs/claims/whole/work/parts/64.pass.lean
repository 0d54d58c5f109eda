/-! A DAY OF THE CLASS'S NET -/
/-- all but the net at o stays -/
def scN (o : Nat) (m m' : xM2) : Prop := ∀ a, a < o ∨ o + 14 ≤ a → m'.1 a = m.1 a ∧ m'.2 a = m.2 a
theorem scN.rf {o : Nat} {m : xM2} : scN o m m := fun _ _ => ⟨rfl, rfl⟩
theorem scN.tr {o : Nat} {m m1 m2 : xM2} (h : scN o m m1) (h2 : scN o m1 m2) : scN o m m2 := fun a ha => ⟨(h2 a ha).1.trans (h a ha).1, (h2 a ha).2.trans (h a ha).2⟩
theorem scX.N {o : Nat} {m m1 : xM2} (h : scX o m m1) : scN o m m1 := fun a ha => ⟨h.2 a (by omega) (by omega) (by omega), by rw [h.1]⟩
theorem scC.N {o : Nat} {m m1 : xM2} (h : scC o m m1) : scN o m m1 := h.X.N
theorem scN.A {o d : Nat} {m : xM2} {f : Nat → Int32} (h : d < 14) : scN o m (sA m (o + d) f) := fun a ha => ⟨sA_n (by omega), rfl⟩
theorem scN.F {o k : Nat} {m : xM2} {x : Int32} : scN o m (sF m o k x) := fun a ha => ⟨rfl, sF_n (by omega)⟩
theorem lawR.row {m : xM2} {L u : Nat} {s s' : Nat → Int32} (h : lawR m L u s) (he : eq181 s s') : lawR m L u s' := by
  unfold lawR
  rw [he.N, he.W, he.V]
  exact h
theorem lawR.mv {m m' : xM2} {L u : Nat} {s : Nat → Int32} (h : lawR m L u s) (h1 : m'.1 (L + 1) = m.1 (L + 1)) (h2 : m'.2 L 2 = m.2 L 2) : lawR m' L u s := by
  unfold lawR
  rw [h1, h2]
  exact h
theorem goneS_eq {s s' : Nat → Int32} (h : ∀ t, t < 31 → s' (88 + 3 * t) = s (88 + 3 * t)) : goneS s' = goneS s := by
  unfold goneS
  exact enc_congr fun t ht => by unfold gn; rw [h t ht]
theorem upd_n {f : Nat → Int32} {k j : Nat} {x : Int32} (h : j ≠ k) : upd f k x j = f j := if_neg h
theorem upd_s {f : Nat → Int32} {k : Nat} {x : Int32} : upd f k x k = x := if_pos rfl
theorem netR.worn {m : xM2} {o t : Nat} {s : Nat → Int32} {x : Int32} (h : netR m o s) (ht : t < 31) : netR (sA m (o + 5) (upd (m.1 (o + 5)) t x)) o (upd s (88 + 3 * t + 1) x) := by
  obtain ⟨a1, a2, a3, a4, a5, a6, a7, a8, a9, b1⟩ := h
  have he : eq181 s (upd s (88 + 3 * t + 1) x) := fun j hj => upd_n (by omega)
  refine ⟨fun k hk => ?_, fun k hk => ?_, fun k hk => ?_, fun k hk => ?_, fun k hk => ?_, fun k hk => ?_, ?_, ?_, (a9.mv (sA_n (by omega)) rfl).row he, (b1.mv (sA_n (by omega)) rfl).row he⟩
  · rw [sA_n (by omega), upd_n (by omega)]; exact a1 k hk
  · rw [sA_n (by omega), upd_n (by omega)]; exact a2 k hk
  · rw [sA_n (by omega), upd_n (by omega)]; exact a3 k hk
  · rw [sA_n (by omega), upd_n (by omega)]; exact a4 k hk
  · rw [sA_s]
    by_cases e : k = t
    · subst e; rw [upd_s, upd_s]
    · rw [upd_n e, upd_n (by omega)]; exact a5 k hk
  · rw [sA_n (by omega), upd_n (by omega)]; exact a6 k hk
  · rw [sA_2, a7]
    exact (goneS_eq fun i hi => upd_n (by omega)).symm
  · rw [sA_2, a8, upd_n (by omega)]
theorem goneS_lose {s : Nat → Int32} {t : Nat} (ht : t < 31) {x : Int32} : goneS s ||| ji_shl 1 (nI t) = goneS (upd (upd s (88 + 3 * t + 0) 0) (88 + 3 * t + 1) x) := by
  apply lo_ext (n := 31)
  · intro i hi h
    rw [b_or, show bt (goneS s) i = false from lo_enc (by decide) i hi h, bt_shl1 (by omega) hi]
    simp; omega
  · exact lo_enc (by decide)
  · intro i hi hi2
    rw [b_or, bt_gone hi, bt_gone hi, bt_shl1 (by omega) hi2]
    unfold gn
    by_cases e : i = t
    · subst e
      rw [upd_n (by omega), show 88 + 3 * i = 88 + 3 * i + 0 from rfl, upd_s]
      simp
    · rw [upd_n (by omega), upd_n (by omega)]
      simp [e]
theorem lose_ok {m : xM2} {o t : Nat} {s : Nat → Int32} (ho : isNet o) (h : netR m o s) (ht : t < 31) : ∃ m', scN o m m' ∧ netR m' o (upd (upd s (88 + 3 * t + 0) 0) (88 + 3 * t + 1) 0) ∧ fm_X5_lose o (nI t) (mk m) = some (mk m') ∧ m'.1 (o + 7) = m.1 (o + 7) := by
  refine ⟨sA (sF m o 9 (goneS s ||| ji_shl 1 (nI t))) (o + 5) (upd (m.1 (o + 5)) t 0), scN.F.tr (scN.A (by decide)), ?_, ?_, ?_⟩
  · obtain ⟨a1, a2, a3, a4, a5, a6, a7, a8, a9, b1⟩ := h
    have he : eq181 s (upd (upd s (88 + 3 * t + 0) 0) (88 + 3 * t + 1) 0) := fun j hj => by rw [upd_n (by omega), upd_n (by omega)]
    refine ⟨fun k hk => ?_, fun k hk => ?_, fun k hk => ?_, fun k hk => ?_, fun k hk => ?_, fun k hk => ?_, ?_, ?_, (a9.mv (by rw [sA_n (by omega)]; rfl) (by rw [sA_2, sF_n (by omega)])).row he, (b1.mv (by rw [sA_n (by omega)]; rfl) (by rw [sA_2, sF_n (by omega)])).row he⟩
    · rw [sA_n (by omega), upd_n (by omega), upd_n (by omega)]; exact a1 k hk
    · rw [sA_n (by omega), upd_n (by omega), upd_n (by omega)]; exact a2 k hk
    · rw [sA_n (by omega), upd_n (by omega), upd_n (by omega)]; exact a3 k hk
    · rw [sA_n (by omega), upd_n (by omega), upd_n (by omega)]; exact a4 k hk
    · rw [sA_s]
      by_cases e : k = t
      · subst e; rw [upd_s, upd_s]
      · rw [upd_n e, upd_n (by omega), upd_n (by omega)]; exact a5 k hk
    · rw [sA_n (by omega), upd_n (by omega), upd_n (by omega)]; exact a6 k hk
    · rw [sA_2, sF_s, upd_s]
      exact goneS_lose ht
    · rw [sA_2, sF_s, upd_n (by decide), a8, upd_n (by omega), upd_n (by omega)]
  · unfold fm_X5_lose
    simp only [ntI9 ho, Option.bind_some, ob2_some, if_true, if_false, reduceIte, ntP9 ho, ntR4 ho, h.2.2.2.2.2.2.1]
    rw [show (0 : Int32) = 0 from rfl, ntS5 ho _ ht, Option.bind_some, sF_1]
  · rw [sA_n (by omega), sF_1]
theorem held_rng {v hi : Int32} {n : Nat} (hh : hi.toInt = n) : ∃ h, h ≤ n ∧ fm_X11_held v 0 hi = nI h := by
  unfold fm_X11_held
  by_cases h1 : 0 ≤ v
  · rw [if_pos h1]
    by_cases h2 : v ≤ hi
    · rw [if_pos h2]
      exact rng hh ⟨h1, h2⟩
    · rw [if_neg h2]
      refine rng hh ⟨?_, Int32.le_refl _⟩
      rw [Int32.le_iff_toInt_le, hh]
      exact Int.natCast_nonneg n
  · rw [if_neg h1]
    exact ⟨0, Nat.zero_le _, rfl⟩
theorem str_lt {s : Nat → Int32} {t w : Nat} (hw : w ≤ 99) : (nI w < holdsS s (kL t) + holdsS s (kR t)) ↔ 0 < strS s t (nI w) := by
  obtain ⟨a, ha, ea⟩ := held_rng (v := rawS s (kL t)) (hi := 99) (n := 99) (by decide)
  obtain ⟨b, hb, eb⟩ := held_rng (v := rawS s (kR t)) (hi := 99) (n := 99) (by decide)
  unfold strS holdsS
  rw [ea, eb, nI_add, nI_ltI (by omega) (by omega), Int32.lt_iff_toInt_lt, pk_sub_toInt (by omega) (by omega)]
  have : (0 : Int32).toInt = 0 := by decide
  omega
theorem dayOk.dw {s : Nat → Int32} {B i : Nat} (h : dayOk s B) (hi : i ≤ 31) : dayOk (dw s i) B := by
  obtain ⟨h1, h2, ⟨d, hd, e0, hd2⟩, h4, h5⟩ := h
  refine ⟨(dw_181 hi).ok h1, (dw_181 hi).ok h2, ⟨d, hd, by rw [dw_lo (Or.inl (by decide))]; exact e0, fun k hk => by rw [dw_lo (Or.inl (by omega))]; exact hd2 k hk⟩, fun t ht => ?_, fun t ht hz => ?_⟩
  · rw [dw_at (by decide)]
    split
    · exact held_rng (by decide)
    · exact h4 t ht
  · rw [show 88 + 3 * t = 88 + 3 * t + 0 from rfl, dw_at (by decide), if_neg (by simp)] at hz
    rw [dw_at (by decide), if_neg (by
      rintro ⟨-, -, q⟩
      simp [gn] at q
      exact q hz)]
    exact h5 t ht hz
theorem dayOk.dl {s : Nat → Int32} {B i : Nat} (h : dayOk s B) (hi : i ≤ 31) : dayOk (dl s i) B := by
  obtain ⟨h1, h2, ⟨d, hd, e0, hd2⟩, h4, h5⟩ := h.dw (i := 31) (Nat.le_refl _)
  have l0 : ∀ j, j < 88 → _root_.Jvm.Pilot.CNetMenderLaw_law_r5537_0495d9.dl s i j = _root_.Jvm.Pilot.CNetMenderLaw_law_r5537_0495d9.dw s 31 j := fun j hj => by rw [dl_lo (Or.inl hj), dw_lo (Or.inl hj)]
  refine ⟨(dl_181 hi).ok h.1, (dl_181 hi).ok h.2.1, ⟨d, hd, by rw [l0 0 (by decide)]; exact e0, fun k hk => by rw [l0 _ (by omega)]; exact hd2 k hk⟩, fun t ht => ?_, fun t ht hz => ?_⟩
  · rw [dl_at (by decide)]
    split
    · exact ⟨0, by decide, rfl⟩
    · exact h4 t ht
  · rw [show 88 + 3 * t = 88 + 3 * t + 0 from rfl, dl_at (by decide)] at hz
    rw [dl_at (by decide)]
    by_cases q : t < i ∧ dies s t = true
    · rw [if_pos ⟨q.1, by decide, q.2⟩]
    · rw [if_neg (fun z => q ⟨z.1, z.2.2⟩)] at hz ⊢
      exact h5 t ht hz
theorem dayOk.day {s : Nat → Int32} {B : Nat} (h : dayOk s B) : dayOk (dayS s) (B + 1) := by
  have h31 := h.dl (i := 31) (Nat.le_refl _)
  obtain ⟨h1, h2, ⟨d, hd, e0, hd2⟩, h4, h5⟩ := h31
  have hs0 : s 0 = nI d := by rw [← e0, dl_lo (Or.inl (by decide))]
  have he : eq181 s (dayS s) := fun j hj => by unfold dayS; rw [upd_n (by omega)]; exact dl_181 (Nat.le_refl _) j hj
  refine ⟨he.ok h.1, he.ok h.2.1, ⟨d + 1, by omega, by unfold dayS; rw [upd_s, hs0, nI_1], fun k hk => ?_⟩, fun t ht => ?_, fun t ht hz => ?_⟩
  · unfold dayS
    rw [upd_n (by omega)]
    obtain ⟨e, he, h⟩ := hd2 k hk
    exact ⟨e, by omega, h⟩
  · unfold dayS
    rw [upd_n (by omega)]
    exact h4 t ht
  · unfold dayS at hz ⊢
    rw [upd_n (by omega)] at hz ⊢
    exact h5 t ht hz
theorem netR.day {m : xM2} {o : Nat} {s : Nat → Int32} {x : Int32} (h : netR m o s) : netR (sF m o 10 x) o (upd s 0 x) := by
  obtain ⟨a1, a2, a3, a4, a5, a6, a7, a8, a9, b1⟩ := h
  have he : eq181 s (upd s 0 x) := fun j hj => upd_n (by omega)
  refine ⟨fun k hk => ?_, fun k hk => ?_, fun k hk => ?_, fun k hk => ?_, fun k hk => ?_, fun k hk => ?_, ?_, ?_, (a9.mv (m' := sF m o 10 x) rfl (by rw [sF_n (by omega)])).row he, (b1.mv (m' := sF m o 10 x) rfl (by rw [sF_n (by omega)])).row he⟩
  · rw [sF_1, upd_n (by omega)]; exact a1 k hk
  · rw [sF_1, upd_n (by omega)]; exact a2 k hk
  · rw [sF_1, upd_n (by omega)]; exact a3 k hk
  · rw [sF_1, upd_n (by omega)]; exact a4 k hk
  · rw [sF_1, upd_n (by omega)]; exact a5 k hk
  · rw [sF_1, upd_n (by omega)]; exact a6 k hk
  · rw [sF_s, upd_n (by decide), a7]
    exact (goneS_eq fun i hi => upd_n (by omega)).symm
  · rw [sF_s, upd_s, upd_s]
theorem ntS7_ok {m : xM2} {o k : Nat} (ho : isNet o) (hk : k < 20) {x : Int32} : hp_ast (mk m) (o + 7) (nI k) x = some (mk (sA m (o + 7) (upd (m.1 (o + 7)) k x))) := ntS7 ho m hk
theorem pass_b72 {o B : Nat} {s : Nat → Int32} (ho : isNet o) (hd : dayOk s B) (hB : B < 100000) : ∀ (j i n : Nat), i + j = 31 → j < n → ∀ m : xM2, netR m o (dl s i) → (∀ k, k < 20 → m.1 (o + 7) k = holdsS s k) → ∃ m', scN o m m' ∧ netR m' o (dayS s) ∧ fm_X5_passDay_b72 n o (nI i) (mk m) = some (mk m') := by
  intro j
  induction j with
  | zero =>
    intro i n hi hn m hm hh
    obtain ⟨n, rfl⟩ : ∃ n', n = n' + 1 := ⟨n - 1, by omega⟩
    have : i = 31 := by omega
    subst this
    refine ⟨sF m o 10 (s 0 + 1), scN.F, hm.day, ?_⟩
    have e : m.2 o 10 = s 0 := by rw [hm.2.2.2.2.2.2.2.1, dl_lo (Or.inl (by decide))]
    rw [fm_X5_passDay_b72, if_pos le31, ntI10 ho, Option.bind_some, e, ntP10 ho, Option.bind_some]
  | succ j ih =>
    intro i n hi hn m hm hh
    obtain ⟨n, rfl⟩ : ∃ n', n = n' + 1 := ⟨n - 1, by omega⟩
    have hi31 : i < 31 := by omega
    have g0 : gn (dl s i) i = gn s i := by
      unfold gn
      rw [show 88 + 3 * i = 88 + 3 * i + 0 from rfl, dl_at (by decide), if_neg (by omega), dw_at (by decide), if_neg (by simp)]
    have w1 : dl s i (88 + 3 * i + 1) = dw s 31 (88 + 3 * i + 1) := by rw [dl_at (by decide), if_neg (by omega)]
    have hkL := kL_lt i hi31
    have hkR := kR_lt i hi31
    rw [fm_X5_passDay_b72, if_neg (n31 hi31)]
    simp only [ntR6 ho, ntR4 ho, Option.bind_some, ob2_some, if_true, if_false, reduceIte, lesser_eq i hi31, greater_eq i hi31, ntA7 ho _ hkL, ntA7 ho _ hkR, hh _ hkL, hh _ hkR, ntH ho, nmiss_ok ho hm.2.2.2.2.2.2.1 hi31, g0, ntA5 ho _ hi31, hm.2.2.2.2.1 i hi31, w1, fm_X5_passDay_b121, nI_1]
    obtain ⟨w, hw, ew⟩ := (hd.dw (i := 31) (Nat.le_refl _)).2.2.2.1 i hi31
    by_cases hg : gn s i = true
    · simp only [hg, Option.bind_some, ob2_some, if_true, if_false, reduceIte, one_ne]
      exact ih (i + 1) n (by omega) (by omega) m (by rw [dl_keep hi31 (by simp [dies, hg])]; exact hm) hh
    · have hg : gn s i = false := by simpa using hg
      simp only [hg, Option.bind_some, ob2_some, if_true, if_false, reduceIte, Bool.false_eq_true]
      by_cases hdd : 0 < strS s i (dw s 31 (88 + 3 * i + 1))
      · rw [if_pos (by rw [ew] at hdd ⊢; exact (str_lt hw).mpr hdd)]
        exact ih (i + 1) n (by omega) (by omega) m (by rw [dl_keep hi31 (by simp [dies, hg, Int32.not_le.mpr hdd])]; exact hm) hh
      · rw [if_neg (by rw [ew] at hdd ⊢; exact fun q => hdd ((str_lt hw).mp q))]
        obtain ⟨m1, h1, h2, h3, h4⟩ := lose_ok ho hm hi31
        rw [h3, Option.bind_some]
        rw [dl_step hi31 (by simp [dies, hg, Int32.not_lt.mp hdd])] at h2
        obtain ⟨m2, g1, g2, g3⟩ := ih (i + 1) n (by omega) (by omega) m1 h2 (by rw [h4]; exact hh)
        exact ⟨m2, h1.tr g1, g2, g3⟩
theorem scA7 {o : Nat} {m : xM2} {f : Nat → Int32} : scX o m (sA m (o + 7) f) := ⟨rfl, fun a h _ _ => sA_n h⟩
theorem pass_b47 {o B : Nat} {s : Nat → Int32} (ho : isNet o) (hd : dayOk s B) (hB : B < 100000) : ∀ (j i n : Nat), i + j = 20 → j < n → ∀ m : xM2, netR m o s → (∀ k, k < i → m.1 (o + 7) k = holdsS s k) → ∃ m', scN o m m' ∧ netR m' o s ∧ (∀ k, k < 20 → m'.1 (o + 7) k = holdsS s k) ∧ fm_X5_passDay_b47 n o (nI i) (mk m) = fm_X5_passDay_b72 5000 o 0 (mk m') := by
  intro j
  induction j with
  | zero =>
    intro i n hi hn m hm hh
    obtain ⟨n, rfl⟩ : ∃ n', n = n' + 1 := ⟨n - 1, by omega⟩
    have : i = 20 := by omega
    subst this
    exact ⟨m, scN.rf, hm, hh, by rw [fm_X5_passDay_b47, if_pos le20]⟩
  | succ j ih =>
    intro i n hi hn m hm hh
    obtain ⟨n, rfl⟩ : ∃ n', n = n' + 1 := ⟨n - 1, by omega⟩
    have hi20 : i < 20 := by omega
    obtain ⟨m1, h1, e1⟩ := holdsOf_ok ho hm hd hB hi20
    rw [fm_X5_passDay_b47, if_neg (n20 hi20)]
    simp only [ntR6 ho, Option.bind_some, ob2_some, if_true, if_false, reduceIte, ntH ho, e1, ntS7_ok ho hi20, nI_1]
    have hm2 := (hm.sc h1).scx (scA7 (f := upd (m1.1 (o + 7)) i (holdsS s i)))
    obtain ⟨m2, g1, g2, g3, g4⟩ := ih (i + 1) n (by omega) (by omega) (sA m1 (o + 7) (upd (m1.1 (o + 7)) i (holdsS s i))) hm2 (fun k hk => by
      rw [sA_s]
      by_cases e : k = i
      · subst e; rw [upd_s]
      · rw [upd_n e]
        rw [h1.2 _ (by omega) (by omega)]
        exact hh k (by omega))
    exact ⟨m2, (h1.N.tr scA7.N).tr g1, g2, g3, g4⟩

theorem dw_upd {s : Nat → Int32} {i t : Nat} (ht : t < 31) : dw s i (88 + 3 * t + 2) = s (88 + 3 * t + 2) := by rw [dw_at (by decide), if_neg (by omega)]
theorem pass_b2 {o B : Nat} {s : Nat → Int32} (ho : isNet o) (hd : dayOk s B) : ∀ (j i n : Nat), i + j = 31 → j < n → ∀ m : xM2, netR m o (dw s i) → ∃ m', scN o m m' ∧ netR m' o (dw s 31) ∧ fm_X5_passDay_b2 n o (nI i) (mk m) = fm_X5_passDay_b47 5000 o 0 (mk m') := by
  intro j
  induction j with
  | zero =>
    intro i n hi hn m hm
    obtain ⟨n, rfl⟩ : ∃ n', n = n' + 1 := ⟨n - 1, by omega⟩
    have : i = 31 := by omega
    subst this
    exact ⟨m, scN.rf, hm, by rw [fm_X5_passDay_b2, if_pos le31]⟩
  | succ j ih =>
    intro i n hi hn m hm
    obtain ⟨n, rfl⟩ : ∃ n', n = n' + 1 := ⟨n - 1, by omega⟩
    have hi31 : i < 31 := by omega
    have w0 : dw s i (88 + 3 * i + 1) = s (88 + 3 * i + 1) := by rw [dw_at (by decide), if_neg (by omega)]
    rw [fm_X5_passDay_b2, if_neg (n31 hi31)]
    simp only [ntH ho, Option.bind_some, ob2_some, if_true, if_false, reduceIte, nmiss_ok ho hm.2.2.2.2.2.2.1 hi31, dw_gn, fm_X5_passDay_b39, nI_1]
    by_cases hg : gn s i = true
    · simp only [hg, Option.bind_some, ob2_some, if_true, if_false, reduceIte, one_ne]
      exact ih (i + 1) n (by omega) (by omega) m (by rw [dw_keep hi31 hg]; exact hm)
    · have hg : gn s i = false := by simpa using hg
      obtain ⟨m1, h1, e1⟩ := wearsOf_ok ho hm (hd.dw (i := i) (by omega)) hi31
      simp only [hg, Option.bind_some, ob2_some, if_true, if_false, reduceIte, Bool.false_eq_true, ntR4 ho, ntA5 ho _ hi31, hm.2.2.2.2.1 i hi31, w0]
      rw [e1, ob2_some, w0, wearS_eq (dw_181 (by omega)) (dw_lo (Or.inl (by decide))) (dw_upd hi31), ntS5 ho _ hi31, Option.bind_some]
      obtain ⟨w, hw, ew⟩ := hd.2.2.2.1 i hi31
      have hwr : ∃ h, h ≤ 20 ∧ wearS s i (s (88 + 3 * i + 1)) = nI h := held_rng (by decide)
      obtain ⟨h, hh, eh⟩ := hwr
      have em : ji_min 99 (s (88 + 3 * i + 1) + wearS s i (s (88 + 3 * i + 1))) = fm_X11_held (s (88 + 3 * i + 1) + wearS s i (s (88 + 3 * i + 1))) 0 99 := by
        rw [ew] at eh ⊢
        rw [eh, nI_add]
        unfold ji_min fm_X11_held
        rw [if_pos (nI_pos' (by omega))]
        by_cases q : nI (w + h) ≤ 99
        · rw [if_pos q]
          by_cases q2 : nI (w + h) < 99
          · rw [if_pos q2]
          · rw [if_neg q2]
            exact Int32.le_antisymm (Int32.not_lt.mp q2) q
        · rw [if_neg q, if_neg (fun z => q (Int32.le_of_lt z))]
      rw [em]
      have hm2 := (hm.sc h1).worn (t := i) (x := fm_X11_held (s (88 + 3 * i + 1) + wearS s i (s (88 + 3 * i + 1))) 0 99) hi31
      rw [dw_step hi31 hg] at hm2
      obtain ⟨m2, g1, g2, g3⟩ := ih (i + 1) n (by omega) (by omega) _ hm2
      exact ⟨m2, (h1.N.tr (scN.A (by decide))).tr g1, g2, g3⟩
theorem pass_ok {m : xM2} {o B : Nat} {s : Nat → Int32} (ho : isNet o) (hR : netR m o s) (hd : dayOk s B) (hB : B < 100000) : ∃ m', scN o m m' ∧ netR m' o (dayS s) ∧ fm_X5_passDay o (mk m) = some (mk m') := by
  obtain ⟨m1, a1, a2, a3⟩ := pass_b2 ho hd 31 0 5000 rfl (by decide) m (by rw [dw_0]; exact hR)
  obtain ⟨m2, b1, b2, b3, b4⟩ := pass_b47 ho (hd.dw (i := 31) (Nat.le_refl _)) hB 20 0 5000 rfl (by decide) m1 a2 (fun k hk => absurd hk (by omega))
  have hh : ∀ k, k < 20 → m2.1 (o + 7) k = holdsS s k := fun k hk => by rw [b3 k hk, holdsS_eq hk (dw_181 (Nat.le_refl _)) (fun j hj => dw_lo (Or.inl hj))]
  obtain ⟨m3, c1, c2, c3⟩ := pass_b72 ho hd hB 31 0 5000 rfl (by decide) m2 (by rw [dl_0]; exact b2) hh
  refine ⟨m3, (a1.tr b1).tr c1, c2, ?_⟩
  unfold fm_X5_passDay
  exact (a3.trans b4).trans c3
