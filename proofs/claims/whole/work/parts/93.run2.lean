/-! THE RUN -/
def eS (s f : Nat → Int32) : Nat → Int32
  | 0 => 0
  | i + 1 => if i = 0 then 0 else eS s f i + (2 + fm_X2_takesOf (s (8 + 4 * (f i).toNatClampNeg)))
def gdS (f : Nat → Int32) (i : Nat) : Prop := (∀ u, u < i → ∃ k, k < 20 ∧ f u = nI k) ∧ ∀ u, u + 1 < i → ∃ t, t < 31 ∧ fm_X11_between (f u) (f (u + 1)) = nI t
def fR (f : Nat → Int32) (r N : Nat) (mr : xM2) : Prop := mr.1 102 r = nI N ∧ ∀ j, j < 40 → numR (f j) (mr.1 103 (40 * r + j))
theorem sh_at {m : xM2} {r i : Nat} {f : Nat → Int32} (hr : r < 4) (hf : m.1 (82 + 2 * r) = f) (hi : i < 40) : hp_ald (mk m) (81 + 2 * r + 1) (nI i) = some (f i) := by
  rw [stA1 (so hr) m hi, show 81 + 2 * r + 1 = 82 + 2 * r by omega, hf]
theorem fR_in {f : Nat → Int32} {r N i : Nat} {mr : xM2} (h : fR f r N mr) (hi : i < 40) : fm_X11_in (f i) 0 19 = fm_X11_in (mr.1 103 (40 * r + i)) 0 19 := by
  rcases num_in (h.2 i hi) (n := 19) (by decide) with ⟨a, b⟩ | ⟨a, -⟩
  · exact a.trans b.symm
  · rw [a]
theorem fR_eq {f : Nat → Int32} {r N i k : Nat} {mr : xM2} (h : fR f r N mr) (hi : i < 40) (hk : k < 20) (e : f i = nI k) : mr.1 103 (40 * r + i) = nI k := (num_eq (h.2 i hi) (n := k) (by omega)).mp e
theorem ne_m1 {t : Nat} (ht : t < 2 ^ 31) : ¬ nI t = -1 := fun e => by
  have := nI_pos' ht
  rw [e] at this
  exact absurd this (by decide)
theorem stops_l {m : xM2} {r N : Nat} {s f : Nat → Int32} {hand : Int32} (hr : r < 4) (hN : N ≤ 40) (hz : m.2 (81 + 2 * r) 2 = nI N) (hf : m.1 (82 + 2 * r) = f) :
    ∀ (j i n n' : Nat), i + j = N → j < n → j < n' → ∀ x : Int32, gdS f i →
      (∃ K, K < N ∧ fm_X5_runStops_b7 n (81 + 2 * r) x (nI i) (mk m) = some (nI K) ∧ ∀ mr : xM2, fR f r N mr → mr.1 90 = s → fm_X11_run_b61 n' 89 (nI r) hand x (eS s f i) (nI (40 * r)) (nI i) (mk mr) = some (-10 - nI K, mk mr)) ∨
      (gdS f N ∧ fm_X5_runStops_b7 n (81 + 2 * r) x (nI i) (mk m) = some (nI N) ∧ ∃ x', ∀ mr : xM2, fR f r N mr → mr.1 90 = s → fm_X11_run_b61 n' 89 (nI r) hand x (eS s f i) (nI (40 * r)) (nI i) (mk mr) = fm_X11_run_b61 1 89 (nI r) hand x' (eS s f N) (nI (40 * r)) (nI N) (mk mr)) := by
  intro j
  induction j with
  | zero =>
    intro i n n' hi h1 h2 x hg
    obtain ⟨n, rfl⟩ : ∃ z, n = z + 1 := ⟨n - 1, by omega⟩
    obtain ⟨n', rfl⟩ : ∃ z, n' = z + 1 := ⟨n' - 1, by omega⟩
    have : i = N := by omega
    subst this
    refine Or.inr ⟨hg, ?_, x, fun mr h3 h4 => ?_⟩
    · rw [fm_X5_runStops_b7, stI2 (so hr), Option.bind_some, hz, if_pos (Int32.le_refl _), Option.bind_some]
    · rw [fm_X11_run_b61, fm_X11_run_b61, gR_89_20, Option.bind_some, al_102 mr hr, Option.bind_some, h3.1, if_pos (Int32.le_refl _), Option.bind_some, al_102 mr hr, Option.bind_some, h3.1, if_pos (Int32.le_refl _)]
  | succ j ih =>
    intro i n n' hi h1 h2 x hg
    obtain ⟨n, rfl⟩ : ∃ z, n = z + 1 := ⟨n - 1, by omega⟩
    obtain ⟨n', rfl⟩ : ∃ z, n' = z + 1 := ⟨n' - 1, by omega⟩
    have i40 : i < 40 := by omega
    have ng : ¬ nI N ≤ nI i := nI_ge (by omega) (by omega)
    have sa := sh_at (m := m) hr hf i40
    have ixi : nI (40 * r) + nI i = nI (40 * r + i) := nI_add _ _
    rcases inC (f i) (lo := 0) (hi := 19) 0 19 with ⟨k, -, hk, e, ek⟩ | ek
    · have hk' : k < 20 := by omega
      by_cases i0 : i = 0
      · subst i0
        have g1 : gdS f 1 := ⟨fun u hu => ⟨k, hk', by rw [show u = 0 by omega]; exact e⟩, fun u hu => absurd hu (by omega)⟩
        have cC : fm_X5_runStops_b7 (n + 1) (81 + 2 * r) x (nI 0) (mk m) = fm_X5_runStops_b7 n (81 + 2 * r) x (nI 1) (mk m) := by
          rw [fm_X5_runStops_b7, stI2 (so hr), Option.bind_some, hz, if_neg ng, stR0 (so hr), Option.bind_some, sa, Option.bind_some, below20, ek, if_neg one_ne, if_pos (show nI 0 ≤ 0 by decide), fm_X5_runStops_b79, nI_1]
        have cR : ∀ mr : xM2, fR f r N mr → mr.1 90 = s → fm_X11_run_b61 (n' + 1) 89 (nI r) hand x (eS s f 0) (nI (40 * r)) (nI 0) (mk mr) = fm_X11_run_b61 n' 89 (nI r) hand x (eS s f 1) (nI (40 * r)) (nI 1) (mk mr) := fun mr h3 h4 => by
          rw [fm_X11_run_b61, gR_89_20, Option.bind_some, al_102 mr hr, Option.bind_some, h3.1, if_neg ng, gR_89_21, Option.bind_some, ixi, al_103 mr (show 40 * r + 0 < 160 by omega), Option.bind_some, fm_X11_isKnot, ← fR_in h3 i40, ek, if_neg one_ne, if_pos (show nI 0 ≤ 0 by decide), fm_X11_run_b165, nI_1]
          rfl
        rcases ih 1 n n' (by omega) (by omega) (by omega) x g1 with ⟨K, k1, k2, k3⟩ | ⟨k1, k2, x', k3⟩
        · exact Or.inl ⟨K, k1, cC.trans k2, fun mr h3 h4 => (cR mr h3 h4).trans (k3 mr h3 h4)⟩
        · exact Or.inr ⟨k1, cC.trans k2, x', fun mr h3 h4 => (cR mr h3 h4).trans (k3 mr h3 h4)⟩
      · obtain ⟨p, rfl⟩ : ∃ p, i = p + 1 := ⟨i - 1, by omega⟩
        obtain ⟨k', hk2, e'⟩ := hg.1 p (by omega)
        have sp := sh_at (m := m) (i := p) hr hf (by omega)
        have n0 : ¬ nI (p + 1) ≤ 0 := nI_nle (by omega) (by omega)
        have ixp : nI (40 * r + (p + 1)) - 1 = nI (40 * r + p) := nI_pred _
        have bq := bw_eq k' hk2 k hk'
        rcases bw_rng k' hk2 k hk' with b | ⟨t, ht, b⟩
        · refine Or.inl ⟨p + 1, by omega, ?_, fun mr h3 h4 => ?_⟩
          · rw [fm_X5_runStops_b7, stI2 (so hr), Option.bind_some, hz, if_neg ng, stR0 (so hr), Option.bind_some, sa, Option.bind_some, below20, ek, if_neg one_ne, if_neg n0, Option.bind_some, nI_pred, sp, Option.bind_some, Option.bind_some, sa, Option.bind_some, e, e', bq, b, if_pos (by decide)]
          · rw [fm_X11_run_b61, gR_89_20, Option.bind_some, al_102 mr hr, Option.bind_some, h3.1, if_neg ng, gR_89_21, Option.bind_some, ixi, al_103 mr (show 40 * r + (p + 1) < 160 by omega), Option.bind_some, fm_X11_isKnot, ← fR_in h3 i40, ek, if_neg one_ne, if_neg n0, Option.bind_some, ixp, al_103 mr (show 40 * r + p < 160 by omega), Option.bind_some, fR_eq h3 i40 hk' e, fR_eq h3 (show p < 40 by omega) hk2 e', b, if_pos rfl, fm_X11_run_b137]
        · have nt : ¬ nI t < 0 := nI_pos (by omega)
          cases g : bt x t
          · refine Or.inl ⟨p + 1, by omega, ?_, fun mr h3 h4 => ?_⟩
            · rw [fm_X5_runStops_b7, stI2 (so hr), Option.bind_some, hz, if_neg ng, stR0 (so hr), Option.bind_some, sa, Option.bind_some, below20, ek, if_neg one_ne, if_neg n0, Option.bind_some, nI_pred, sp, Option.bind_some, Option.bind_some, sa, Option.bind_some, e, e', bq, b, if_neg nt, if_pos ((bt_in0 (by omega) x).mpr g)]
            · rw [fm_X11_run_b61, gR_89_20, Option.bind_some, al_102 mr hr, Option.bind_some, h3.1, if_neg ng, gR_89_21, Option.bind_some, ixi, al_103 mr (show 40 * r + (p + 1) < 160 by omega), Option.bind_some, fm_X11_isKnot, ← fR_in h3 i40, ek, if_neg one_ne, if_neg n0, Option.bind_some, ixp, al_103 mr (show 40 * r + p < 160 by omega), Option.bind_some, fR_eq h3 i40 hk' e, fR_eq h3 (show p < 40 by omega) hk2 e', b, if_neg (ne_m1 (by omega)), isIn_eq (by omega), g, if_pos (by decide), fm_X11_run_b137]
          · have g1 : gdS f (p + 2) := ⟨fun u hu => by
              rcases Nat.lt_or_ge u (p + 1) with q | q
              · exact hg.1 u q
              · exact ⟨k, hk', by rw [show u = p + 1 by omega]; exact e⟩, fun u hu => by
              rcases Nat.lt_or_ge (u + 1) (p + 1) with q | q
              · exact hg.2 u q
              · rw [show u = p by omega]; exact ⟨t, ht, by rw [e, e']; exact b⟩⟩
            have cC : fm_X5_runStops_b7 (n + 1) (81 + 2 * r) x (nI (p + 1)) (mk m) = fm_X5_runStops_b7 n (81 + 2 * r) (x &&& (ji_shl 1 (nI t) ^^^ (-1))) (nI (p + 2)) (mk m) := by
              rw [fm_X5_runStops_b7, stI2 (so hr), Option.bind_some, hz, if_neg ng, stR0 (so hr), Option.bind_some, sa, Option.bind_some, below20, ek, if_neg one_ne, if_neg n0, Option.bind_some, nI_pred, sp, Option.bind_some, Option.bind_some, sa, Option.bind_some, e, e', bq, b, if_neg nt, if_neg (fun q => by rw [bt_in0 (by omega), g] at q; cases q), fm_X5_runStops_b79, nI_1]
            have cR : ∀ mr : xM2, fR f r N mr → mr.1 90 = s → fm_X11_run_b61 (n' + 1) 89 (nI r) hand x (eS s f (p + 1)) (nI (40 * r)) (nI (p + 1)) (mk mr) = fm_X11_run_b61 n' 89 (nI r) hand (x &&& (ji_shl 1 (nI t) ^^^ (-1))) (eS s f (p + 2)) (nI (40 * r)) (nI (p + 2)) (mk mr) := fun mr h3 h4 => by
              have ee : eS s f (p + 2) = eS s f (p + 1) + (2 + fm_X2_takesOf (s (8 + 4 * k))) := by
                rw [eS, if_neg (by omega), e, nI_clamp (by omega)]
              rw [fm_X11_run_b61, gR_89_20, Option.bind_some, al_102 mr hr, Option.bind_some, h3.1, if_neg ng, gR_89_21, Option.bind_some, ixi, al_103 mr (show 40 * r + (p + 1) < 160 by omega), Option.bind_some, fm_X11_isKnot, ← fR_in h3 i40, ek, if_neg one_ne, if_neg n0, Option.bind_some, ixp, al_103 mr (show 40 * r + p < 160 by omega), Option.bind_some, fR_eq h3 i40 hk' e, fR_eq h3 (show p < 40 by omega) hk2 e', b, if_neg (ne_m1 (by omega)), isIn_eq (by omega), g, if_neg (by decide), if_pos (his_89 mr), takes_ok hk', Option.bind_some, h4, fm_X11_run_b165, nI_1, ee]
            rcases ih (p + 2) n n' (by omega) (by omega) (by omega) _ g1 with ⟨K, k1, k2, k3⟩ | ⟨k1, k2, x', k3⟩
            · exact Or.inl ⟨K, k1, cC.trans k2, fun mr h3 h4 => (cR mr h3 h4).trans (k3 mr h3 h4)⟩
            · exact Or.inr ⟨k1, cC.trans k2, x', fun mr h3 h4 => (cR mr h3 h4).trans (k3 mr h3 h4)⟩
    · refine Or.inl ⟨i, by omega, ?_, fun mr h3 h4 => ?_⟩
      · rw [fm_X5_runStops_b7, stI2 (so hr), Option.bind_some, hz, if_neg ng, stR0 (so hr), Option.bind_some, sa, Option.bind_some, below20, ek, if_pos rfl]
      · rw [fm_X11_run_b61, gR_89_20, Option.bind_some, al_102 mr hr, Option.bind_some, h3.1, if_neg ng, gR_89_21, Option.bind_some, ixi, al_103 mr (show 40 * r + i < 160 by omega), Option.bind_some, fm_X11_isKnot, ← fR_in h3 i40, ek, if_pos rfl]
theorem ells_l {m : xM2} {r N : Nat} {s f : Nat → Int32} (hr : r < 4) (hN : N ≤ 40) (hz : m.2 (81 + 2 * r) 2 = nI N) (hf : m.1 (82 + 2 * r) = f) (hq : netR m 2 s) (hg : gdS f N) :
    ∀ (j i n : Nat), i + j = N → j < n → 1 ≤ i → fm_X5_ellsOfRun_b4 n 2 (81 + 2 * r) (eS s f i) (nI i) (mk m) = some (eS s f N) := by
  intro j
  induction j with
  | zero =>
    intro i n hi h1 h2
    obtain ⟨n, rfl⟩ : ∃ z, n = z + 1 := ⟨n - 1, by omega⟩
    have : i = N := by omega
    subst this
    rw [fm_X5_ellsOfRun_b4, stI2 (so hr), Option.bind_some, hz, if_pos (Int32.le_refl _)]
  | succ j ih =>
    intro i n hi h1 h2
    obtain ⟨n, rfl⟩ : ∃ z, n = z + 1 := ⟨n - 1, by omega⟩
    obtain ⟨k, hk, e⟩ := hg.1 i (by omega)
    have ek : fm_X11_in (nI k) 0 19 = 1 := by
      rw [in_eq]
      exact if_pos (rng_in (n := 19) (by omega) (by decide))
    have v : m.1 3 k = s (8 + 4 * k) := hq.1 k hk
    have ee : eS s f (i + 1) = eS s f i + (2 + fm_X2_takesOf (s (8 + 4 * k))) := by
      rw [eS, if_neg (by omega), e, nI_clamp (by omega)]
    rw [fm_X5_ellsOfRun_b4, stI2 (so hr), Option.bind_some, hz, if_neg (nI_ge (by omega) (by omega)), stR0 (so hr), Option.bind_some, sh_at hr hf (by omega), Option.bind_some, e, below20, ek, if_neg one_ne, gR_2_0, Option.bind_some, al_3 m hk, Option.bind_some, v, fm_X5_ellsOfRun_b47, nI_1, ← ee]
    exact ih (i + 1) n (by omega) (by omega) (by omega)
theorem mend_l {r N : Nat} {f : Nat → Int32} {hand : Int32} (hr : r < 4) (hN : N ≤ 40) (hg : gdS f N) :
    ∀ (j i n n' : Nat), i + j = N → j < n → j < n' → 1 ≤ i → ∀ (m : xM2) (s : Nat → Int32), quayR m 1 s → wf s → m.2 (81 + 2 * r) 2 = nI N → m.1 (82 + 2 * r) = f →
      ∃ s' m', fm_X5_mendRun_b2 n 2 (81 + 2 * r) hand (nI i) (mk m) = some (mk m') ∧ scN 2 m m' ∧ quayR m' 1 s' ∧ wf s' ∧
        ∀ mr : xM2, fR f r N mr → mr.1 90 = s → ∃ mr', fm_X11_run_b202 n' 89 (nI r) hand (nI (40 * r)) (nI i) (mk mr) = some (nI N - 1, mk mr') ∧ kpR mr mr' ∧ mr'.1 90 = s' := by
  intro j
  induction j with
  | zero =>
    intro i n n' hi h1 h2 h3 m s hq hw hz hf
    obtain ⟨n, rfl⟩ : ∃ z, n = z + 1 := ⟨n - 1, by omega⟩
    obtain ⟨n', rfl⟩ : ∃ z, n' = z + 1 := ⟨n' - 1, by omega⟩
    have : i = N := by omega
    subst this
    refine ⟨s, m, ?_, scN.rf, hq, hw, fun mr h4 h5 => ⟨mr, ?_, kpR.rf, h5⟩⟩
    · rw [fm_X5_mendRun_b2, stI2 (so hr), Option.bind_some, hz, if_pos (Int32.le_refl _)]
    · rw [fm_X11_run_b202, gR_89_20, Option.bind_some, al_102 mr hr, Option.bind_some, h4.1, if_pos (Int32.le_refl _), Option.bind_some, al_102 mr hr, Option.bind_some, h4.1]
  | succ j ih =>
    intro i n n' hi h1 h2 h3 m s hq hw hz hf
    obtain ⟨n, rfl⟩ : ∃ z, n = z + 1 := ⟨n - 1, by omega⟩
    obtain ⟨n', rfl⟩ : ∃ z, n' = z + 1 := ⟨n' - 1, by omega⟩
    obtain ⟨p, rfl⟩ : ∃ p, i = p + 1 := ⟨i - 1, by omega⟩
    obtain ⟨k, hk, e⟩ := hg.1 (p + 1) (by omega)
    obtain ⟨k', hk2, e'⟩ := hg.1 p (by omega)
    obtain ⟨t, ht, b⟩ := hg.2 p (by omega)
    rw [e, e'] at b
    have bq := bw_eq k' hk2 k hk
    have ng : ¬ nI N ≤ nI (p + 1) := nI_ge (by omega) (by omega)
    obtain ⟨m1, c1, c2, c3⟩ := renew_ok no2 hq.1 ht
    have q1 := hq.net c1 c2 fun j h1 h2 => by unfold renS; rw [upd_n (by omega), upd_n (by omega), upd_n (by omega)]
    obtain ⟨m2, d1, d2, d3⟩ := tieAnew_ok (x := hand) no2 q1.1 hk
    have q2 := q1.net d1 d2 fun j h1 h2 => by rw [upd_n (by omega), upd_n (by omega)]
    have w1 : wf (renS s t) := hw.renew ht
    have w2 := (w1.k12 hk (w := 2) (x := hand)).k3 hk (x := renS s t 0) (by rw [upd_n (by omega)])
    have sc := c1.tr d1
    have hf1 : m1.1 (82 + 2 * r) = f := by rw [(c1 _ (by omega)).1]; exact hf
    obtain ⟨s', m', k1, k2, k3, k4, k5⟩ := ih (p + 2) n n' (by omega) (by omega) (by omega) (by omega) m2 _ q2 w2 (by rw [(sc _ (by omega)).2]; exact hz) (by rw [(sc _ (by omega)).1]; exact hf)
    refine ⟨s', m', ?_, sc.tr k2, k3, k4, fun mr h4 h5 => ?_⟩
    · rw [fm_X5_mendRun_b2, stI2 (so hr), Option.bind_some, hz, if_neg ng, stR0 (so hr), Option.bind_some, nI_pred, sh_at hr hf (show p < 40 by omega), Option.bind_some, Option.bind_some, sh_at hr hf (show p + 1 < 40 by omega), Option.bind_some, e, e', bq, b, if_neg (nI_pos (by omega)), if_pos (his_2 m), c3, Option.bind_some, stR0 (so hr), Option.bind_some, sh_at hr hf1 (show p + 1 < 40 by omega), Option.bind_some, if_pos (his_2 m1), e, d3, Option.bind_some, fm_X5_mendRun_b51, nI_1]
      exact k1
    · have v1 := fR_eq h4 (show p + 1 < 40 by omega) hk e
      have v2 := fR_eq h4 (show p < 40 by omega) hk2 e'
      have ixi : nI (40 * r) + nI (p + 1) = nI (40 * r + (p + 1)) := nI_add _ _
      have ixp : nI (40 * r + (p + 1)) - 1 = nI (40 * r + p) := nI_pred _
      have rn := renews_ok (m := mr) ht
      rw [h5, show upd (upd (upd s (88 + 3 * t + 0) 1) (88 + 3 * t + 1) 0) (88 + 3 * t + 2) (s 0) = renS s t from rfl] at rn
      have td := tiedBy_ok (m := sA mr 90 (renS s t)) (x := hand) hk
      rw [sA_s, sA_sA] at td
      obtain ⟨mr', f1, f2, f3⟩ := k5 (sA mr 90 (upd (upd (renS s t) (8 + 4 * k + 2) hand) (8 + 4 * k + 3) (renS s t 0))) h4 sA_s
      refine ⟨mr', ?_, kpR.tr kpR.A f2, f3⟩
      have g103 : (sA mr 90 (renS s t)).1 103 = mr.1 103 := sA_n (by decide)
      rw [fm_X11_run_b202, gR_89_20, Option.bind_some, al_102 mr hr, Option.bind_some, h4.1, if_neg ng, gR_89_21, Option.bind_some, ixi, ixp, al_103 mr (show 40 * r + p < 160 by omega), Option.bind_some, Option.bind_some, al_103 mr (show 40 * r + (p + 1) < 160 by omega), Option.bind_some, v1, v2, b, if_pos (his_89 mr), rn, Option.bind_some, gR_89_21, Option.bind_some, al_103 _ (show 40 * r + (p + 1) < 160 by omega), Option.bind_some, g103, v1, if_pos (his_89 _), td, Option.bind_some, nI_1]
      exact f1
theorem p_run {m : xM2} (h : Rel m) (a b : Int32) : pr m (fm_X10_run 0 a b) (fm_X11_run 89 a b) := by
  rcases inC a (lo := 0) (hi := 3) 0 3 with ⟨r, -, hr', rfl, ea⟩ | ea
  · rcases inC b (lo := 0) (hi := 4) 0 4 with ⟨y, -, hy, rfl, eb⟩ | eb
    · have hr : r < 4 := by omega
      obtain ⟨hq, hw, -, -, hsh, -⟩ := id h
      obtain ⟨s1, s2, s3, ⟨N, n1, n2⟩, s5, s6⟩ := hsh r hr
      have s2' : m.2 (81 + 2 * r) 2 = nI N := s2.trans n2
      by_cases e0 : m.1 101 r = 0
      · refine h.e2 ?_ fun m' e => ?_
        · simp only [fm_X10_run, fm_X10_run_b44, below2, below3, below4, below5, below6, below7, below20, below31, below70, within_in, fm_X11_isKnot, fm_X11_isThread, fm_X11_isHand, fm_X11_isSheet, his_0, his_89, Option.bind_some, ob2_some, if_true, if_false, reduceIte, ob2_eta, one_ne, ea, eb, gR_0_8, ra79 hr, stH (so hr), fm_X7_isMissing, stI1 (so hr), s1, e0]
        · simp only [fm_X11_run, fm_X11_run_b38, below2, below3, below4, below5, below6, below7, below20, below31, below70, within_in, fm_X11_isKnot, fm_X11_isThread, fm_X11_isHand, fm_X11_isSheet, his_0, his_89, Option.bind_some, ob2_some, if_true, if_false, reduceIte, ob2_eta, one_ne, ea, eb, gR_89_19, al_101 _ hr, e.at (a := 101), e0]
      · by_cases z0 : N = 0
        · subst z0
          refine h.e2 ?_ fun m' e => ?_
          · simp only [fm_X10_run, fm_X10_run_b44, below2, below3, below4, below5, below6, below7, below20, below31, below70, within_in, fm_X11_isKnot, fm_X11_isThread, fm_X11_isHand, fm_X11_isSheet, his_0, his_89, Option.bind_some, ob2_some, if_true, if_false, reduceIte, ob2_eta, one_ne, ea, eb, gR_0_8, ra79 hr, stH (so hr), fm_X7_isMissing, stI1 (so hr), stI2 (so hr), s1, e0, s2', show nI 0 = 0 from rfl]
          · simp only [fm_X11_run, fm_X11_run_b38, below2, below3, below4, below5, below6, below7, below20, below31, below70, within_in, fm_X11_isKnot, fm_X11_isThread, fm_X11_isHand, fm_X11_isSheet, his_0, his_89, Option.bind_some, ob2_some, if_true, if_false, reduceIte, ob2_eta, one_ne, ea, eb, gR_89_19, gR_89_20, al_101 _ hr, al_102 _ hr, e.at (a := 101), e.at (a := 102), e0, n2, show nI 0 = 0 from rfl]
        · have nz : ¬ nI N = 0 := nI_ne0 (by omega) (by omega)
          obtain ⟨f, hf⟩ : ∃ f, m.1 (82 + 2 * r) = f := ⟨_, rfl⟩
          have hfR : fR f r N m := ⟨n2, fun j hj => by rw [← hf]; exact s6 j hj⟩
          have st := stops_l (m := m) (s := m.1 90) (hand := nI y) hr n1 s2' hf N 0 5000 5000 (by omega) (by omega) (by omega) (goneS (m.1 90)) ⟨fun u hu => absurd hu (by omega), fun u hu => absurd hu (by omega)⟩
          rw [show nI 0 = 0 from rfl, show eS (m.1 90) f 0 = 0 from rfl] at st
          have cpre : ∀ K, fm_X5_runStops_b7 5000 (81 + 2 * r) (goneS (m.1 90)) 0 (mk m) = some K → fm_X10_run 0 (nI r) (nI y) (mk m) = if nI N ≤ K then ((hp_gR (mk m) 0 8 0).bind fun v80 => (hp_gR (mk m) v80 4 0).bind fun v83 => if hp_is (mk m) v83 3 = true then ((fm_X5_ellsOfRun v83 (81 + 2 * r) (mk m)).bind fun v87 => (hp_gR (mk m) 0 8 0).bind fun v95 => (hp_gI (mk m) v95 4 6).bind fun v98 => if v87 ≤ v98 then ((hp_gR (mk m) 0 8 0).bind fun v112 => (hp_gI (mk m) v112 4 6).bind fun v116 => (hp_put (mk m) v112 4 6 (.int (v116 - v87))).bind fun H122 => (hp_gR H122 0 8 0).bind fun v126 => (hp_gR H122 v126 4 0).bind fun v129 => if hp_is H122 v129 3 = true then ((fm_X5_mendRun v129 (81 + 2 * r) (nI y) H122).bind fun H134 => (hp_gI H134 (81 + 2 * r) 5 2).bind fun v138 => some (v138 - 1, H134)) else none) else (if hp_is (mk m) 0 8 = true then (ob2 (fm_X10_refuse 0 (-1000000004) (mk m)) fun v107 H107 => some (v107, H107)) else none)) else none) else (some ((-10) - K, mk m)) := fun K hK => by
            have rs : fm_X5_runStops 2 (81 + 2 * r) (mk m) = some K := by
              unfold fm_X5_runStops
              rw [gI_2_9, Option.bind_some, hq.g9]
              exact hK
            unfold fm_X10_run
            rw [below4, ea, if_neg one_ne, below5, eb, if_neg one_ne, gR_0_8, Option.bind_some, ra79 hr, Option.bind_some, if_pos (stH (so hr) m), fm_X7_isMissing, stI1 (so hr), Option.bind_some, s1, if_neg e0, Option.bind_some, if_pos rfl, stI2 (so hr), Option.bind_some, s2', if_neg nz, gR_0_0, Option.bind_some, gR_1_0, Option.bind_some, if_pos (his_2 m), rs, Option.bind_some, Option.bind_some]
          have rpre : ∀ mr : xM2, mr.1 90 = m.1 90 → mr.1 101 r = m.1 101 r → fR f r N mr → fm_X11_run 89 (nI r) (nI y) (mk mr) = fm_X11_run_b61 5000 89 (nI r) (nI y) (goneS (m.1 90)) 0 (nI (40 * r)) 0 (mk mr) := fun mr h1 h2 h3 => by
            have ix : (40 : Int32) * nI r = nI (40 * r) := pk_mul 40 r
            unfold fm_X11_run fm_X11_isSheet fm_X11_isHand
            rw [ea, if_neg one_ne, eb, if_neg one_ne, gR_89_19, Option.bind_some, al_101 mr hr, Option.bind_some, h2, if_neg e0, gR_89_20, Option.bind_some, al_102 mr hr, Option.bind_some, h3.1, if_neg nz, if_pos (his_89 mr), gone_ok, Option.bind_some, h1, ix]
          rcases st with ⟨K, k1, k2, k3⟩ | ⟨k1, k2, x', k3⟩
          · refine h.val (v := -10 - nI K) ?_ ?_
            · rw [cpre _ k2, if_neg (nI_ge k1 (by omega))]
            · rw [rpre m rfl rfl hfR]
              exact k3 m hfR rfl
          · have el := ells_l (s := m.1 90) hr n1 s2' hf hq.1 k1 (N - 1) 1 5000 (by omega) (by omega) (by omega)
            rw [show eS (m.1 90) f 1 = 0 from rfl, show nI 1 = 1 from rfl] at el
            have el' : fm_X5_ellsOfRun 2 (81 + 2 * r) (mk m) = some (eS (m.1 90) f N) := el
            have v6 : m.2 1 6 = m.1 90 1 := hq.2.2.2.2.2.2.1
            have al1 : ∀ m : xM2, hp_ald (mk m) 90 1 = some (m.1 90 1) := fun m => al_90 m (i := 1) (by decide)
            have as1 : ∀ (m : xM2) x, hp_ast (mk m) 90 1 x = some (mk (sA m 90 (upd (m.1 90) 1 x))) := fun m x => as_90 m (i := 1) (by decide)
            have rend : ∀ mr : xM2, mr.1 90 = m.1 90 → fR f r N mr → fm_X11_run_b61 1 89 (nI r) (nI y) x' (eS (m.1 90) f N) (nI (40 * r)) (nI N) (mk mr) = if eS (m.1 90) f N ≤ m.1 90 1 then fm_X11_run_b202 5000 89 (nI r) (nI y) (nI (40 * r)) 1 (mk (sA mr 90 (upd (m.1 90) 1 (m.1 90 1 - eS (m.1 90) f N)))) else fm_X11_error 89 4 (mk mr) := fun mr h1 h3 => by
              rw [fm_X11_run_b61, gR_89_20, Option.bind_some, al_102 mr hr, Option.bind_some, h3.1, if_pos (Int32.le_refl _), gR_89_0, Option.bind_some, al1, Option.bind_some, h1, Option.bind_some, al1, Option.bind_some, as1, Option.bind_some, h1, if_pos (his_89 mr), ob2_eta]
            by_cases le : eS (m.1 90) f N ≤ m.1 90 1
            · have q1 := hq.fld (k := 6) (j := 1) (x := m.1 90 1 - eS (m.1 90) f N)
              have w1 : wf (upd (m.1 90) 1 (m.1 90 1 - eS (m.1 90) f N)) := hw.low (by decide)
              obtain ⟨s', m', c1, c2, c3, c4, c5⟩ := mend_l (hand := nI y) hr n1 k1 (N - 1) 1 5000 5000 (by omega) (by omega) (by omega) (by omega) _ _ q1 w1 (show (sF m 1 6 (m.1 90 1 - eS (m.1 90) f N)).2 (81 + 2 * r) 2 = nI N by rw [sF_n (by omega)]; exact s2') hf
              have e90 : m'.1 90 = m.1 90 := c2.s
              have hfR' : fR f r N m' := ⟨by rw [(c2 102 (by decide)).1]; exact n2, fun j hj => by rw [(c2 103 (by decide)).1]; exact hfR.2 j hj⟩
              obtain ⟨mr', f1, f2, f3⟩ := c5 (sA m' 90 (upd (m.1 90) 1 (m.1 90 1 - eS (m.1 90) f N))) hfR' sA_s
              have z' : m'.2 (81 + 2 * r) 2 = nI N := by rw [(c2 _ (by omega)).2, sF_n (by omega)]; exact s2'
              refine h.ok (v := nI N - 1) (m1 := m') (m2 := mr') ?_ ?_ (kpC.tr kpC.F c2.C) (kpR.tr kpR.A f2) c3 f3 c4
              · have c1' : fm_X5_mendRun 2 (81 + 2 * r) (nI y) (mk (sF m 1 6 (m.1 90 1 - eS (m.1 90) f N))) = some (mk m') := c1
                rw [cpre _ k2, if_pos (Int32.le_refl _), gR_0_0, Option.bind_some, gR_1_0, Option.bind_some, if_pos (his_2 m), el', Option.bind_some, Option.bind_some, gI_1_6, Option.bind_some, v6, if_pos le, Option.bind_some, gI_1_6, Option.bind_some, v6, mP_1_6, Option.bind_some, gR_0_0, Option.bind_some, gR_1_0, Option.bind_some, if_pos (his_2 _), c1', Option.bind_some, stI2 (so hr), Option.bind_some, z']
              · rw [rpre m' e90 (by rw [(c2 101 (by decide)).1]; rfl) hfR']
                refine (k3 m' hfR' e90).trans ((rend m' e90 hfR').trans ?_)
                rw [if_pos le]
                exact f1
            · refine h.e4 ?_ fun m' e => ?_
              · rw [cpre _ k2, if_pos (Int32.le_refl _), gR_0_0, Option.bind_some, gR_1_0, Option.bind_some, if_pos (his_2 m), el', Option.bind_some, Option.bind_some, gI_1_6, Option.bind_some, v6, if_neg le, if_pos (his_0 m), ob2_eta]
              · have hfR' : fR f r N m' := ⟨by rw [e.at]; exact n2, fun j hj => by rw [e.at]; exact hfR.2 j hj⟩
                rw [rpre m' e.at (by rw [e.at]) hfR']
                refine (k3 m' hfR' e.at).trans ((rend m' e.at hfR').trans ?_)
                rw [if_neg le]
    · refine h.e1 ?_ fun m' e => ?_ <;> simp only [fm_X10_run, fm_X11_run, fm_X10_run_b16, fm_X11_run_b14, below2, below3, below4, below5, below6, below7, below20, below31, below70, within_in, fm_X11_isKnot, fm_X11_isThread, fm_X11_isHand, fm_X11_isSheet, his_0, his_89, Option.bind_some, ob2_some, if_true, if_false, reduceIte, ob2_eta, one_ne, ea, eb]
  · refine h.e1 ?_ fun m' e => ?_ <;> simp only [fm_X10_run, fm_X11_run, fm_X10_run_b16, fm_X11_run_b14, below2, below3, below4, below5, below6, below7, below20, below31, below70, within_in, fm_X11_isKnot, fm_X11_isThread, fm_X11_isHand, fm_X11_isSheet, his_0, his_89, Option.bind_some, ob2_some, if_true, if_false, reduceIte, ob2_eta, one_ne, ea]
