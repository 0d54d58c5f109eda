/-! CALLS: KNOTIS, RUN -/
theorem takes_ok {m : xM2} {k : Nat} (hk : k < 20) : fm_X11_takes 89 (nI k) (mk m) = some (fm_X2_takesOf (m.1 90 (8 + 4 * k))) := by
  unfold fm_X11_takes fm_X2_takesOf
  rw [if_pos (his_89 m), its0 hk, Option.bind_some]
  split
  · rfl
  · split
    · rfl
    · split <;> rfl
theorem thr_deg {x : Int32} {k : Nat} (hk : k < 20) : fm_J6_bitCount_0f7a4 (thr x (ji_shl 1 (nI k))) = nI (deg x k) := by
  rw [bitCount_lo (lo_thr _ _), cnt_cong (p := bt (thr x (ji_shl 1 (nI k)))) (q := fun t => bt x t && at_ k t)]
  · rfl
  · intro t ht
    have k1 := kL_lt t ht
    have k2 := kR_lt t ht
    rw [bt_thr ht]
    unfold tch at_
    rw [bt_shl1 (by omega) (by omega), bt_shl1 (by omega) (by omega)]
theorem p_knotIs {m : xM2} (h : Rel m) (a b : Int32) : pr m (fm_X10_knotIs 0 a b) (fm_X11_knotIs 89 a b) := by
  rcases inC a (lo := 0) (hi := 19) 0 19 with ⟨k, -, hk, rfl, ea⟩ | ea
  · have hk' : k < 20 := by omega
    obtain ⟨hq, hw, -⟩ := id h
    obtain ⟨a1, a2, a3, a4, -⟩ := id hq.1
    rcases inC b (lo := 0) (hi := 6) 0 6 with ⟨w, -, hw', rfl, eb⟩ | eb
    · have : w = 0 ∨ w = 1 ∨ w = 2 ∨ w = 3 ∨ w = 4 ∨ w = 5 ∨ w = 6 := by omega
      rcases this with rfl | rfl | rfl | rfl | rfl | rfl | rfl
      · refine h.val (v := m.1 90 (8 + 4 * k)) ?_ ?_
        · have v : m.1 3 k = m.1 90 (8 + 4 * k) := a1 k hk'
          unfold fm_X10_knotIs
          rw [below20, ea, if_neg one_ne, gR_0_0, Option.bind_some, gR_1_0, Option.bind_some, if_pos (show nI 0 = 0 from rfl), gR_2_0, Option.bind_some, al_3 _ hk', Option.bind_some, v]
        · unfold fm_X11_knotIs fm_X11_isKnot
          rw [ea, if_neg one_ne, eb, if_neg one_ne, if_neg (by decide), if_pos (his_89 m), its_ok hk' (by decide), Option.bind_some]
          rfl
      · refine h.val (v := m.1 90 (8 + 4 * k + 1)) ?_ ?_
        · have v : m.1 4 k = m.1 90 (8 + 4 * k + 1) := a2 k hk'
          unfold fm_X10_knotIs
          rw [below20, ea, if_neg one_ne, gR_0_0, Option.bind_some, gR_1_0, Option.bind_some, if_neg (by decide), if_pos (show nI 1 = 1 from rfl), gR_2_1, Option.bind_some, al_4 _ hk', Option.bind_some, v]
        · unfold fm_X11_knotIs fm_X11_isKnot
          rw [ea, if_neg one_ne, eb, if_neg one_ne, if_neg (by decide), if_pos (his_89 m), its_ok hk' (by decide), Option.bind_some]
      · refine h.val (v := m.1 90 (8 + 4 * k + 2)) ?_ ?_
        · have v : m.1 5 k = m.1 90 (8 + 4 * k + 2) := a3 k hk'
          unfold fm_X10_knotIs
          rw [below20, ea, if_neg one_ne, gR_0_0, Option.bind_some, gR_1_0, Option.bind_some, if_neg (by decide), if_neg (by decide), if_pos (show nI 2 = 2 from rfl), gR_2_2, Option.bind_some, al_5 _ hk', Option.bind_some, v]
        · unfold fm_X11_knotIs fm_X11_isKnot
          rw [ea, if_neg one_ne, eb, if_neg one_ne, if_neg (by decide), if_pos (his_89 m), its_ok hk' (by decide), Option.bind_some]
      · refine h.val (v := m.1 90 (8 + 4 * k + 3)) ?_ ?_
        · have v : m.1 6 k = m.1 90 (8 + 4 * k + 3) := a4 k hk'
          unfold fm_X10_knotIs
          rw [below20, ea, if_neg one_ne, gR_0_0, Option.bind_some, gR_1_0, Option.bind_some, if_neg (by decide), if_neg (by decide), if_neg (by decide), if_pos (show nI 3 = 3 from rfl), gR_2_3, Option.bind_some, al_6 _ hk', Option.bind_some, v]
        · unfold fm_X11_knotIs fm_X11_isKnot
          rw [ea, if_neg one_ne, eb, if_neg one_ne, if_neg (by decide), if_pos (his_89 m), its_ok hk' (by decide), Option.bind_some]
      · obtain ⟨m1, c1, c2⟩ := holdsOf_ok no2 hq.1 hw.d (by decide) hk'
        have e90 := c1.N.s
        obtain ⟨m2, d1, d2⟩ := holds_ok (m := m1) hk' (by rw [e90]; exact hw.1.1)
        rw [e90] at d2
        refine h.see (v := holdsS (m.1 90) k) (m1 := m1) (m2 := m2) ?_ ?_ c1.N.C (hq.scC c1) d1.R d1.s
        · unfold fm_X10_knotIs
          rw [below20, ea, if_neg one_ne, gR_0_0, Option.bind_some, gR_1_0, Option.bind_some, if_neg (by decide), if_neg (by decide), if_neg (by decide), if_neg (by decide), if_pos (show nI 4 = 4 from rfl), if_pos (his_2 m), c2, ob2_some]
        · unfold fm_X11_knotIs fm_X11_isKnot
          rw [ea, if_neg one_ne, eb, if_neg one_ne, if_pos (by decide), if_pos (by decide), if_pos (his_89 m1), d2, ob2_some]
      · refine h.val (v := fm_X2_takesOf (m.1 90 (8 + 4 * k))) ?_ ?_
        · have v : m.1 3 k = m.1 90 (8 + 4 * k) := a1 k hk'
          unfold fm_X10_knotIs
          rw [below20, ea, if_neg one_ne, gR_0_0, Option.bind_some, gR_1_0, Option.bind_some, if_neg (by decide), if_neg (by decide), if_neg (by decide), if_neg (by decide), if_neg (by decide), if_pos (show nI 5 = 5 from rfl), gR_2_0, Option.bind_some, al_3 _ hk', Option.bind_some, v]
        · unfold fm_X11_knotIs fm_X11_isKnot
          rw [ea, if_neg one_ne, eb, if_neg one_ne, if_pos (by decide), if_neg (by decide), if_pos (by decide), if_pos (his_89 m), takes_ok hk', Option.bind_some]
      · refine h.val (v := nI (deg (goneS (m.1 90)) k)) ?_ ?_
        · unfold fm_X10_knotIs
          rw [below20, ea, if_neg one_ne, gR_0_0, Option.bind_some, gR_1_0, Option.bind_some, if_neg (by decide), if_neg (by decide), if_neg (by decide), if_neg (by decide), if_neg (by decide), if_neg (by decide), if_pos (show nI 6 = 6 from rfl), gI_2_9, Option.bind_some, hq.g9, thr_ok, Option.bind_some, thr_deg hk']
        · unfold fm_X11_knotIs fm_X11_isKnot
          rw [ea, if_neg one_ne, eb, if_neg one_ne, if_pos (by decide), if_neg (by decide), if_neg (by decide), if_pos (his_89 m), gone_ok, Option.bind_some, endsAt_ok hk', Option.bind_some]
    · have ne : ∀ j, j ≤ 6 → ¬ b = nI j := fun j hj => in0_ne (l := 0) (n := 6) (k := j) eb ⟨Nat.zero_le j, hj⟩
      refine h.e1 ?_ fun m' e => ?_
      · unfold fm_X10_knotIs
        rw [below20, ea, if_neg one_ne, gR_0_0, Option.bind_some, gR_1_0, Option.bind_some, if_neg (show ¬ b = 0 from ne 0 (by decide)), if_neg (show ¬ b = 1 from ne 1 (by decide)), if_neg (show ¬ b = 2 from ne 2 (by decide)), if_neg (show ¬ b = 3 from ne 3 (by decide)), if_neg (show ¬ b = 4 from ne 4 (by decide)), if_neg (show ¬ b = 5 from ne 5 (by decide)), if_neg (show ¬ b = 6 from ne 6 (by decide)), if_pos (his_0 m), ob2_eta]
      · simp only [fm_X11_knotIs, fm_X11_knotIs_b17, below2, below3, below4, below5, below6, below7, below20, below31, below70, within_in, fm_X11_isKnot, fm_X11_isThread, fm_X11_isHand, fm_X11_isSheet, his_0, his_89, Option.bind_some, ob2_some, if_true, if_false, reduceIte, ob2_eta, one_ne, ea, eb]
  · refine h.e1 ?_ fun m' e => ?_ <;> simp only [fm_X10_knotIs, fm_X11_knotIs, fm_X11_knotIs_b17, below2, below3, below4, below5, below6, below7, below20, below31, below70, within_in, fm_X11_isKnot, fm_X11_isThread, fm_X11_isHand, fm_X11_isSheet, his_0, his_89, Option.bind_some, ob2_some, if_true, if_false, reduceIte, ob2_eta, one_ne, ea]
/-- a thread of a net is new -/
def renS (s : Nat → Int32) (t : Nat) : Nat → Int32 := upd (upd (upd s (88 + 3 * t + 0) 1) (88 + 3 * t + 1) 0) (88 + 3 * t + 2) (s 0)
theorem goneS_ren {s : Nat → Int32} {t : Nat} (ht : t < 31) : goneS s &&& (ji_shl 1 (nI t) ^^^ (-1)) = goneS (renS s t) := by
  apply lo_ext (n := 31)
  · intro i hi h
    rw [b_and, show bt (goneS s) i = false from lo_gone s i hi h, Bool.false_and]
  · exact lo_gone _
  · intro i hi hi2
    rw [b_and, bt_not _ hi2, bt_shl1 (by omega) hi2, bt_gone hi, bt_gone hi]
    unfold gn renS
    by_cases e : i = t
    · subst e
      rw [upd_n (by omega), upd_n (by omega), show 88 + 3 * i = 88 + 3 * i + 0 from rfl, upd_s]
      simp
    · rw [upd_n (by omega), upd_n (by omega), upd_n (by omega)]
      simp [e]
theorem renew_ok {m : xM2} {o t : Nat} {s : Nat → Int32} (ho : isNet o) (h : netR m o s) (ht : t < 31) : ∃ m', scN o m m' ∧ netR m' o (renS s t) ∧ fm_X5_renew o (nI t) (mk m) = some (mk m') := by
  obtain ⟨a1, a2, a3, a4, a5, a6, a7, a8, a9, b1⟩ := h
  have he : eqT s (renS s t) := fun j h1 h2 => by unfold renS; rw [upd_n (by omega), upd_n (by omega), upd_n (by omega)]
  have lo : ∀ j, j < 88 → renS s t j = s j := fun j hj => by unfold renS; rw [upd_n (by omega), upd_n (by omega), upd_n (by omega)]
  have cl : ∀ c, c ≠ o + 5 → c ≠ o + 6 → (sA (sA (sF m o 9 (goneS s &&& (ji_shl 1 (nI t) ^^^ (-1)))) (o + 5) (upd (m.1 (o + 5)) t 0)) (o + 6) (upd (m.1 (o + 6)) t (s 0))).1 c = m.1 c := fun c h1 h2 => (sA_n h2).trans (sA_n h1)
  refine ⟨sA (sA (sF m o 9 (goneS s &&& (ji_shl 1 (nI t) ^^^ (-1)))) (o + 5) (upd (m.1 (o + 5)) t 0)) (o + 6) (upd (m.1 (o + 6)) t (s 0)), (scN.F.tr (scN.A (by decide))).tr (scN.A (by decide)), ⟨fun k hk => ?_, fun k hk => ?_, fun k hk => ?_, fun k hk => ?_, fun k hk => ?_, fun k hk => ?_, ?_, ?_, he.law (by decide) (a9.mv (cl _ (by omega) (by omega)) (by rw [sA_2, sA_2, sF_n (by omega)])), he.law (by decide) (b1.mv (cl _ (by omega) (by omega)) (by rw [sA_2, sA_2, sF_n (by omega)]))⟩, ?_⟩
  · rw [cl _ (by omega) (by omega), lo _ (by omega)]; exact a1 k hk
  · rw [cl _ (by omega) (by omega), lo _ (by omega)]; exact a2 k hk
  · rw [cl _ (by omega) (by omega), lo _ (by omega)]; exact a3 k hk
  · rw [cl _ (by omega) (by omega), lo _ (by omega)]; exact a4 k hk
  · rw [sA_n (by omega), sA_s]
    unfold renS
    by_cases e : k = t
    · subst e; rw [upd_s, upd_n (by omega), upd_s]
    · rw [upd_n e, upd_n (by omega), upd_n (by omega), upd_n (by omega)]; exact a5 k hk
  · rw [sA_s]
    unfold renS
    by_cases e : k = t
    · subst e; rw [upd_s, upd_s]
    · rw [upd_n e, upd_n (by omega), upd_n (by omega), upd_n (by omega)]; exact a6 k hk
  · rw [sA_2, sA_2, sF_s, upd_s]; exact goneS_ren ht
  · rw [sA_2, sA_2, sF_s, upd_n (by decide), a8, lo 0 (by decide)]
  · unfold fm_X5_renew
    have i10 : (sA (sF m o 9 (goneS s &&& (ji_shl 1 (nI t) ^^^ (-1)))) (o + 5) (upd (m.1 (o + 5)) t 0)).2 o 10 = s 0 := by rw [sA_2, sF_s, upd_n (by decide), a8]
    have i6 : (sA (sF m o 9 (goneS s &&& (ji_shl 1 (nI t) ^^^ (-1)))) (o + 5) (upd (m.1 (o + 5)) t 0)).1 (o + 6) = m.1 (o + 6) := sA_n (by omega)
    rw [ntI9 ho, Option.bind_some, a7, ntP9 ho, Option.bind_some, ntR4 ho, Option.bind_some, ntS5 ho _ ht, Option.bind_some, sF_1, ntR5 ho, Option.bind_some, ntI10 ho, Option.bind_some, i10, ntS6 ho _ ht, Option.bind_some, i6]
theorem bw_eq : ∀ a, a < 20 → ∀ b, b < 20 → fm_X0_between (nI a) (nI b) = fm_X11_between (nI a) (nI b) := by decide +kernel
theorem bw_rng : ∀ a, a < 20 → ∀ b, b < 20 → fm_X11_between (nI a) (nI b) = -1 ∨ ∃ t, t < 31 ∧ fm_X11_between (nI a) (nI b) = nI t := by decide +kernel
