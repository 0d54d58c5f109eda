/-! HOLES -/
def rst (x : Int32) : Nat → Int32
  | 0 => x
  | n + 1 => rst x n &&& (hol (rst x n) ^^^ (-1))
theorem rst_lo {x : Int32} (hl : lo 31 x) : ∀ n, lo 31 (rst x n)
  | 0 => hl
  | n + 1 => fun i hi h => by rw [rst, b_and, rst_lo hl n i hi h, Bool.false_and]
theorem rst_sub {x : Int32} (n : Nat) : sub (rst x (n + 1)) (rst x n) := fun i hi q => by
  rw [rst, b_and, Bool.and_eq_true] at q
  exact q.1
theorem rst_lt {x : Int32} (hl : lo 31 x) {n : Nat} (hn : ¬ rst x n = 0) : cnt (bt (rst x (n + 1))) 31 < cnt (bt (rst x n)) 31 := by
  have l := rst_lo hl n
  obtain ⟨t1, t2, -⟩ := lst_ok hn l
  refine cnt_lt 31 (fun i hi => rst_sub n i (by omega)) ⟨lst (rst x n), t1, ?_, t2⟩
  rw [rst, b_and, bt_not _ (by omega), hol_lst hn l]
  simp
theorem hol_num {x : Int32} (hl : lo 31 x) : ∃ N, N ≤ 31 ∧ rst x N = 0 ∧ ∀ k, k < N → ¬ rst x k = 0 := by
  have key : ∀ n, (cnt (bt (rst x n)) 31 + n ≤ 31 ∧ ∀ k, k < n → ¬ rst x k = 0) ∨ ∃ N, N ≤ n ∧ N ≤ 31 ∧ rst x N = 0 ∧ ∀ k, k < N → ¬ rst x k = 0 := by
    intro n
    induction n with
    | zero => exact Or.inl ⟨by have := cnt_le (p := bt (rst x 0)) 31; omega, fun k hk => absurd hk (by omega)⟩
    | succ n ih =>
      rcases ih with ⟨a, b⟩ | ⟨N, a, b, c, d⟩
      · by_cases e : rst x n = 0
        · exact Or.inr ⟨n, by omega, by omega, e, b⟩
        · have := rst_lt hl e
          refine Or.inl ⟨by omega, fun k hk => ?_⟩
          by_cases q : k = n
          · rw [q]; exact e
          · exact b k (by omega)
      · exact Or.inr ⟨N, by omega, b, c, d⟩
  rcases key 32 with ⟨a, -⟩ | ⟨N, -, b, c, d⟩
  · omega
  · exact ⟨N, b, c, d⟩
theorem holesIn_ok {x : Int32} {N : Nat} (hl : lo 31 x) (hN : N ≤ 31) (h0 : rst x N = 0) (hk : ∀ k, k < N → ¬ rst x k = 0) (H : qx_H) : fm_X0_holesIn x H = some (nI N) := by
  have key : ∀ (j i n : Nat), i + j = N → j < n → fm_X0_holesIn_b6 n (nI i) (rst x i) (nI i) H = some (nI N) := by
    intro j
    induction j with
    | zero =>
      intro i n hi hn
      obtain ⟨n, rfl⟩ : ∃ n', n = n' + 1 := ⟨n - 1, by omega⟩
      have : i = N := by omega
      subst this
      rw [fm_X0_holesIn_b6, h0, if_pos rfl]
      split <;> rfl
    | succ j ih =>
      intro i n hi hn
      obtain ⟨n, rfl⟩ : ∃ n', n = n' + 1 := ⟨n - 1, by omega⟩
      rw [fm_X0_holesIn_b6, if_neg (n31 (by omega)), if_neg (hk i (by omega)), hole_c (hk i (by omega)) (rst_lo hl i), Option.bind_some, nI_1]
      exact ih (i + 1) n (by omega) (by omega)
  exact key N 0 5000 (by omega) (by omega)
theorem holeAt_ok {x : Int32} {N p : Nat} (hl : lo 31 x) (hN : N ≤ 31) (hp : p < N) (hk : ∀ k, k < N → ¬ rst x k = 0) (H : qx_H) : fm_X0_holeAt x (nI p) H = some (hol (rst x p)) := by
  have key : ∀ (j i n : Nat), i + j = p → j < n → fm_X0_holeAt_b4 n (nI p) (rst x i) (nI i) H = some (hol (rst x p)) := by
    intro j
    induction j with
    | zero =>
      intro i n hi hn
      obtain ⟨n, rfl⟩ : ∃ n', n = n' + 1 := ⟨n - 1, by omega⟩
      have : i = p := by omega
      subst this
      rw [fm_X0_holeAt_b4, if_pos (Int32.le_refl _), fm_X0_holeAt_b28, hole_c (hk i (by omega)) (rst_lo hl i), Option.bind_some]
    | succ j ih =>
      intro i n hi hn
      obtain ⟨n, rfl⟩ : ∃ n', n = n' + 1 := ⟨n - 1, by omega⟩
      rw [fm_X0_holeAt_b4, if_neg (nI_ge (by omega) (by omega)), if_neg (hk i (by omega)), hole_c (hk i (by omega)) (rst_lo hl i), Option.bind_some, nI_1]
      exact ih (i + 1) n (by omega) (by omega)
  exact key p 0 5000 (by omega) (by omega)
def hsz (x : Int32) (i : Nat) : Nat := cnt (bt (hol (rst x i))) 31
theorem hol_cnt (x : Int32) : fm_J6_bitCount_0f7a4 (hol x) = nI (cnt (bt (hol x)) 31) := bitCount_lo (lo_thr _ _)
/-- the reference's scratch rows alone -/
def scH (m m' : xM2) : Prop := m'.2 = m.2 ∧ ∀ a, a ≠ 98 → m'.1 a = m.1 a
theorem scH.rf {m : xM2} : scH m m := ⟨rfl, fun _ _ => rfl⟩
theorem scH.tr {m m1 m2 : xM2} (h : scH m m1) (g : scH m1 m2) : scH m m2 := ⟨g.1.trans h.1, fun a ha => (g.2 a ha).trans (h.2 a ha)⟩
theorem scH.R {m m' : xM2} (h : scH m m') : kpR m m' := ⟨fun a ha => ⟨h.2 a (by omega), by rw [h.1]⟩, h.2 _ (by decide), h.2 _ (by decide), h.2 _ (by decide), h.2 _ (by decide), h.2 _ (by decide), h.2 _ (by decide), by rw [h.1], by rw [h.1]⟩
theorem findH_in {own l1 : Int32} {k : Nat} (hk : k < 31) {k7 : Nat → Int32 → Int32 → qx_H → Option (Int32 × qx_H)} : ∀ (j i n : Nat), i + j = 31 → j < n → ∀ m : xM2, m.1 98 k = nI (cnt (bt own) i) → fm_X11_findHoles_b30 k7 n 89 l1 (nI k) own (nI i) (mk m) = k7 89 (l1 &&& (own ^^^ (-1))) (nI (k + 1)) (mk (sA m 98 (upd (m.1 98) k (nI (cnt (bt own) 31))))) := by
  intro j
  induction j with
  | zero =>
    intro i n hi hn m hm
    obtain ⟨n, rfl⟩ : ∃ n', n = n' + 1 := ⟨n - 1, by omega⟩
    have : i = 31 := by omega
    subst this
    have e : upd (m.1 98) k (nI (cnt (bt own) 31)) = m.1 98 := by
      funext z
      by_cases q : z = k
      · rw [q, upd_s, hm]
      · rw [upd_n q]
    rw [fm_X11_findHoles_b30, if_pos le31, nI_1, e, sA_self]
  | succ j ih =>
    intro i n hi hn m hm
    obtain ⟨n, rfl⟩ : ∃ n', n = n' + 1 := ⟨n - 1, by omega⟩
    have st : nI (cnt (bt own) i) + (if fm_X11_isIn own (nI i) = 0 then 0 else 1) = nI (cnt (bt own) (i + 1)) := by
      rw [isIn_eq (by omega), cnt]
      cases bt own i
      · rw [if_pos (by decide)]; exact nI_add _ 0
      · rw [if_neg (by decide)]; exact nI_1 _
    have := ih (i + 1) n (by omega) (by omega) (sA m 98 (upd (m.1 98) k (nI (cnt (bt own) (i + 1))))) (by rw [sA_s, upd_s])
    rw [fm_X11_findHoles_b30, if_neg (n31 (by omega)), gR_89_13, Option.bind_some, al_98 m hk, Option.bind_some, hm, st, as_98 m hk, Option.bind_some, nI_1, this, sA_s, sA_sA]
    have e : upd (upd (m.1 98) k (nI (cnt (bt own) (i + 1)))) k (nI (cnt (bt own) 31)) = upd (m.1 98) k (nI (cnt (bt own) 31)) := by
      funext z
      by_cases q : z = k
      · rw [q, upd_s, upd_s]
      · rw [upd_n q, upd_n q, upd_n q]
    rw [e]
theorem findH_l {x : Int32} {N : Nat} (hl : lo 31 x) (hN : N ≤ 31) (h0 : rst x N = 0) (hk : ∀ k, k < N → ¬ rst x k = 0) : ∀ (j i n : Nat), i + j = N → j < n → ∀ m : xM2, (∀ k, k < i → m.1 98 k = nI (hsz x k)) → ∃ m', scH m m' ∧ (∀ k, k < N → m'.1 98 k = nI (hsz x k)) ∧ fm_X11_findHoles_b7 n 89 (rst x i) (nI i) (mk m) = some (nI N, mk m') := by
  intro j
  induction j with
  | zero =>
    intro i n hi hn m hm
    obtain ⟨n, rfl⟩ : ∃ n', n = n' + 1 := ⟨n - 1, by omega⟩
    have : i = N := by omega
    subst this
    exact ⟨m, scH.rf, hm, by rw [fm_X11_findHoles_b7, if_pos h0]⟩
  | succ j ih =>
    intro i n hi hn m hm
    obtain ⟨n, rfl⟩ : ∃ n', n = n' + 1 := ⟨n - 1, by omega⟩
    have hx := hk i (by omega)
    have l := rst_lo hl i
    have i31 : i < 31 := by omega
    obtain ⟨t, e1, e2⟩ := hole_r hx l (mk m)
    have inn := findH_in (own := hol (rst x i)) (l1 := rst x i) (k7 := fm_X11_findHoles_b7 n) i31 31 0 5000 (by omega) (by omega) (sA m 98 (upd (m.1 98) i 0)) (by rw [sA_s, upd_s]; rfl)
    rw [show nI 0 = 0 from rfl, sA_s, sA_sA] at inn
    have e : upd (upd (m.1 98) i 0) i (nI (cnt (bt (hol (rst x i))) 31)) = upd (m.1 98) i (nI (hsz x i)) := by
      funext z
      by_cases q : z = i
      · rw [q, upd_s, upd_s]; rfl
      · rw [upd_n q, upd_n q, upd_n q]
    rw [e] at inn
    obtain ⟨m', b1, b2, b3⟩ := ih (i + 1) n (by omega) (by omega) (sA m 98 (upd (m.1 98) i (nI (hsz x i)))) (fun k hk => by
      rw [sA_s]
      by_cases q : k = i
      · rw [q, upd_s]
      · rw [upd_n q]; exact hm k (by omega))
    refine ⟨m', scH.tr (m1 := sA m 98 (upd (m.1 98) i (nI (hsz x i)))) ⟨rfl, fun a ha => sA_n ha⟩ b1, b2, ?_⟩
    rw [fm_X11_findHoles_b7, if_neg hx, e1, Option.bind_some, e2, Option.bind_some, gR_89_13, Option.bind_some, as_98 m i31, Option.bind_some, inn]
    exact b3
theorem findH_ok {m : xM2} {s : Nat → Int32} {N : Nat} (hs : m.1 90 = s) (hN : N ≤ 31) (h0 : rst (goneS s) N = 0) (hk : ∀ k, k < N → ¬ rst (goneS s) k = 0) : ∃ m', scH m m' ∧ (∀ k, k < N → m'.1 98 k = nI (hsz (goneS s) k)) ∧ fm_X11_findHoles 89 (mk m) = some (nI N, mk m') := by
  obtain ⟨m', a, b, c⟩ := findH_l (lo_gone s) hN h0 hk N 0 5000 (by omega) (by omega) m (fun k hk => absurd hk (by omega))
  refine ⟨m', a, b, ?_⟩
  unfold fm_X11_findHoles
  rw [if_pos (his_89 m), gone_ok, Option.bind_some, hs]
  exact c
theorem m1_or {a : Int32} (h : -1 ≤ a) : a = -1 ∨ ∃ k, k < 2 ^ 31 ∧ a = nI k := by
  by_cases h0 : a < 0
  · left
    rw [Int32.le_iff_toInt_le] at h
    rw [Int32.lt_iff_toInt_lt] at h0
    have e1 : (-1 : Int32).toInt = -1 := by decide
    have e0 : (0 : Int32).toInt = 0 := by decide
    apply Int32.toInt_inj.mp
    omega
  · exact Or.inr (nI_of h0)
theorem p_hole {m : xM2} (h : Rel m) (a : Int32) : pr m (fm_X10_hole 0 a) (fm_X11_hole 89 a) := by
  have g9 := h.1.g9
  by_cases hm : -1 ≤ a
  · have l := lo_gone (m.1 90)
    obtain ⟨N, hN, h0, hk⟩ := hol_num l
    have hc := holesIn_ok l hN h0 hk (mk m)
    rcases m1_or hm with rfl | ⟨k, hk31, rfl⟩
    · obtain ⟨m', b1, b2, b3⟩ := findH_ok (m := m) rfl hN h0 hk
      have lt : (-1 : Int32) < nI N := by
        rw [Int32.lt_iff_toInt_lt, nI_toInt (by omega)]
        have : (-1 : Int32).toInt = -1 := by decide
        omega
      refine h.see (v := nI N) (m1 := m) (m2 := m') ?_ ?_ kpC.rf h.1 b1.R (b1.2 90 (by decide))
      · unfold fm_X10_hole
        rw [if_pos hm, gR_0_0, Option.bind_some, gR_1_0, Option.bind_some, gI_2_9, Option.bind_some, g9, hc, Option.bind_some, if_pos lt, if_neg (by decide)]
      · unfold fm_X11_hole
        rw [if_pos hm, if_pos (his_89 m), b3, ob2_some, if_pos rfl]
    · by_cases q : k < N
      · obtain ⟨m', b1, b2, b3⟩ := findH_ok (m := m) rfl hN h0 hk
        refine h.see (v := nI (hsz (goneS (m.1 90)) k)) (m1 := m) (m2 := m') ?_ ?_ kpC.rf h.1 b1.R (b1.2 90 (by decide))
        · unfold fm_X10_hole
          rw [if_pos hm, gR_0_0, Option.bind_some, gR_1_0, Option.bind_some, gI_2_9, Option.bind_some, g9, hc, Option.bind_some, if_pos (nI_lt q (by omega)), if_pos (nI_pos' hk31), Option.bind_some, gR_1_0, Option.bind_some, gI_2_9, Option.bind_some, g9, holeAt_ok l hN q hk, Option.bind_some, hol_cnt]
          rfl
        · have n1 : ¬ nI k = -1 := fun e => by
            have := nI_pos' hk31
            rw [e] at this
            exact absurd this (by decide)
          unfold fm_X11_hole
          rw [if_pos hm, if_pos (his_89 m), b3, ob2_some, if_neg n1, if_neg (nI_ge q (by omega)), gR_89_13, Option.bind_some, al_98 m' (show k < 31 by omega), Option.bind_some, b2 k q]
      · have n1 : ¬ nI k = -1 := fun e => by
          have := nI_pos' hk31
          rw [e] at this
          exact absurd this (by decide)
        refine h.errs (k := 2) (by decide) (by decide) ?_ fun m' e => ?_
        · rw [show (-1000000000 - nI 2 : Int32) = -1000000002 by decide]
          unfold fm_X10_hole
          rw [if_pos hm, gR_0_0, Option.bind_some, gR_1_0, Option.bind_some, gI_2_9, Option.bind_some, g9, hc, Option.bind_some, if_neg (nI_nlt (by omega) hk31), if_pos (his_0 m), ob2_eta]
        · obtain ⟨m2, b1, b2, b3⟩ := findH_ok (m := m') (s := m.1 90) e.at hN h0 hk
          refine ⟨m2, b1.R, b1.2 90 (by decide), ?_⟩
          unfold fm_X11_hole
          rw [if_pos hm, if_pos (his_89 m'), b3, ob2_some, if_neg n1, if_pos (nI_le (by omega) hk31), if_pos (his_89 m2), ob2_eta]
          rfl
  · refine h.e1 ?_ fun m' e => ?_
    · unfold fm_X10_hole
      rw [if_neg hm, if_pos (his_0 m), ob2_eta]
    · unfold fm_X11_hole
      rw [if_neg hm, if_pos (his_89 m'), ob2_eta]
