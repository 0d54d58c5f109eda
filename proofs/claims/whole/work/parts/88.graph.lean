/-! WHAT HANGS TOGETHER -/
def eJ (t : Nat) : Int32 := fm_X0_endsOf (nI t)
theorem eJ_lo20 : ∀ t, t < 31 → ∀ i, i < 32 → 20 ≤ i → bt (eJ t) i = false := by
  intro t ht i hi h
  unfold eJ
  rw [bt_ends t ht i hi, at_big t ht i h]
theorem eJ_lo {t : Nat} (ht : t < 31) : lo 31 (eJ t) := fun i hi h => eJ_lo20 t ht i hi (by omega)
theorem spr_ok {x r : Int32} (H : qx_H) : fm_X0_spread x r 0 H = some (clo eJ x r) := spread_ok (J := eJ) (fun t _ => if_pos rfl) H
/-- closed for threads: both knots or none -/
theorem clo_tch {x r : Int32} (h : lo 31 r) {t : Nat} (ht : t < 31) (hx : bt x t = true) (hc : tch (clo eJ x r) t = true) : bt (clo eJ x r) (kL t) = true ∧ bt (clo eJ x r) (kR t) = true := by
  have h1 := kL_lt t ht
  have h2 := kR_lt t ht
  have s := clo_closed (J := eJ) (x := x) (fun t ht => eJ_lo ht) h ht hx (fun q => by
    rw [and_com] at q
    have := (ends_and ht _).mp q
    rw [this] at hc; cases hc)
  refine ⟨s _ (by omega) ?_, s _ (by omega) ?_⟩
  · unfold eJ; rw [bt_ends t ht _ (by omega)]; simp [at_]
  · unfold eJ; rw [bt_ends t ht _ (by omega)]; simp [at_]
theorem clo_min {x r D : Int32} (hr : sub r D) (hD : ∀ t, t < 31 → bt x t = true → tch D t = true → bt D (kL t) = true ∧ bt D (kR t) = true) : sub (clo eJ x r) D := by
  refine clo_least hr fun t ht hx hc => ?_
  have c : tch D t = true := by
    cases q : tch D t
    · exact absurd (by rw [and_com]; exact (ends_and ht D).mpr q) hc
    · rfl
  obtain ⟨a, b⟩ := hD t ht hx c
  intro i hi q
  unfold eJ at q
  rw [bt_ends t ht i hi] at q
  simp [at_] at q
  rcases q with q | q
  · rw [← q]; exact a
  · rw [← q]; exact b
def swo (x kn own : Int32) : Nat → Int32
  | 0 => own
  | n + 1 => if (bt x n && tch (swp eJ x kn n) n) = true then swo x kn own n ||| ji_shl 1 (nI n) else swo x kn own n
theorem swp_e {x kn : Int32} {n : Nat} (hn : n < 31) : swp eJ x kn (n + 1) = if (bt x n && tch (swp eJ x kn n) n) = true then swp eJ x kn n ||| eJ n else swp eJ x kn n := by
  have z : ∀ y : Int32, y ||| 0 = y := fun y => b_ext fun i _ => by rw [b_or, b_0, Bool.or_false]
  rw [swp]
  cases e1 : bt x n
  · rw [if_neg (by decide), Bool.false_and, if_neg (by decide)]
  · rw [if_pos rfl, Bool.true_and]
    cases e2 : tch (swp eJ x kn n) n
    · rw [if_pos (by rw [and_com]; exact (ends_and hn _).mpr e2), z, if_neg (by decide)]
    · rw [if_neg (fun q => by rw [and_com] at q; rw [(ends_and hn _).mp q] at e2; cases e2), if_pos rfl]
theorem hangs_in {x kn own was : Int32} {k21 : Int32 → Int32 → Int32 → Int32 → qx_H → Option Int32} (H : qx_H) : ∀ (j i n : Nat), i + j = 31 → j < n → fm_X11_hangs_b33 k21 n x (swo x kn own i) (swp eJ x kn i) was (nI i) H = k21 x (swo x kn own 31) (swp eJ x kn 31) was H := by
  intro j
  induction j with
  | zero =>
    intro i n hi hn
    obtain ⟨n, rfl⟩ : ∃ n', n = n' + 1 := ⟨n - 1, by omega⟩
    have : i = 31 := by omega
    subst this
    rw [fm_X11_hangs_b33, if_pos le31]
  | succ j ih =>
    intro i n hi hn
    obtain ⟨n, rfl⟩ : ∃ n', n = n' + 1 := ⟨n - 1, by omega⟩
    have hi31 : i < 31 := by omega
    have := ih (i + 1) n (by omega) (by omega)
    rw [swp_e hi31, swo] at this
    rw [fm_X11_hangs_b33, if_neg (n31 hi31), isIn_eq (by omega), both_eq i hi31]
    cases e1 : bt x i
    · rw [if_pos (by decide), fm_X11_hangs_b85, nI_1]
      simpa [e1] using this
    · rw [if_neg (by decide)]
      cases e2 : tch (swp eJ x kn i) i
      · rw [if_pos ((ends_and hi31 _).mpr e2), fm_X11_hangs_b85, nI_1]
        simpa [e1, e2] using this
      · rw [if_neg (fun q => by rw [(ends_and hi31 _).mp q] at e2; cases e2), fm_X11_hangs_b85, nI_1]
        simpa [e1, e2, eJ] using this
theorem bt_shl1' {n i : Nat} (hn : n < 32) (hi : i < 32) : bt (ji_shl 1 (nI n)) i = true ↔ i = n := by rw [bt_shl1 hn hi]; simp
theorem swo_up {x kn own : Int32} : ∀ n, sub (swo x kn own n) (swo x kn own (n + 1))
  | n => fun i hi q => by
    rw [swo]
    split
    · rw [b_or, q]; rfl
    · exact q
theorem swo_le {x kn own : Int32} {a : Nat} : ∀ d, sub (swo x kn own a) (swo x kn own (a + d))
  | 0 => sub.rf
  | d + 1 => (swo_le d).tr (swo_up (a + d))
/-- what own threads are at a sweep's place -/
def hInv (x kn own : Int32) : Prop := lo 31 own ∧ ∀ u, u < 31 → bt own u = true → bt x u = true ∧ bt kn (kL u) = true ∧ bt kn (kR u) = true
theorem swo_inv {x kn own : Int32} (h : hInv x kn own) : ∀ n, n ≤ 31 → hInv x (swp eJ x kn n) (swo x kn own n)
  | 0, _ => h
  | n + 1, hn => by
    obtain ⟨l, a⟩ := swo_inv h n (by omega)
    have up := swp_up (J := eJ) (x := x) (r := kn) n
    have k1 := kL_lt n (by omega)
    have k2 := kR_lt n (by omega)
    rw [swo]
    split
    · rename_i c
      rw [Bool.and_eq_true] at c
      have e : swp eJ x kn (n + 1) = swp eJ x kn n ||| eJ n := by rw [swp_e (by omega), if_pos (by rw [c.1, c.2]; rfl)]
      refine ⟨fun i hi h1 => ?_, fun u hu q => ?_⟩
      · rw [b_or, l i hi h1, bt_shl1 (by omega) hi]
        simp; omega
      · rw [b_or] at q
        have k3 := kL_lt u hu
        have k4 := kR_lt u hu
        cases w : bt (swo x kn own n) u
        · rw [w, Bool.false_or, bt_shl1' (by omega) (by omega)] at q
          subst q
          refine ⟨c.1, ?_, ?_⟩
          · rw [e, b_or]; unfold eJ; rw [bt_ends u hu _ (by omega)]; simp [at_]
          · rw [e, b_or]; unfold eJ; rw [bt_ends u hu _ (by omega)]; simp [at_]
        · obtain ⟨x1, x2, x3⟩ := a u hu w
          exact ⟨x1, up _ (by omega) x2, up _ (by omega) x3⟩
    · refine ⟨l, fun u hu q => ?_⟩
      have k3 := kL_lt u hu
      have k4 := kR_lt u hu
      obtain ⟨x1, x2, x3⟩ := a u hu q
      exact ⟨x1, up _ (by omega) x2, up _ (by omega) x3⟩
/-- a sweep that adds no thread adds no knot -/
theorem swo_still {x kn own : Int32} (h : hInv x kn own) (e : swo x kn own 31 = own) : ∀ n, n ≤ 31 → swp eJ x kn n = kn
  | 0, _ => rfl
  | n + 1, hn => by
    have ih := swo_still h e n (by omega)
    rw [swp_e (by omega), ih]
    split
    · rename_i c
      rw [Bool.and_eq_true] at c
      have k1 := kL_lt n (by omega)
      have k2 := kR_lt n (by omega)
      have inn : bt own n = true := by
        obtain ⟨d, hd⟩ : ∃ d, 31 = (n + 1) + d := ⟨31 - (n + 1), by omega⟩
        have u := swo_le (x := x) (kn := kn) (own := own) (a := n + 1) d
        rw [← hd, e] at u
        refine u n (by omega) ?_
        rw [swo, ih, if_pos (by rw [c.1, c.2]; rfl), b_or, (bt_shl1' (by omega) (by omega)).mpr rfl, Bool.or_true]
      obtain ⟨-, x2, x3⟩ := h.2 n (by omega) inn
      apply b_ext
      intro i hi
      rw [b_or]
      unfold eJ
      rw [bt_ends n (by omega) i hi]
      cases q : at_ i n
      · simp
      · simp [at_] at q
        rcases q with q | q
        · rw [← q, x2]; rfl
        · rw [← q, x3]; rfl
    · rfl
theorem own_thr {x kn own : Int32} (h : hInv x kn own) (e : swo x kn own 31 = own) : own = thr x kn := by
  apply lo_ext (n := 31) h.1 (lo_thr x kn)
  intro u hu hu2
  rw [bt_thr hu]
  cases q : bt own u
  · cases c : (bt x u && tch kn u)
    · rfl
    · obtain ⟨d, hd⟩ : ∃ d, 31 = (u + 1) + d := ⟨31 - (u + 1), by omega⟩
      have up := swo_le (x := x) (kn := kn) (own := own) (a := u + 1) d
      rw [← hd, e] at up
      have : bt own u = true := by
        refine up u hu2 ?_
        rw [swo, swo_still h e u (by omega), if_pos c, b_or, (bt_shl1' hu2 hu2).mpr rfl, Bool.or_true]
      rw [q] at this; cases this
  · obtain ⟨x1, x2, x3⟩ := h.2 u hu q
    simp [x1, tch, x2]
theorem itr_end {J : Nat → Int32} {x r : Int32} (hJ : ∀ t, t < 31 → lo 31 (J t)) (h : lo 31 r) {i : Nat} (st : itr J x r (i + 1) = itr J x r i) : itr J x r i = clo J x r := by
  have a := itr_stop st (i + 31) (by omega)
  have b := itr_stop (itr_fix (x := x) hJ h) (i + 31) (by omega)
  exact a.symm.trans b
theorem hangs_out {x r : Int32} (hr : lo 31 r) (H : qx_H) : ∀ (d n i : Nat) (own : Int32), 31 ≤ cnt (bt own) 31 + d → d + 1 < n → hInv x (itr eJ x r i) own → fm_X11_hangs_b33 (fm_X11_hangs_b21 n) 5000 x own (itr eJ x r i) own 0 H = some (thr x (clo eJ x r)) := by
  intro d
  induction d with
  | zero =>
    intro n i own hd hn hI
    obtain ⟨n, rfl⟩ : ∃ n', n = n' + 1 := ⟨n - 1, by omega⟩
    have full := cnt_full 31 (show 31 ≤ cnt (bt own) 31 by omega)
    have inn := hangs_in (x := x) (kn := itr eJ x r i) (own := own) (was := own) (k21 := fm_X11_hangs_b21 (n + 1)) H 31 0 5000 (by omega) (by omega)
    have I2 := swo_inv hI 31 (by decide)
    have e : swo x (itr eJ x r i) own 31 = own := by
      refine (sub.as (swo_le (a := 0) 31) fun j hj q => ?_).symm
      rcases Nat.lt_or_ge j 31 with z | z
      · exact full j z
      · rw [Nat.zero_add, I2.1 j hj z] at q; cases q
    have st := swo_still hI e 31 (by decide)
    rw [show nI 0 = 0 from rfl, show swo x (itr eJ x r i) own 0 = own from rfl, show swp eJ x (itr eJ x r i) 0 = itr eJ x r i from rfl] at inn
    have oe := own_thr hI e
    rw [inn, e, fm_X11_hangs_b21, if_pos rfl]
    rw [← itr_end (fun t ht => eJ_lo ht) hr st, ← oe]
  | succ d ih =>
    intro n i own hd hn hI
    obtain ⟨n, rfl⟩ : ∃ n', n = n' + 1 := ⟨n - 1, by omega⟩
    have inn := hangs_in (x := x) (kn := itr eJ x r i) (own := own) (was := own) (k21 := fm_X11_hangs_b21 (n + 1)) H 31 0 5000 (by omega) (by omega)
    have I2 := swo_inv hI 31 (by decide)
    rw [show nI 0 = 0 from rfl, show swo x (itr eJ x r i) own 0 = own from rfl, show swp eJ x (itr eJ x r i) 0 = itr eJ x r i from rfl] at inn
    rw [inn, fm_X11_hangs_b21]
    by_cases e : own = swo x (itr eJ x r i) own 31
    · have st := swo_still hI e.symm 31 (by decide)
      have oe := own_thr hI e.symm
      rw [if_pos e, ← e, ← itr_end (fun t ht => eJ_lo ht) hr st, ← oe]
    · rw [if_neg e]
      have lt := sub_ne (a := own) (b := swo x (itr eJ x r i) own 31) (by have := swo_le (x := x) (kn := itr eJ x r i) (own := own) (a := 0) 31; rwa [Nat.zero_add] at this) hI.1 I2.1 (fun q => e q.symm)
      exact ih n (i + 1) (swo x (itr eJ x r i) own 31) (by omega) (by omega) I2
theorem hangs_ok {x : Int32} {t : Nat} (ht : t < 31) (hx : bt x t = true) (H : qx_H) : fm_X11_hangs x (nI t) H = some (thr x (clo eJ x (eJ t))) := by
  unfold fm_X11_hangs
  rw [both_eq t ht]
  have k1 := kL_lt t ht
  have k2 := kR_lt t ht
  have nz : ¬ (0 : Int32) = ji_shl 1 (nI t) := fun q => by
    have : bt (ji_shl 1 (nI t)) t = true := (bt_shl1' (by omega) (by omega)).mpr rfl
    rw [← q, b_0] at this
    cases this
  show fm_X11_hangs_b21 (4999 + 1) x (ji_shl 1 (nI t)) (fm_X0_endsOf (nI t)) 0 H = _
  rw [fm_X11_hangs_b21, if_neg nz]
  refine hangs_out (r := eJ t) (eJ_lo ht) H 31 4999 0 (ji_shl 1 (nI t)) (by omega) (by omega) ⟨fun i hi h => ?_, fun u hu q => ?_⟩
  · rw [bt_shl1 (by omega) hi]; simp; omega
  · rw [bt_shl1' (by omega) (by omega)] at q
    subst q
    refine ⟨hx, ?_, ?_⟩
    · show bt (fm_X0_endsOf (nI u)) (kL u) = true
      rw [bt_ends u ht _ (by omega)]; simp [at_]
    · show bt (fm_X0_endsOf (nI u)) (kR u) = true
      rw [bt_ends u ht _ (by omega)]; simp [at_]
/-- the least of a set -/
def lstD (x : Int32) : Nat → Nat
  | 0 => 31
  | n + 1 => if bt x (30 - n) then 30 - n else lstD x n
def lst (x : Int32) : Nat := lstD x 31
theorem lstD_at {x : Int32} {t : Nat} (ht : t < 31) (h1 : bt x t = true) (h2 : ∀ u, u < t → bt x u = false) : ∀ n, 31 - t ≤ n → n ≤ 31 → lstD x n = t
  | 0, h, _ => absurd h (by omega)
  | n + 1, h, hn => by
    rw [lstD]
    by_cases e : 30 - n = t
    · rw [e, if_pos h1]
    · rw [h2 (30 - n) (by omega), if_neg (by decide)]
      exact lstD_at ht h1 h2 n (by omega) (by omega)
theorem lst_ok {x : Int32} (hx : ¬ x = 0) (hl : lo 31 x) : lst x < 31 ∧ bt x (lst x) = true ∧ ∀ u, u < lst x → bt x u = false := by
  obtain ⟨t, t1, t2, t3⟩ := bit_first hx
  have t31 : t < 31 := by
    rcases Nat.lt_or_ge t 31 with q | q
    · exact q
    · rw [hl t t1 q] at t2; cases t2
  have e : lst x = t := lstD_at t31 t2 t3 31 (by omega) (by decide)
  rw [e]
  exact ⟨t31, t2, t3⟩
def hol (x : Int32) : Int32 := thr x (clo eJ x (eJ (lst x)))
theorem hole_c {x : Int32} (hx : ¬ x = 0) (hl : lo 31 x) (H : qx_H) : fm_X0_firstHole x H = some (hol x) := by
  obtain ⟨t1, t2, t3⟩ := lst_ok hx hl
  unfold fm_X0_firstHole
  rw [firstOf_ok t1 t2 t3, Option.bind_some, if_pos (nI_pos' (by omega)), show fm_X0_endsOf (nI (lst x)) = eJ (lst x) from rfl, spr_ok, Option.bind_some, thr_ok, Option.bind_some]
  rfl
theorem hole_r {x : Int32} (hx : ¬ x = 0) (hl : lo 31 x) (H : qx_H) : ∃ t, fm_X11_least x H = some t ∧ fm_X11_hangs x t H = some (hol x) := by
  obtain ⟨t1, t2, t3⟩ := lst_ok hx hl
  exact ⟨nI (lst x), least_ok t1 t2 t3 H, hangs_ok t1 t2 H⟩
theorem hol_sub {x : Int32} : sub (hol x) x := fun i hi q => by
  rcases Nat.lt_or_ge i 31 with z | z
  · unfold hol at q
    rw [bt_thr z, Bool.and_eq_true] at q
    exact q.1
  · unfold hol at q
    rw [lo_thr _ _ i hi z] at q; cases q
theorem hol_lst {x : Int32} (hx : ¬ x = 0) (hl : lo 31 x) : bt (hol x) (lst x) = true := by
  obtain ⟨t1, t2, t3⟩ := lst_ok hx hl
  unfold hol
  rw [bt_thr t1, t2, Bool.true_and]
  have k1 := kL_lt _ t1
  have := clo_from (J := eJ) (x := x) (r := eJ (lst x)) (kL (lst x)) (by omega) (by unfold eJ; rw [bt_ends _ t1 _ (by omega)]; simp [at_])
  unfold tch
  rw [this]; rfl
/-- one run -/
def one (x : Int32) : Prop := ¬ x = 0 ∧ nOdd x ≤ 2 ∧ hol x = x
theorem hole_r2 {x : Int32} {β : Type} (hx : ¬ x = 0) (hl : lo 31 x) (H : qx_H) (k : Int32 → Option β) : ((fm_X11_least x H).bind fun v14 => (fm_X11_hangs x v14 H).bind k) = k (hol x) := by
  obtain ⟨t, a, b⟩ := hole_r hx hl H
  rw [a, Option.bind_some, b, Option.bind_some]
theorem one_r {x : Int32} (hl : lo 31 x) (H : qx_H) : (one x ∧ fm_X11_isOneRun x H = some 1) ∨ (¬ one x ∧ fm_X11_isOneRun x H = some 0) := by
  unfold fm_X11_isOneRun
  by_cases e0 : x = 0
  · exact Or.inr ⟨fun q => q.1 e0, if_pos e0⟩
  · rw [if_neg e0, oddOnes_ok, Option.bind_some]
    have nle : nOdd x ≤ 20 := cnt_le 20
    by_cases e1 : 2 < nOdd x
    · exact Or.inr ⟨fun q => by have := q.2.1; omega, if_pos (nI_lt (a := 2) e1 (by omega))⟩
    · have n2 : ¬ (2 : Int32) < nI (nOdd x) := nI_nlt (b := nOdd x) (a := 2) (by omega) (by decide)
      rw [if_neg n2, hole_r2 e0 hl]
      by_cases e2 : hol x = x
      · rw [if_pos e2]; exact Or.inl ⟨⟨e0, by omega, e2⟩, rfl⟩
      · rw [if_neg e2]; exact Or.inr ⟨fun q => e2 q.2.2, rfl⟩
theorem one_by {x : Int32} (hl : lo 31 x) (H : qx_H) : (one x ∧ fm_X4_isOneRunBy x (oddE x 31) H = some 1) ∨ (¬ one x ∧ fm_X4_isOneRunBy x (oddE x 31) H = some 0) := by
  unfold fm_X4_isOneRunBy
  rw [bitCount_eq, odd_bits]
  have nle : nOdd x ≤ 20 := cnt_le 20
  have ev := nOdd_even x
  by_cases e0 : x = 0
  · exact Or.inr ⟨fun q => q.1 e0, if_pos e0⟩
  · rw [if_neg e0]
    have fin : (hol x = x ∧ fm_X4_isOneRunBy_b18 x H = some 1) ∨ (¬ hol x = x ∧ fm_X4_isOneRunBy_b18 x H = some 0) := by
      unfold fm_X4_isOneRunBy_b18
      rw [hole_c e0 hl, Option.bind_some]
      by_cases e2 : hol x = x
      · exact Or.inl ⟨e2, if_pos e2⟩
      · exact Or.inr ⟨e2, if_neg e2⟩
    by_cases e1 : nOdd x = 0
    · rw [e1, if_pos (show nI 0 = 0 from rfl)]
      rcases fin with ⟨a, b⟩ | ⟨a, b⟩
      · exact Or.inl ⟨⟨e0, by omega, a⟩, b⟩
      · exact Or.inr ⟨fun q => a q.2.2, b⟩
    · rw [if_neg (nI_ne0 (by omega) (by omega))]
      by_cases e2 : nOdd x = 2
      · rw [e2, if_pos (show nI 2 = 2 from rfl)]
        rcases fin with ⟨a, b⟩ | ⟨a, b⟩
        · exact Or.inl ⟨⟨e0, by omega, a⟩, b⟩
        · exact Or.inr ⟨fun q => a q.2.2, b⟩
      · have n2 : ¬ nI (nOdd x) = 2 := fun q => e2 ((nI_eq (b := 2) (by omega) (by decide)).mp q)
        rw [if_neg n2]
        exact Or.inr ⟨fun q => by have := q.2.1; omega, rfl⟩
theorem one_c {x : Int32} (hl : lo 31 x) (H : qx_H) : (one x ∧ fm_X4_isOneRun x H = some 1) ∨ (¬ one x ∧ fm_X4_isOneRun x H = some 0) := by
  unfold fm_X4_isOneRun
  rw [odd_ok, Option.bind_some]
  rcases one_by hl H with ⟨a, b⟩ | ⟨a, b⟩ <;> rw [b, Option.bind_some]
  · exact Or.inl ⟨a, rfl⟩
  · exact Or.inr ⟨a, rfl⟩
theorem lo_gone (s : Nat → Int32) : lo 31 (goneS s) := lo_enc (by decide)
theorem p_odd {m : xM2} (h : Rel m) (a : Int32) : pr m (fm_X10_odd 0 a) (fm_X11_odd 89 a) := by
  have g9 := h.1.g9
  have l := lo_gone (m.1 90)
  rcases inC a (lo := 0) (hi := 1) 0 1 with ⟨w, -, hw, rfl, ea⟩ | ea
  · have : w = 0 ∨ w = 1 := by omega
    rcases this with rfl | rfl
    · refine h.val (v := nI (nOdd (goneS (m.1 90)))) ?_ ?_
      · unfold fm_X10_odd
        rw [if_pos (show nI 0 = 0 from rfl), gR_0_0, Option.bind_some, gR_1_0, Option.bind_some, gI_2_9, Option.bind_some, g9, odd_ok, Option.bind_some, bitCount_eq, odd_bits]
      · unfold fm_X11_odd
        rw [ea, if_neg one_ne, if_pos (show nI 0 = 0 from rfl), if_pos (his_89 m), gone_ok, Option.bind_some, oddOnes_ok, Option.bind_some]
    · rcases one_c l (mk m) with ⟨o, c⟩ | ⟨o, c⟩ <;> rcases one_r l (mk m) with ⟨o', r⟩ | ⟨o', r⟩
      · refine h.val (v := 1) ?_ ?_
        · unfold fm_X10_odd
          rw [if_neg (show ¬ nI 1 = 0 by decide), if_pos (show nI 1 = 1 from rfl), gR_0_0, Option.bind_some, gR_1_0, Option.bind_some, gI_2_9, Option.bind_some, g9, c, Option.bind_some, if_neg one_ne]
        · unfold fm_X11_odd
          rw [ea, if_neg one_ne, if_neg (show ¬ nI 1 = 0 by decide), if_pos (his_89 m), gone_ok, Option.bind_some, r, Option.bind_some, if_neg one_ne]
      · exact absurd o o'
      · exact absurd o' o
      · refine h.val (v := 0) ?_ ?_
        · unfold fm_X10_odd
          rw [if_neg (show ¬ nI 1 = 0 by decide), if_pos (show nI 1 = 1 from rfl), gR_0_0, Option.bind_some, gR_1_0, Option.bind_some, gI_2_9, Option.bind_some, g9, c, Option.bind_some, if_pos rfl]
        · unfold fm_X11_odd
          rw [ea, if_neg one_ne, if_neg (show ¬ nI 1 = 0 by decide), if_pos (his_89 m), gone_ok, Option.bind_some, r, Option.bind_some, if_pos rfl]
  · have n0 : ¬ a = 0 := in0_ne (l := 0) (n := 1) (k := 0) ea (by decide)
    have n1 : ¬ a = 1 := in0_ne (l := 0) (n := 1) (k := 1) ea (by decide)
    refine h.e1 ?_ fun m' e => ?_ <;> simp only [fm_X10_odd, fm_X11_odd, below2, below3, below4, below5, below6, below7, below20, below31, below70, within_in, fm_X11_isKnot, fm_X11_isThread, fm_X11_isHand, fm_X11_isSheet, his_0, his_89, Option.bind_some, ob2_some, if_true, if_false, reduceIte, ob2_eta, one_ne, ea, n0, n1]
