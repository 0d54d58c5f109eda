/-! THE WAY: BOTH SIDES -/
theorem sub_m1 {a : Int32} : ¬ (a = -1) → True := fun _ => trivial
theorem goesOn_ok {F : Int32} {k : Nat} (hl : lo 31 F) (hk : k < 20) (H : qx_H) : (goV F k ∧ fm_X11_goesOn F (nI k) H = some 1) ∨ (¬ goV F k ∧ fm_X11_goesOn F (nI k) H = some 0) := by
  unfold fm_X11_goesOn
  by_cases e0 : F = 0
  · exact Or.inl ⟨Or.inl e0, if_pos e0⟩
  · have nle : nOdd F ≤ 20 := cnt_le 20
    have dle : deg F k ≤ 31 := cnt_le 31
    have ci := con_iff e0 hl hk
    have gv : goV F k ↔ conF F k ∧ (nOdd F = 0 ∨ (nOdd F = 2 ∧ pod F k = true)) := ⟨fun q => q.resolve_left e0, Or.inr⟩
    have fin : (hol F = F ∧ fm_X11_goesOn_b52 F 1 H = some 1) ∨ (¬ hol F = F ∧ fm_X11_goesOn_b52 F 1 H = some 0) := by
      rw [fm_X11_goesOn_b52, if_neg one_ne, hole_r2 e0 hl]
      by_cases e2 : hol F = F
      · exact Or.inl ⟨e2, if_pos e2⟩
      · exact Or.inr ⟨e2, if_neg e2⟩
    have f0 : fm_X11_goesOn_b52 F 0 H = some 0 := by rw [fm_X11_goesOn_b52, if_pos rfl]
    rw [if_neg e0, oddOnes_ok, Option.bind_some]
    by_cases n0 : nOdd F = 0
    · rw [n0, if_pos (show nI 0 = 0 from rfl), endsAt_ok hk, Option.bind_some]
      by_cases d0 : deg F k = 0
      · rw [d0, if_pos (show nI 0 ≤ 0 by decide), f0]
        refine Or.inr ⟨fun q => ?_, rfl⟩
        have := (ci.mpr (gv.mp q).1).2
        omega
      · rw [if_neg (nI_nle (by omega) (by omega))]
        rcases fin with ⟨a, b⟩ | ⟨a, b⟩
        · exact Or.inl ⟨gv.mpr ⟨ci.mp ⟨a, by omega⟩, Or.inl n0⟩, b⟩
        · exact Or.inr ⟨fun q => a (ci.mpr (gv.mp q).1).1, b⟩
    · rw [if_neg (nI_ne0 (by omega) (by omega))]
      by_cases n2 : nOdd F = 2
      · rw [n2, if_pos (show nI 2 = 2 from rfl), endsAt_ok hk, Option.bind_some, show ji_rem (nI (deg F k)) 2 = nI (deg F k % 2) from pk_rem (d := 2) (by omega) (by decide) (by decide)]
        by_cases d0 : deg F k % 2 = 1
        · rw [d0, if_pos (show nI 1 = 1 from rfl)]
          rcases fin with ⟨a, b⟩ | ⟨a, b⟩
          · exact Or.inl ⟨gv.mpr ⟨ci.mp ⟨a, by omega⟩, Or.inr ⟨n2, decide_eq_true d0⟩⟩, b⟩
          · exact Or.inr ⟨fun q => a (ci.mpr (gv.mp q).1).1, b⟩
        · have e : deg F k % 2 = 0 := by omega
          rw [e, if_neg (show ¬ nI 0 = 1 by decide), f0]
          refine Or.inr ⟨fun q => ?_, rfl⟩
          rcases (gv.mp q).2 with z | ⟨-, z⟩
          · omega
          · exact d0 (of_decide_eq_true z)
      · have ne2 : ¬ nI (nOdd F) = 2 := fun q => n2 ((nI_eq (b := 2) (by omega) (by decide)).mp q)
        rw [if_neg ne2, fm_X11_goesOn_b51, f0]
        refine Or.inr ⟨fun q => ?_, rfl⟩
        rcases (gv.mp q).2 with z | ⟨z, -⟩
        · exact n0 z
        · exact n2 z
theorem con_thr {G : Int32} {k : Nat} (hl : lo 31 G) : thr G (clo eJ G (kb k)) = G ↔ conF G k := by
  constructor
  · intro e t ht hx
    have : bt (thr G (clo eJ G (kb k))) t = true := by rw [e]; exact hx
    rw [bt_thr ht, Bool.and_eq_true] at this
    exact this.2
  · intro c
    refine lo_ext (n := 31) (lo_thr _ _) hl fun t ht _ => ?_
    rw [bt_thr ht]
    cases w : bt G t
    · rfl
    · rw [c t ht w]; rfl
def okW (F : Int32) (v w : Nat) : Prop := ∃ t, t < 31 ∧ fm_X11_between (nI v) (nI w) = nI t ∧ bt F t = true ∧ conF (sbt F t) w
theorem next_c {F : Int32} {v w : Nat} (hl : lo 31 F) (hv : v < 20) (hw : w < 20) (h1 : okW F v w) (h2 : ∀ u, u < w → ¬ okW F v u) (H : qx_H) : fm_X4_nextKnot F (nI v) H = some (nI w) := by
  have key : ∀ (j i n : Nat), i + j = w → j < n → fm_X4_nextKnot_b2 n F (nI v) (nI i) H = some (nI w) := by
    intro j
    induction j with
    | zero =>
      intro i n hi hn
      obtain ⟨n, rfl⟩ : ∃ n', n = n' + 1 := ⟨n - 1, by omega⟩
      have : i = w := by omega
      subst this
      obtain ⟨t, ht, b, hx, c⟩ := h1
      have cc := (con_thr (sbt_lo hl ht)).mpr c
      rw [fm_X4_nextKnot_b2, if_neg (n20 hw), bw_eq v hv i hw, b, if_neg (nI_pos (by omega)), if_neg (fun q => by rw [bt_in0 (by omega), hx] at q; cases q)]
      show ((fm_X0_spread (sbt F t) (kb i) 0 H).bind fun v43 => (fm_X0_threadsAt (sbt F t) v43 H).bind fun v46 => if v46 = sbt F t then some (nI i) else _) = _
      rw [spr_ok, Option.bind_some, thr_ok, Option.bind_some, if_pos cc]
    | succ j ih =>
      intro i n hi hn
      obtain ⟨n, rfl⟩ : ∃ n', n = n' + 1 := ⟨n - 1, by omega⟩
      have nx := ih (i + 1) n (by omega) (by omega)
      have i20 : i < 20 := by omega
      rw [fm_X4_nextKnot_b2, if_neg (n20 i20), bw_eq v hv i i20]
      rcases bw_rng v hv i i20 with b | ⟨t, ht, b⟩
      · rw [b, if_pos (by decide), fm_X4_nextKnot_b56, nI_1]; exact nx
      · rw [b, if_neg (nI_pos (by omega))]
        cases hx : bt F t
        · rw [if_pos ((bt_in0 (by omega) F).mpr hx), fm_X4_nextKnot_b56, nI_1]; exact nx
        · have nc : ¬ thr (sbt F t) (clo eJ (sbt F t) (kb i)) = sbt F t := fun q => h2 i (by omega) ⟨t, ht, b, hx, (con_thr (sbt_lo hl ht)).mp q⟩
          rw [if_neg (fun q => by rw [bt_in0 (by omega), hx] at q; cases q)]
          show ((fm_X0_spread (sbt F t) (kb i) 0 H).bind fun v43 => (fm_X0_threadsAt (sbt F t) v43 H).bind fun v46 => if v46 = sbt F t then some (nI i) else _) = _
          rw [spr_ok, Option.bind_some, thr_ok, Option.bind_some, if_neg nc, fm_X4_nextKnot_b56, nI_1]
          exact nx
  exact key w 0 5000 (by omega) (by omega)
theorem ok_go {F : Int32} {v w t : Nat} (hl : lo 31 F) (hv : v < 20) (hw : w < 20) (hg : goV F v) (ht : t < 31) (b : fm_X11_between (nI v) (nI w) = nI t) (hx : bt F t = true) : conF (sbt F t) w ↔ goV (sbt F t) w := by
  obtain ⟨ha, e⟩ := bw_oth v hv w hw t ht b
  subst e
  exact go_step hl hv hg ht hx ha
theorem next_r {F : Int32} {v w : Nat} {a st : Int32} {k47 : Nat → Int32 → Int32 → Int32 → Int32 → qx_H → Option (Int32 × qx_H)} (hl : lo 31 F) (hv : v < 20) (hg : goV F v) (hw : w < 20) (h1 : okW F v w) (h2 : ∀ u, u < w → ¬ okW F v u) (H : qx_H) : fm_X11_way_b59 k47 5000 89 a F (nI v) st (-1) 0 H = k47 89 a (F &&& ((ji_shl 1 (fm_X11_between (nI v) (nI w))) ^^^ (-1))) (nI w) (st + 1) H := by
  have key : ∀ (j i n : Nat), i + j = w → j + 1 < n → fm_X11_way_b59 k47 n 89 a F (nI v) st (-1) (nI i) H = k47 89 a (F &&& ((ji_shl 1 (fm_X11_between (nI v) (nI w))) ^^^ (-1))) (nI w) (st + 1) H := by
    intro j
    induction j with
    | zero =>
      intro i n hi hn
      obtain ⟨n, rfl⟩ : ∃ n', n = n' + 1 := ⟨n - 1, by omega⟩
      obtain ⟨n, rfl⟩ : ∃ n', n = n' + 1 := ⟨n - 1, by omega⟩
      have : i = w := by omega
      subst this
      obtain ⟨t, ht, b, hx, c⟩ := h1
      have gg := (ok_go hl hv hw hg ht b hx).mp c
      have g1 : fm_X11_goesOn (F &&& (ji_shl 1 (nI t) ^^^ (-1))) (nI i) H = some 1 := by
        rcases goesOn_ok (sbt_lo hl ht) hw H with ⟨_, q⟩ | ⟨q, _⟩
        · exact q
        · exact absurd gg q
      have fin : fm_X11_way_b125 k47 89 a F (nI v) st (nI i) H = k47 89 a (F &&& ((ji_shl 1 (fm_X11_between (nI v) (nI i))) ^^^ (-1))) (nI i) (st + 1) H := by
        rw [fm_X11_way_b125, if_neg (ne_m1 (by omega))]
      rw [fm_X11_way_b59, if_neg (n20 hw), if_pos rfl, b, if_neg (ne_m1 (by omega)), isIn_eq (by omega), hx, if_neg (by decide), g1, Option.bind_some, if_neg one_ne, nI_1, fm_X11_way_b59, if_neg (ne_m1 (by omega)), fin, b]
      split <;> rfl
    | succ j ih =>
      intro i n hi hn
      obtain ⟨n, rfl⟩ : ∃ n', n = n' + 1 := ⟨n - 1, by omega⟩
      have nx := ih (i + 1) n (by omega) (by omega)
      have i20 : i < 20 := by omega
      rw [fm_X11_way_b59, if_neg (n20 i20), if_pos rfl]
      rcases bw_rng v hv i i20 with b | ⟨t, ht, b⟩
      · rw [b, if_pos rfl, fm_X11_way_b116, fm_X11_way_b117, nI_1]; exact nx
      · rw [b, if_neg (ne_m1 (by omega)), isIn_eq (by omega)]
        cases hx : bt F t
        · rw [if_pos (by decide), fm_X11_way_b116, fm_X11_way_b117, nI_1]; exact nx
        · have ng : ¬ goV (sbt F t) i := fun q => h2 i (by omega) ⟨t, ht, b, hx, (ok_go hl hv i20 hg ht b hx).mpr q⟩
          have g0 : fm_X11_goesOn (F &&& (ji_shl 1 (nI t) ^^^ (-1))) (nI i) H = some 0 := by
            rcases goesOn_ok (sbt_lo hl ht) i20 H with ⟨q, _⟩ | ⟨_, q⟩
            · exact absurd q ng
            · exact q
          rw [if_neg (by decide), g0, Option.bind_some, if_pos rfl, nI_1]; exact nx
  exact key w 0 5000 (by omega) (by omega)
theorem ok_least {F : Int32} {v : Nat} (hl : lo 31 F) (hv : v < 20) (h0 : ¬ F = 0) (hg : goV F v) : ∃ w, w < 20 ∧ okW F v w ∧ ∀ u, u < w → ¬ okW F v u := by
  obtain ⟨t, ht, hx, ha, c⟩ := fleury hl hv h0 hg
  obtain ⟨o1, o2, o3, -⟩ := oth_ok t ht v hv ha
  have ex : okW F v (oth v t) := ⟨t, ht, o3, hx, c⟩
  obtain ⟨w, w1, w2⟩ := pk_least (okW F v) ⟨_, ex⟩
  refine ⟨w, ?_, w1, w2⟩
  apply Nat.lt_of_le_of_lt _ o1
  exact Nat.le_of_not_lt fun q => w2 _ q ex
theorem sbt_card {F : Int32} {t : Nat} (ht : t < 31) (hx : bt F t = true) : cnt (bt (sbt F t)) 31 + 1 = cnt (bt F) 31 := by
  have := sbt_cnt ht hx (q := fun _ => true)
  simpa using this
theorem walk {i : Nat} {m : xM2} (hi : i < 2 ^ 31) (H : qx_H) : ∀ (j : Nat) (F : Int32) (v st n n' : Nat), lo 31 F → v < 20 → goV F v → j ≤ cnt (bt F) 31 → st + j = i → j < n → j < n' → ∃ w, fm_X4_wayKnot_b27 n (nI i) (nI v) F (nI st) H = some (nI w) ∧ fm_X11_way_b47 n' 89 (nI i) F (nI v) (nI st) (mk m) = some (nI w, mk m) := by
  intro j
  induction j with
  | zero =>
    intro F v st n n' hl hv hg hj hs hn hn'
    obtain ⟨n, rfl⟩ : ∃ z, n = z + 1 := ⟨n - 1, by omega⟩
    obtain ⟨n', rfl⟩ : ∃ z, n' = z + 1 := ⟨n' - 1, by omega⟩
    rw [Nat.add_zero] at hs
    subst hs
    exact ⟨v, by rw [fm_X4_wayKnot_b27, if_pos (Int32.le_refl _)], by rw [fm_X11_way_b47, if_pos (Int32.le_refl _)]⟩
  | succ j ih =>
    intro F v st n n' hl hv hg hj hs hn hn'
    obtain ⟨n, rfl⟩ : ∃ z, n = z + 1 := ⟨n - 1, by omega⟩
    obtain ⟨n', rfl⟩ : ∃ z, n' = z + 1 := ⟨n' - 1, by omega⟩
    have h0 : ¬ F = 0 := fun q => by
      rw [q, cnt_0 (p := bt 0) 31 fun i _ => b_0 i] at hj
      omega
    obtain ⟨w, w1, w2, w3⟩ := ok_least hl hv h0 hg
    obtain ⟨t, ht, b, hx, c⟩ := id w2
    have gg := (ok_go hl hv w1 hg ht b hx).mp c
    have cd := sbt_card ht hx
    obtain ⟨z, z1, z2⟩ := ih (sbt F t) w (st + 1) n n' (sbt_lo hl ht) w1 gg (by omega) (by omega) (by omega) (by omega)
    have ng : ¬ nI i ≤ nI st := nI_ge (by omega) hi
    refine ⟨z, ?_, ?_⟩
    · rw [fm_X4_wayKnot_b27, if_neg ng, if_neg h0, next_c hl hv w1 w2 w3, Option.bind_some, bw_eq v hv w w1, b, if_pos (nI_pos' (by omega)), nI_1]
      exact z1
    · rw [fm_X11_way_b47, if_neg ng, next_r hl hv hg w1 w2 w3, b, nI_1]
      exact z2
theorem walk_end {i : Nat} {m : xM2} (hi : i < 2 ^ 31) : ∀ (c : Nat) (F : Int32) (v st n : Nat), lo 31 F → v < 20 → goV F v → cnt (bt F) 31 = c → st + c < i → c < n → fm_X11_way_b47 n 89 (nI i) F (nI v) (nI st) (mk m) = fm_X11_error 89 2 (mk m) := by
  intro c
  induction c with
  | zero =>
    intro F v st n hl hv hg hc hs hn
    obtain ⟨n, rfl⟩ : ∃ z, n = z + 1 := ⟨n - 1, by omega⟩
    have F0 : ∀ t, t < 31 → bt F t = false := fun t ht => by
      cases w : bt F t
      · rfl
      · have := cnt_pos (p := bt F) w 31 ht
        omega
    have key : ∀ (j q f : Nat), q + j = 20 → j < f → fm_X11_way_b59 (fm_X11_way_b47 n) f 89 (nI i) F (nI v) (nI st) (-1) (nI q) (mk m) = fm_X11_error 89 2 (mk m) := by
      intro j
      induction j with
      | zero =>
        intro q f hq hf
        obtain ⟨f, rfl⟩ : ∃ z, f = z + 1 := ⟨f - 1, by omega⟩
        have : q = 20 := by omega
        subst this
        rw [fm_X11_way_b59, if_pos le20, fm_X11_way_b125, if_pos rfl, if_pos (his_89 m), ob2_eta]
      | succ j ih =>
        intro q f hq hf
        obtain ⟨f, rfl⟩ : ∃ z, f = z + 1 := ⟨f - 1, by omega⟩
        have nx := ih (q + 1) f (by omega) (by omega)
        rw [fm_X11_way_b59, if_neg (n20 (by omega)), if_pos rfl]
        rcases bw_rng v hv q (by omega) with b | ⟨t, ht, b⟩
        · rw [b, if_pos rfl, fm_X11_way_b116, fm_X11_way_b117, nI_1]; exact nx
        · rw [b, if_neg (ne_m1 (by omega)), isIn_eq (by omega), F0 t ht, if_pos (by decide), fm_X11_way_b116, fm_X11_way_b117, nI_1]; exact nx
    rw [fm_X11_way_b47, if_neg (nI_ge (by omega) hi)]
    exact key 20 0 5000 (by omega) (by omega)
  | succ c ih =>
    intro F v st n hl hv hg hc hs hn
    obtain ⟨n, rfl⟩ : ∃ z, n = z + 1 := ⟨n - 1, by omega⟩
    have h0 : ¬ F = 0 := fun q => by
      rw [q, cnt_0 (p := bt 0) 31 fun i _ => b_0 i] at hc
      omega
    obtain ⟨w, w1, w2, w3⟩ := ok_least hl hv h0 hg
    obtain ⟨t, ht, b, hx, cn⟩ := id w2
    have gg := (ok_go hl hv w1 hg ht b hx).mp cn
    have cd := sbt_card ht hx
    rw [fm_X11_way_b47, if_neg (nI_ge (by omega) hi), next_r hl hv hg w1 w2 w3, b, nI_1]
    exact ih (sbt F t) w (st + 1) n (sbt_lo hl ht) w1 gg (by omega) (by omega) (by omega)
def knE (x : Int32) : Nat → Int32
  | 0 => 0
  | n + 1 => knE x n ||| (if bt x n then fm_X0_endsOf (nI n) else 0)
theorem bt_knE (x : Int32) {j : Nat} (hj : j < 32) : ∀ n, n ≤ 31 → (bt (knE x n) j = true ↔ ∃ t, t < n ∧ bt x t = true ∧ at_ j t = true)
  | 0, _ => by rw [knE, b_0]; exact ⟨fun q => absurd q (by decide), fun ⟨t, h, _⟩ => absurd h (by omega)⟩
  | n + 1, hn => by
    have ih := bt_knE x hj n (by omega)
    rw [knE, b_or, Bool.or_eq_true, ih]
    constructor
    · rintro (⟨t, h1, h2, h3⟩ | h)
      · exact ⟨t, by omega, h2, h3⟩
      · cases w : bt x n
        · rw [w, if_neg (by decide), b_0] at h; cases h
        · rw [w, if_pos rfl, bt_ends n (by omega) j hj] at h
          exact ⟨n, by omega, w, h⟩
    · rintro ⟨t, h1, h2, h3⟩
      by_cases e : t = n
      · subst e
        right
        rw [h2, if_pos rfl, bt_ends t (by omega) j hj]
        exact h3
      · exact Or.inl ⟨t, by omega, h2, h3⟩
theorem kn_ok {x : Int32} (H : qx_H) : fm_X0_knotsOf x H = some (knE x 31) := by
  have key : ∀ (j i n : Nat), i + j = 31 → j < n → fm_X0_knotsOf_b4 n x (knE x i) (nI i) H = some (knE x 31) := by
    intro j
    induction j with
    | zero =>
      intro i n hi hn
      obtain ⟨n, rfl⟩ : ∃ n', n = n' + 1 := ⟨n - 1, by omega⟩
      have : i = 31 := by omega
      subst this
      rw [fm_X0_knotsOf_b4, if_pos le31]
    | succ j ih =>
      intro i n hi hn
      obtain ⟨n, rfl⟩ : ∃ n', n = n' + 1 := ⟨n - 1, by omega⟩
      have := ih (i + 1) n (by omega) (by omega)
      rw [knE] at this
      rw [fm_X0_knotsOf_b4, if_neg (n31 (by omega))]
      cases e1 : bt x i
      · rw [if_pos ((bt_in0 (by omega) x).mpr e1), fm_X0_knotsOf_b27, nI_1]
        simpa [e1] using this
      · rw [if_neg (fun q => by rw [bt_in0 (by omega), e1] at q; cases q), fm_X0_knotsOf_b27, nI_1]
        simpa [e1] using this
  exact key 31 0 5000 (by omega) (by omega)
theorem way_start {F : Int32} (hl : lo 31 F) (ho : one F) : ∃ v, v < 20 ∧ goV F v ∧ (∀ u, u < v → ¬ goV F u) ∧ ∀ (a : Int32) (H : qx_H), fm_X4_wayKnot F a H = fm_X4_wayKnot_b27 5000 a (nI v) F 0 H := by
  obtain ⟨h0, h2, hh⟩ := ho
  have ev := nOdd_even F
  have oz : oddE F 31 = 0 ↔ nOdd F = 0 := by
    constructor
    · intro q
      rw [← odd_bits, q]
      exact cnt_0 32 fun i _ => b_0 i
    · intro q
      apply b_ext
      intro i hi
      rw [b_0]
      cases w : bt (oddE F 31) i
      · rfl
      · have := cnt_pos (p := bt (oddE F 31)) w 32 hi
        rw [odd_bits] at this
        omega
  have fin : ∀ S : Int32, (∀ k, k < 20 → (bt S k = true ↔ goV F k)) → (∃ k, k < 20 ∧ bt S k = true) → ∃ v, v < 20 ∧ goV F v ∧ (∀ u, u < v → ¬ goV F u) ∧ ∀ (a : Int32) (H : qx_H), fm_X4_wayKnot_b17 F a S H = fm_X4_wayKnot_b27 5000 a (nI v) F 0 H := by
    rintro S hS ⟨k, k1, k2⟩
    obtain ⟨v, v1, v2⟩ := pk_least (fun k => bt S k = true) ⟨k, k2⟩
    have v20 : v < 20 := Nat.lt_of_le_of_lt (Nat.le_of_not_lt fun q => v2 _ q k2) k1
    refine ⟨v, v20, (hS v v20).mp v1, fun u hu q => v2 u hu ((hS u (by omega)).mpr q), fun a H => ?_⟩
    rw [fm_X4_wayKnot_b17, firstOf_ok (by omega) v1 (fun u hu => by
      cases w : bt S u
      · rfl
      · exact absurd w (v2 u hu)), Option.bind_some]
  obtain ⟨t1, t2, -⟩ := lst_ok h0 hl
  by_cases z : nOdd F = 0
  · have wk : ∀ a H, fm_X4_wayKnot F a H = fm_X4_wayKnot_b17 F a (knE F 31) H := fun a H => by
      unfold fm_X4_wayKnot
      rw [odd_ok, Option.bind_some, if_pos (oz.mpr z), kn_ok, Option.bind_some]
    obtain ⟨v, v1, v2, v3, v4⟩ := fin (knE F 31) (fun k hk => by
      rw [bt_knE F (by omega) 31 (by decide), ← deg_pos]
      constructor
      · intro d
        exact Or.inr ⟨(con_iff h0 hl hk).mp ⟨hh, d⟩, Or.inl z⟩
      · intro q
        exact ((con_iff h0 hl hk).mpr (q.resolve_left h0).1).2) ⟨kL (lst F), kL_lt _ t1, (bt_knE F (by have := kL_lt _ t1; omega) 31 (by decide)).mpr ⟨lst F, t1, t2, at_end.mpr (Or.inl rfl)⟩⟩
    exact ⟨v, v1, v2, v3, fun a H => (wk a H).trans (v4 a H)⟩
  · have n2 : nOdd F = 2 := by omega
    have wk : ∀ a H, fm_X4_wayKnot F a H = fm_X4_wayKnot_b17 F a (oddE F 31) H := fun a H => by
      unfold fm_X4_wayKnot
      rw [odd_ok, Option.bind_some, if_neg (fun q => z (oz.mp q))]
    obtain ⟨v, v1, v2, v3, v4⟩ := fin (oddE F 31) (fun k hk => by
      rw [bt_oddE F (by omega) 31 (by decide), decide_eq_true_iff]
      constructor
      · intro d
        have d' : deg F k % 2 = 1 := d
        exact Or.inr ⟨(con_iff h0 hl hk).mp ⟨hh, by omega⟩, Or.inr ⟨n2, decide_eq_true d'⟩⟩
      · intro q
        rcases (q.resolve_left h0).2 with y | ⟨-, y⟩
        · omega
        · exact of_decide_eq_true y) (by
      apply Classical.byContradiction
      intro no
      have : nOdd F = 0 := cnt_0 20 fun k hk => by
        cases w : decide (deg F k % 2 = 1)
        · rfl
        · exact absurd ⟨k, hk, by rw [bt_oddE F (by omega) 31 (by decide)]; exact w⟩ no
      omega)
    exact ⟨v, v1, v2, v3, fun a H => (wk a H).trans (v4 a H)⟩
theorem way_r0 {F a : Int32} {v : Nat} {m : xM2} (hl : lo 31 F) (hv : v < 20) (h1 : goV F v) (h2 : ∀ u, u < v → ¬ goV F u) : fm_X11_way_b30 5000 89 a F 0 (mk m) = fm_X11_way_b47 5000 89 a F (nI v) 0 (mk m) := by
  have key : ∀ (j i n : Nat), i + j = v → j < n → fm_X11_way_b30 n 89 a F (nI i) (mk m) = fm_X11_way_b47 5000 89 a F (nI v) 0 (mk m) := by
    intro j
    induction j with
    | zero =>
      intro i n hi hn
      obtain ⟨n, rfl⟩ : ∃ n', n = n' + 1 := ⟨n - 1, by omega⟩
      have : i = v := by omega
      subst this
      rcases goesOn_ok hl hv (mk m) with ⟨_, q⟩ | ⟨q, _⟩
      · rw [fm_X11_way_b30, q, Option.bind_some, if_neg one_ne]
      · exact absurd h1 q
    | succ j ih =>
      intro i n hi hn
      obtain ⟨n, rfl⟩ : ∃ n', n = n' + 1 := ⟨n - 1, by omega⟩
      rcases goesOn_ok hl (show i < 20 by omega) (mk m) with ⟨q, _⟩ | ⟨_, q⟩
      · exact absurd q (h2 i (by omega))
      · rw [fm_X11_way_b30, q, Option.bind_some, if_pos rfl, nI_1]
        exact ih (i + 1) n (by omega) (by omega)
  exact key v 0 5000 (by omega) (by omega)
theorem p_way {m : xM2} (h : Rel m) (a : Int32) : pr m (fm_X10_way 0 a) (fm_X11_way 89 a) := by
  have g9 := h.1.g9
  have l := lo_gone (m.1 90)
  by_cases ha : 0 ≤ a
  · have notone : ¬ one (goneS (m.1 90)) → pr m (fm_X10_way 0 a) (fm_X11_way 89 a) := fun no => by
      refine h.e3 ?_ fun m' e => ?_
      · rcases one_c l (mk m) with ⟨o, _⟩ | ⟨_, c⟩
        · exact absurd o no
        · unfold fm_X10_way
          rw [if_pos ha, gR_0_0, Option.bind_some, gR_1_0, Option.bind_some, gI_2_9, Option.bind_some, g9, c, Option.bind_some, if_pos rfl, if_pos (his_0 m), ob2_eta]
      · rcases one_r l (mk m') with ⟨o, _⟩ | ⟨_, c⟩
        · exact absurd o no
        · unfold fm_X11_way
          rw [if_pos ha, if_pos (his_89 m'), gone_ok, Option.bind_some, e.at, c, Option.bind_some, if_pos rfl, ob2_eta]
    by_cases o : one (goneS (m.1 90))
    · obtain ⟨i, hi, rfl⟩ := nI_of (Int32.not_lt.mpr ha)
      obtain ⟨v, v1, v2, v3, v4⟩ := way_start l o
      have mt := missT_ok no2 h.1.1
      have c31 := cnt_le (p := gn (m.1 90)) 31
      have card : cnt (bt (goneS (m.1 90))) 31 = cnt (gn (m.1 90)) 31 := cnt_cong fun t ht => bt_gone ht
      have cpre : fm_X10_way 0 (nI i) (mk m) = if nI i ≤ nI (cnt (gn (m.1 90)) 31) then (fm_X4_wayKnot (goneS (m.1 90)) (nI i) (mk m)).bind (fun v66 => some (v66, mk m)) else fm_X10_refuse 0 (-1000000002) (mk m) := by
        rcases one_c l (mk m) with ⟨_, c⟩ | ⟨q, _⟩
        · unfold fm_X10_way
          rw [if_pos ha, gR_0_0, Option.bind_some, gR_1_0, Option.bind_some, gI_2_9, Option.bind_some, g9, c, Option.bind_some, if_neg one_ne, Option.bind_some, gR_1_0, Option.bind_some, if_pos (his_2 m), mt, Option.bind_some, Option.bind_some, gR_1_0, Option.bind_some, gI_2_9, Option.bind_some, g9, if_pos (his_0 m), ob2_eta]
        · exact absurd o q
      have rpre : ∀ mr : xM2, mr.1 90 = m.1 90 → fm_X11_way 89 (nI i) (mk mr) = fm_X11_way_b47 5000 89 (nI i) (goneS (m.1 90)) (nI v) 0 (mk mr) := fun mr hr => by
        rcases one_r l (mk mr) with ⟨_, c⟩ | ⟨q, _⟩
        · unfold fm_X11_way
          rw [if_pos ha, if_pos (his_89 mr), gone_ok, Option.bind_some, hr, c, Option.bind_some, if_neg one_ne, way_r0 l v1 v2 v3]
        · exact absurd o q
      by_cases le : i ≤ cnt (gn (m.1 90)) 31
      · obtain ⟨w, w1, w2⟩ := walk (m := m) hi (mk m) i (goneS (m.1 90)) v 0 5000 5000 l v1 v2 (by rw [card]; exact le) (by omega) (by omega) (by omega)
        rw [show nI 0 = 0 from rfl] at w1 w2
        refine h.val (v := nI w) ?_ ?_
        · rw [cpre, if_pos (nI_le le (by omega)), v4, w1, Option.bind_some]
        · rw [rpre m rfl, w2]
      · refine h.e2 ?_ fun m' e => ?_
        · rw [cpre, if_neg (nI_ge (by omega) hi)]
        · have we := walk_end (m := m') hi (cnt (gn (m.1 90)) 31) (goneS (m.1 90)) v 0 5000 l v1 v2 card (by omega) (by omega)
          rw [show nI 0 = 0 from rfl] at we
          rw [rpre m' e.at, we]
    · exact notone o
  · refine h.e1 ?_ fun m' e => ?_
    · unfold fm_X10_way
      rw [if_neg ha, if_pos (his_0 m), ob2_eta]
    · unfold fm_X11_way
      rw [if_neg ha, if_pos (his_89 m'), ob2_eta]
