/-! THE GREATEST OPENING -/
def mJ (t : Nat) : Int32 := fm_X0_meshesBeside (nI t)
theorem mJ_lo0 : ∀ t, t < 31 → ∀ i, i < 32 → 12 ≤ i → bt (mJ t) i = false := by decide +kernel
theorem mJ_lo {t : Nat} (ht : t < 31) : lo 31 (mJ t) := fun i hi h => mJ_lo0 t ht i hi (by omega)
theorem spm_ok {x r : Int32} (H : qx_H) : fm_X0_spread x r 1 H = some (clo mJ x r) := spread_ok (J := mJ) (fun t _ => if_neg (by decide)) H
theorem mesh_eq : ∀ t, t < 31 → fm_X11_meshes (nI t) = mJ t ∨ (fm_X11_meshes (nI t) = 0 ∧ ∃ b, b < 12 ∧ mJ t = ji_shl 1 (nI b)) := by decide +kernel
theorem or_0 (y : Int32) : y ||| 0 = y := b_ext fun i _ => by rw [b_or, b_0, Bool.or_false]
theorem mesh_step {t : Nat} (ht : t < 31) (r : Int32) : (r ||| (if fm_X11_meshes (nI t) &&& r = 0 then 0 else fm_X11_meshes (nI t))) = r ||| (if r &&& mJ t = 0 then 0 else mJ t) := by
  rcases mesh_eq t ht with e | ⟨e, b, hb, eb⟩
  · rw [e, and_com]
  · rw [e]
    have z : (0 : Int32) &&& r = 0 := b_ext fun i _ => by rw [b_and, b_0]; rfl
    rw [if_pos z, or_0]
    by_cases q : r &&& mJ t = 0
    · rw [if_pos q, or_0]
    · rw [if_neg q, eb]
      apply b_ext
      intro i hi
      rw [b_or, bt_shl1 (by omega) hi]
      by_cases e2 : i = b
      · subst e2
        obtain ⟨k, k1, k2⟩ := ne0_iff.mp q
        rw [b_and, eb, Bool.and_eq_true, bt_shl1' (by omega) k1] at k2
        rw [← k2.2, k2.1]; rfl
      · simp [e2]
theorem bits_ok {x : Int32} (H : qx_H) : fm_X11_bitsOf x H = some (nI (cnt (bt x) 31)) := by
  have key : ∀ (j i n : Nat), i + j = 31 → j < n → fm_X11_bitsOf_b4 n x (nI (cnt (bt x) i)) (nI i) H = some (nI (cnt (bt x) 31)) := by
    intro j
    induction j with
    | zero =>
      intro i n hi hn
      obtain ⟨n, rfl⟩ : ∃ n', n = n' + 1 := ⟨n - 1, by omega⟩
      have : i = 31 := by omega
      subst this
      rw [fm_X11_bitsOf_b4, if_pos le31]
    | succ j ih =>
      intro i n hi hn
      obtain ⟨n, rfl⟩ : ∃ n', n = n' + 1 := ⟨n - 1, by omega⟩
      have := ih (i + 1) n (by omega) (by omega)
      rw [cnt] at this
      rw [fm_X11_bitsOf_b4, if_neg (n31 (by omega)), bt_in (by omega), nI_1]
      cases e : bt x i
      · rw [e] at this
        simpa [nI_add] using this
      · rw [e] at this
        simpa [nI_1] using this
  exact key 31 0 5000 (by omega) (by omega)
theorem open_in {x r l2 l3 l5 : Int32} {k9 : Int32 → Int32 → Int32 → qx_H → Option Int32} {k23 : Int32 → Int32 → Int32 → Int32 → Int32 → qx_H → Option Int32} (H : qx_H) : ∀ (j i n : Nat), i + j = 31 → j < n → fm_X11_open_b37 k9 k23 n x l2 l3 (swp mJ x r i) l5 (nI i) H = k23 x l2 l3 (swp mJ x r 31) l5 H := by
  intro j
  induction j with
  | zero =>
    intro i n hi hn
    obtain ⟨n, rfl⟩ : ∃ n', n = n' + 1 := ⟨n - 1, by omega⟩
    have : i = 31 := by omega
    subst this
    rw [fm_X11_open_b37, if_pos le31]
  | succ j ih =>
    intro i n hi hn
    obtain ⟨n, rfl⟩ : ∃ n', n = n' + 1 := ⟨n - 1, by omega⟩
    have := ih (i + 1) n (by omega) (by omega)
    rw [swp] at this
    rw [fm_X11_open_b37, if_neg (n31 (by omega)), isIn_eq (by omega)]
    cases e : bt x i
    · rw [if_pos (by decide), fm_X11_open_b62, nI_1]
      have z : (0 : Int32) &&& swp mJ x r i = 0 := b_ext fun i _ => by rw [b_and, b_0]; rfl
      rw [if_pos z, or_0]
      rw [e, if_neg (by decide)] at this
      exact this
    · rw [if_neg (by decide), fm_X11_open_b62, nI_1, mesh_step (by omega)]
      rw [e, if_pos rfl] at this
      exact this
theorem open_out {x r l2 l3 : Int32} {k9 : Int32 → Int32 → Int32 → qx_H → Option Int32} (hr : lo 31 r) (H : qx_H) : ∀ (d n i : Nat), 31 ≤ cnt (bt (itr mJ x r i)) 31 + d → d + 1 < n → fm_X11_open_b37 k9 (fm_X11_open_b23 k9 n) 5000 x l2 l3 (itr mJ x r i) (itr mJ x r i) 0 H = k9 x (if nI (cnt (bt (clo mJ x r)) 31) ≤ l2 then l2 else nI (cnt (bt (clo mJ x r)) 31)) (l3 + 1) H := by
  have fin : ∀ n i, itr mJ x r (i + 1) = itr mJ x r i → fm_X11_open_b37 k9 (fm_X11_open_b23 k9 (n + 1)) 5000 x l2 l3 (itr mJ x r i) (itr mJ x r i) 0 H = k9 x (if nI (cnt (bt (clo mJ x r)) 31) ≤ l2 then l2 else nI (cnt (bt (clo mJ x r)) 31)) (l3 + 1) H := by
    intro n i st
    have inn := open_in (x := x) (r := itr mJ x r i) (l2 := l2) (l3 := l3) (l5 := itr mJ x r i) (k9 := k9) (k23 := fm_X11_open_b23 k9 (n + 1)) H 31 0 5000 (by omega) (by omega)
    rw [show nI 0 = 0 from rfl, show swp mJ x (itr mJ x r i) 0 = itr mJ x r i from rfl] at inn
    have e : swp mJ x (itr mJ x r i) 31 = itr mJ x r i := st
    have ec := itr_end (fun t ht => mJ_lo ht) hr st
    rw [inn, e, fm_X11_open_b23, if_pos rfl, bits_ok, Option.bind_some, ec, Option.bind_some]
    split <;> rfl
  intro d
  induction d with
  | zero =>
    intro n i hd hn
    obtain ⟨n, rfl⟩ : ∃ n', n = n' + 1 := ⟨n - 1, by omega⟩
    have full := cnt_full 31 (show 31 ≤ cnt (bt (itr mJ x r i)) 31 by omega)
    refine fin n i ((sub.as (itr_up i) fun k hk w => ?_).symm)
    rcases Nat.lt_or_ge k 31 with z | z
    · exact full k z
    · rw [itr_lo (fun t ht => mJ_lo ht) hr (i + 1) k hk z] at w; cases w
  | succ d ih =>
    intro n i hd hn
    obtain ⟨n, rfl⟩ : ∃ n', n = n' + 1 := ⟨n - 1, by omega⟩
    by_cases e : itr mJ x r (i + 1) = itr mJ x r i
    · exact fin n i e
    · have inn := open_in (x := x) (r := itr mJ x r i) (l2 := l2) (l3 := l3) (l5 := itr mJ x r i) (k9 := k9) (k23 := fm_X11_open_b23 k9 (n + 1)) H 31 0 5000 (by omega) (by omega)
      rw [show nI 0 = 0 from rfl, show swp mJ x (itr mJ x r i) 0 = itr mJ x r i from rfl] at inn
      have ne : ¬ itr mJ x r i = swp mJ x (itr mJ x r i) 31 := fun q => e q.symm
      have lt := sub_ne (itr_up (J := mJ) (x := x) (r := r) i) (itr_lo (fun t ht => mJ_lo ht) hr i) (itr_lo (fun t ht => mJ_lo ht) hr (i + 1)) e
      rw [inn, fm_X11_open_b23, if_neg ne]
      exact ih n (i + 1) (by omega) (by omega)
theorem shl_lo {b : Nat} (hb : b < 31) : lo 31 (ji_shl 1 (nI b)) := fun i hi h => by rw [bt_shl1 (by omega) hi]; simp; omega
theorem cnt_pos {p : Nat → Bool} {i : Nat} (h : p i = true) : ∀ n, i < n → 1 ≤ cnt p n
  | 0, q => absurd q (by omega)
  | n + 1, q => by
    rw [cnt]
    by_cases e : i = n
    · rw [← e, h]; simp
    · have := cnt_pos h n (by omega)
      omega
/-- meshes one by one -/
def mxO (x : Int32) : Nat → Nat
  | 0 => 1
  | n + 1 => max (mxO x n) (cnt (bt (clo mJ x (ji_shl 1 (nI n)))) 31)
theorem mxO_le (x : Int32) : ∀ n, 1 ≤ mxO x n ∧ mxO x n ≤ 31
  | 0 => ⟨Nat.le_refl 1, by show 1 ≤ 31; decide⟩
  | n + 1 => by
    have := mxO_le x n
    have c := cnt_le (p := bt (clo mJ x (ji_shl 1 (nI n)))) 31
    unfold mxO
    omega
theorem max_nI {a b : Nat} (ha : a < 1000) (hb : b < 1000) : ji_max (nI a) (nI b) = nI (max a b) := by
  unfold ji_max
  by_cases q : a < b
  · rw [if_pos (nI_lt q (by omega)), Nat.max_eq_right (by omega)]
  · rw [if_neg (nI_nlt (by omega) (by omega)), Nat.max_eq_left (by omega)]
theorem open_c {x : Int32} (H : qx_H) : fm_X0_greatestOpening x H = some (nI (mxO x 12)) := by
  have key : ∀ (j i n : Nat), i + j = 12 → j < n → fm_X0_greatestOpening_b4 n x (nI (mxO x i)) (nI i) H = some (nI (mxO x 12)) := by
    intro j
    induction j with
    | zero =>
      intro i n hi hn
      obtain ⟨n, rfl⟩ : ∃ n', n = n' + 1 := ⟨n - 1, by omega⟩
      have : i = 12 := by omega
      subst this
      rw [fm_X0_greatestOpening_b4, if_pos le12]
    | succ j ih =>
      intro i n hi hn
      obtain ⟨n, rfl⟩ : ∃ n', n = n' + 1 := ⟨n - 1, by omega⟩
      have := ih (i + 1) n (by omega) (by omega)
      have c := cnt_le (p := bt (clo mJ x (ji_shl 1 (nI i)))) 31
      have m := mxO_le x i
      have l : lo 31 (clo mJ x (ji_shl 1 (nI i))) := itr_lo (fun t ht => mJ_lo ht) (shl_lo (by omega)) 31
      rw [fm_X0_greatestOpening_b4, if_neg (n12 (by omega)), spm_ok, Option.bind_some, bitCount_lo l, max_nI (by omega) (by omega), nI_1]
      exact this
  exact key 12 0 5000 (by omega) (by omega)
theorem open_r {x : Int32} (H : qx_H) : fm_X11_open_b9 5000 x 0 0 H = some (nI (mxO x 12)) := by
  have stp : ∀ (n i : Nat) (a : Int32), i < 12 → fm_X11_open_b9 (n + 1) x a (nI i) H = fm_X11_open_b9 n x (if nI (cnt (bt (clo mJ x (ji_shl 1 (nI i)))) 31) ≤ a then a else nI (cnt (bt (clo mJ x (ji_shl 1 (nI i)))) 31)) (nI (i + 1)) H := by
    intro n i a hi
    have nz : ¬ (0 : Int32) = ji_shl 1 (nI i) := fun q => by
      have : bt (ji_shl 1 (nI i)) i = true := (bt_shl1' (by omega) (by omega)).mpr rfl
      rw [← q, b_0] at this
      cases this
    rw [fm_X11_open_b9, if_neg (n12 hi)]
    show fm_X11_open_b23 (fm_X11_open_b9 n) (4999 + 1) x a (nI i) (ji_shl 1 (nI i)) 0 H = _
    rw [fm_X11_open_b23, if_neg nz]
    have o := open_out (x := x) (r := ji_shl 1 (nI i)) (l2 := a) (l3 := nI i) (k9 := fm_X11_open_b9 n) (shl_lo (by omega)) H 31 4999 0 (by omega) (by omega)
    rw [nI_1] at o
    exact o
  have key : ∀ (j i n : Nat), i + j = 12 → 1 ≤ i → j < n → fm_X11_open_b9 n x (nI (mxO x i)) (nI i) H = some (nI (mxO x 12)) := by
    intro j
    induction j with
    | zero =>
      intro i n hi h1 hn
      obtain ⟨n, rfl⟩ : ∃ n', n = n' + 1 := ⟨n - 1, by omega⟩
      have : i = 12 := by omega
      subst this
      rw [fm_X11_open_b9, if_pos le12]
    | succ j ih =>
      intro i n hi h1 hn
      obtain ⟨n, rfl⟩ : ∃ n', n = n' + 1 := ⟨n - 1, by omega⟩
      have := ih (i + 1) n (by omega) (by omega) (by omega)
      have c := cnt_le (p := bt (clo mJ x (ji_shl 1 (nI i)))) 31
      have m := mxO_le x i
      rw [stp n i _ (by omega)]
      have e : (if nI (cnt (bt (clo mJ x (ji_shl 1 (nI i)))) 31) ≤ nI (mxO x i) then nI (mxO x i) else nI (cnt (bt (clo mJ x (ji_shl 1 (nI i)))) 31)) = nI (mxO x (i + 1)) := by
        rw [mxO]
        by_cases q : cnt (bt (clo mJ x (ji_shl 1 (nI i)))) 31 ≤ mxO x i
        · rw [if_pos (nI_le q (by omega)), Nat.max_eq_left q]
        · rw [if_neg (nI_ge (by omega) (by omega)), Nat.max_eq_right (by omega)]
      rw [e]
      exact this
  have c := cnt_le (p := bt (clo mJ x (ji_shl 1 (nI 0)))) 31
  have c1 : 1 ≤ cnt (bt (clo mJ x (ji_shl 1 (nI 0)))) 31 := cnt_pos (i := 0) (clo_from 0 (by decide) ((bt_shl1' (by decide) (by decide)).mpr rfl)) 31 (by decide)
  have s0 := stp 4999 0 0 (by decide)
  have e : (if nI (cnt (bt (clo mJ x (ji_shl 1 (nI 0)))) 31) ≤ 0 then 0 else nI (cnt (bt (clo mJ x (ji_shl 1 (nI 0)))) 31)) = nI (mxO x 1) := by
    rw [if_neg (nI_nle (by omega) (by omega)), mxO, mxO, Nat.max_eq_right c1]
  rw [e] at s0
  exact s0.trans (key 11 1 4999 (by omega) (by omega) (by omega))
theorem p_open {m : xM2} (h : Rel m) : ∃ v, fm_X10_open 0 (mk m) = some v ∧ fm_X11_open 89 (mk m) = some v := by
  refine ⟨nI (mxO (goneS (m.1 90)) 12), ?_, ?_⟩
  · unfold fm_X10_open
    rw [gR_0_0, Option.bind_some, gR_1_0, Option.bind_some, gI_2_9, Option.bind_some, h.1.g9, open_c, Option.bind_some]
  · unfold fm_X11_open
    rw [if_pos (his_89 m), gone_ok, Option.bind_some]
    exact open_r (mk m)
