/-! CALLS: FEED, KNOTIS -/
def b64 (x : Int64) (i : Nat) : Bool := x.toBitVec.getLsbD i
theorem l_s : ∀ k, k < 8 → (((8 * nI k : Int32).toInt64 &&& 63).toBitVec.smod 64).toNat = 8 * k := by decide +kernel
theorem l_u : ∀ k, k < 8 → (((8 * nI k : Int32).toInt64.toUInt64 &&& Int64.toUInt64 63).toBitVec % 64).toNat = 8 * k := by decide +kernel
theorem b64_shr {k : Nat} (hk : k < 8) (x : Int64) {i : Nat} (hi : i < 8) : b64 (jl_shr x (8 * nI k)) i = b64 x (8 * k + i) := by
  unfold b64 jl_shr
  rw [Int64.toBitVec_shiftRight, BitVec.sshiftRight', l_s k hk, BitVec.getLsbD_sshiftRight]
  have h1 : ¬ 64 ≤ i := by omega
  have h2 : 8 * k + i < 64 := by omega
  simp [h1, h2]
theorem b64_ushr {k : Nat} (hk : k < 8) (x : Int64) (i : Nat) : b64 (jl_ushr x (8 * nI k)) i = b64 x (8 * k + i) := by
  unfold b64 jl_ushr
  show (x.toUInt64 >>> ((8 * nI k : Int32).toInt64.toUInt64 &&& Int64.toUInt64 63)).toBitVec.getLsbD i = _
  rw [UInt64.toBitVec_shiftRight, BitVec.ushiftRight_eq', l_u k hk, BitVec.getLsbD_ushiftRight]
  rfl
theorem b_toI32 (x : Int64) {i : Nat} (hi : i < 32) : bt (Int64.toInt32 x) i = b64 x i := by
  unfold bt b64
  rw [Int64.toBitVec_toInt32, BitVec.getLsbD_signExtend]
  simp [hi, show i < 64 by omega]
theorem b64_and (x y : Int64) (i : Nat) : b64 (x &&& y) i = (b64 x i && b64 y i) := by unfold b64; rw [Int64.toBitVec_and, BitVec.getLsbD_and]
theorem b64_255 : ∀ i, i < 32 → b64 255 i = decide (i < 8) := by decide +kernel
def fdB (w : Int64) (k : Nat) : Int32 := Int64.toInt32 ((jl_shr w (8 * nI k)) &&& 255)
theorem byte_eq {w : Int64} {k : Nat} (hk : k < 8) : (Int64.toInt32 (jl_ushr w (8 * nI k))) &&& 255 = fdB w k := by
  apply b_ext
  intro i hi
  unfold fdB
  rw [b_and, b_255, b_toI32 _ hi, b_toI32 _ hi, b64_and, b64_255 i hi, b64_ushr hk]
  by_cases q : i < 8
  · rw [b64_shr hk _ q]
  · simp [q]
def fdS (s : Nat → Int32) (w : Int64) (c : Nat) : Nat → Nat → Int32
  | 0 => s
  | k + 1 => upd (fdS s w c k) (431 + c + k) (fdB w k)
theorem fdS_lo {s : Nat → Int32} {w : Int64} {c j : Nat} (hj : j < 431) : ∀ k, fdS s w c k j = s j
  | 0 => rfl
  | k + 1 => by rw [fdS, upd_n (by omega), fdS_lo hj k]
theorem fdS_wf {s : Nat → Int32} {w : Int64} {c : Nat} (h : wf s) : ∀ k, wf (fdS s w c k)
  | 0 => h
  | k + 1 => (fdS_wf h k).low (by omega)
theorem feed_c {s : Nat → Int32} {w : Int64} {c N : Nat} (hN : N ≤ 8) (hc : c + N ≤ 60) (h0 : s 2 = nI c) : ∀ (j i n : Nat), i + j = N → j < n → ∀ m : xM2, quayR m 1 (fdS s w c i) → ∃ m', kpC m m' ∧ quayR m' 1 (upd (fdS s w c N) 2 (nI (c + N))) ∧ fm_X10_feed_b41 n 0 w (nI N) (nI i) (mk m) = some (nI (c + N), mk m') := by
  intro j
  induction j with
  | zero =>
    intro i n hi hn m hm
    obtain ⟨n, rfl⟩ : ∃ x, n = x + 1 := ⟨n - 1, by omega⟩
    have : i = N := by omega
    subst this
    have v : m.2 1 4 = nI c := hm.2.2.2.2.1.trans ((fdS_lo (by decide) i).trans h0)
    refine ⟨sF m 1 4 (nI (c + i)), kpC.F, hm.fld, ?_⟩
    rw [fm_X10_feed_b41, if_pos (Int32.le_refl _)]
    simp only [gR_0_0, gI_1_4, mP_1_4, Option.bind_some, v, nI_add, sF_s, upd_s]
  | succ j ih =>
    intro i n hi hn m hm
    obtain ⟨n, rfl⟩ : ∃ x, n = x + 1 := ⟨n - 1, by omega⟩
    have v : m.2 1 4 = nI c := hm.2.2.2.2.1.trans ((fdS_lo (by decide) i).trans h0)
    have q1 := hm.row (x := fdB w i) (d := 16) (b := 431) (n := 60) (by decide) (show c + i < 60 by omega)
    rw [show 431 + (c + i) = 431 + c + i by omega] at q1
    obtain ⟨m', b1, b2, b3⟩ := ih (i + 1) n (by omega) (by omega) _ q1
    refine ⟨m', kpC.tr kpC.A b1, b2, ?_⟩
    rw [fm_X10_feed_b41, if_neg (nI_ge (by omega) (by omega)), gR_0_0, Option.bind_some, gR_1_2, Option.bind_some, Option.bind_some, gI_1_4, Option.bind_some, v, nI_add, byte_eq (by omega), as_17 m (show c + i < 60 by omega), Option.bind_some, nI_1]
    exact b3
theorem feed_r {s : Nat → Int32} {w : Int64} {c N : Nat} (hN : N ≤ 8) (hc : c + N ≤ 60) (h0 : s 2 = nI c) : ∀ (j i n : Nat), i + j = N → j < n → ∀ m : xM2, m.1 90 = upd (fdS s w c i) 2 (nI (c + i)) → ∃ m', kpR m m' ∧ m'.1 90 = upd (fdS s w c N) 2 (nI (c + N)) ∧ fm_X11_feed_b38 n 89 w (nI N) (nI i) (mk m) = some (nI (c + N), mk m') := by
  have al2 : ∀ m : xM2, hp_ald (mk m) 90 2 = some (m.1 90 2) := fun m => al_90 m (i := 2) (by decide)
  have as2 : ∀ (m : xM2) x, hp_ast (mk m) 90 2 x = some (mk (sA m 90 (upd (m.1 90) 2 x))) := fun m x => as_90 m (i := 2) (by decide)
  intro j
  induction j with
  | zero =>
    intro i n hi hn m hm
    obtain ⟨n, rfl⟩ : ∃ x, n = x + 1 := ⟨n - 1, by omega⟩
    have : i = N := by omega
    subst this
    refine ⟨m, kpR.rf, hm, ?_⟩
    rw [fm_X11_feed_b38, if_pos (Int32.le_refl _), gR_89_0, Option.bind_some, al2, Option.bind_some, hm, upd_s]
  | succ j ih =>
    intro i n hi hn m hm
    obtain ⟨n, rfl⟩ : ∃ x, n = x + 1 := ⟨n - 1, by omega⟩
    have e : upd (upd (upd (fdS s w c i) 2 (nI (c + i))) (431 + c + i) (fdB w i)) 2 (nI (c + (i + 1))) = upd (fdS s w c (i + 1)) 2 (nI (c + (i + 1))) := by
      funext x
      by_cases q : x = 2
      · rw [q, upd_s, upd_s]
      · rw [upd_n q, upd_n q, fdS]
        by_cases q2 : x = 431 + c + i
        · rw [q2, upd_s, upd_s]
        · rw [upd_n q2, upd_n q2, upd_n q]
    obtain ⟨m', b1, b2, b3⟩ := ih (i + 1) n (by omega) (by omega) (sA m 90 (upd (fdS s w c (i + 1)) 2 (nI (c + (i + 1))))) sA_s
    refine ⟨m', kpR.tr kpR.A b1, b2, ?_⟩
    rw [fm_X11_feed_b38, if_neg (nI_ge (by omega) (by omega)), gR_89_0, Option.bind_some, Option.bind_some, al2, Option.bind_some, hm, upd_s, show (431 : Int32) + nI (c + i) = nI (431 + c + i) by rw [show (431 : Int32) = nI 431 from rfl, nI_add, show 431 + (c + i) = 431 + c + i by omega], as_90 m (show 431 + c + i < 515 by omega), Option.bind_some, gR_89_0, Option.bind_some, al2, Option.bind_some, as2, Option.bind_some, sA_s, sA_sA, hm, upd_n (show 2 ≠ 431 + c + i by omega), upd_s, nI_1 (c + i), show c + i + 1 = c + (i + 1) by omega, nI_1]
    rw [show Int64.toInt32 (jl_shr w (8 * nI i) &&& 255) = fdB w i from rfl, e]
    exact b3
theorem p_feed {m : xM2} (h : Rel m) (w : Int64) (a : Int32) : pr m (fm_X10_feed 0 w a) (fm_X11_feed 89 w a) := by
  have al2 : ∀ m : xM2, hp_ald (mk m) 90 2 = some (m.1 90 2) := fun m => al_90 m (i := 2) (by decide)
  rcases inC a (lo := 1) (hi := 8) 1 8 with ⟨N, n1, n2, rfl, ea⟩ | ea
  · obtain ⟨hq, hw, -⟩ := id h
    obtain ⟨c, c1, c2⟩ := hw.2.2.2.1
    have v : m.2 1 4 = nI c := hq.2.2.2.2.1.trans c2
    by_cases q : c + N ≤ 60
    · have l1 : nI N ≤ 60 - nI c := by
        rw [show (60 : Int32) - nI c = nI (60 - c) from pk_sub (a := 60) c1]
        exact nI_le (by omega) (by omega)
      have l2 : nI c + nI N ≤ 60 := by rw [nI_add]; exact nI_le (b := 60) q (by decide)
      obtain ⟨m1, b1, b2, b3⟩ := feed_c (w := w) n2 q c2 N 0 5000 (by omega) (by omega) m hq
      have e90 : m1.1 90 = m.1 90 := (b1.1 90 (Or.inr (by decide))).1
      obtain ⟨m2, d1, d2, d3⟩ := feed_r (w := w) n2 q c2 N 0 5000 (by omega) (by omega) m1 (by
        rw [e90]
        funext x
        by_cases q : x = 2
        · rw [q, upd_s, c2]; rfl
        · rw [upd_n q]; rfl)
      rw [show nI 0 = 0 from rfl] at b3 d3
      refine h.ok (v := nI (c + N)) (m1 := m1) (m2 := m2) ?_ ?_ b1 d1 b2 d2 ((fdS_wf hw N).taped q)
      · unfold fm_X10_feed
        rw [within_in, ea, if_neg one_ne, gR_0_0, Option.bind_some, gI_1_4, Option.bind_some, v, if_pos l1]
        exact b3
      · unfold fm_X11_feed
        rw [ea, if_neg one_ne, gR_89_0, Option.bind_some, al2, Option.bind_some, e90, c2, if_pos l2]
        exact d3
    · have l1 : ¬ nI N ≤ 60 - nI c := by
        rw [show (60 : Int32) - nI c = nI (60 - c) from pk_sub (a := 60) c1]
        exact nI_ge (by omega) (by omega)
      have l2 : ¬ nI c + nI N ≤ 60 := by rw [nI_add]; exact nI_ge (a := 60) (by omega) (by omega)
      refine h.e4 ?_ fun m' e => ?_
      · simp only [fm_X10_feed, below2, below3, below4, below5, below6, below7, below20, below31, below70, within_in, fm_X11_isKnot, fm_X11_isThread, fm_X11_isHand, fm_X11_isSheet, his_0, his_89, Option.bind_some, ob2_some, if_true, if_false, reduceIte, ob2_eta, one_ne, ea, gR_0_0, gI_1_4, v, l1]
      · simp only [fm_X11_feed, below2, below3, below4, below5, below6, below7, below20, below31, below70, within_in, fm_X11_isKnot, fm_X11_isThread, fm_X11_isHand, fm_X11_isSheet, his_0, his_89, Option.bind_some, ob2_some, if_true, if_false, reduceIte, ob2_eta, one_ne, ea, gR_89_0, al2, e.at (a := 90), c2, l2]
  · refine h.e1 ?_ fun m' e => ?_ <;> simp only [fm_X10_feed, fm_X11_feed, below2, below3, below4, below5, below6, below7, below20, below31, below70, within_in, fm_X11_isKnot, fm_X11_isThread, fm_X11_isHand, fm_X11_isSheet, his_0, his_89, Option.bind_some, ob2_some, if_true, if_false, reduceIte, ob2_eta, one_ne, ea]
