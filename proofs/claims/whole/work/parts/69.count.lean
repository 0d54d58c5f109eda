/-! BITS COUNTED -/
theorem land_lane (k a b c d : Nat) (ha : a < 2 ^ k) (hc : c < 2 ^ k) : (2 ^ k * b + a) &&& (2 ^ k * d + c) = 2 ^ k * (b &&& d) + (a &&& c) := by
  apply Nat.eq_of_testBit_eq
  intro i
  rw [Nat.testBit_and, Nat.testBit_two_pow_mul_add _ ha, Nat.testBit_two_pow_mul_add _ hc, Nat.testBit_two_pow_mul_add _ (Nat.and_lt_two_pow _ hc)]
  split
  · rw [Nat.testBit_and]
  · rw [Nat.testBit_and]
def tN (x : Int32) : Nat := x.toBitVec.toNat
theorem tN_and (x y : Int32) : tN (x &&& y) = tN x &&& tN y := by unfold tN; rw [Int32.toBitVec_and, BitVec.toNat_and]
theorem tN_add {x y : Int32} (h : tN x + tN y < 2 ^ 32) : tN (x + y) = tN x + tN y := by
  unfold tN at *
  rw [Int32.toBitVec_add, BitVec.toNat_add, Nat.mod_eq_of_lt h]
theorem tN_sub {x y : Int32} (h : tN y ≤ tN x) : tN (x - y) = tN x - tN y := by
  unfold tN at *
  rw [Int32.toBitVec_sub, BitVec.toNat_sub]
  have h1 := x.toBitVec.isLt
  have h2 := y.toBitVec.isLt
  omega
theorem tN_ushr (x : Int32) {k : Nat} (hk : k < 32) : tN (ji_ushr x (nI k)) = tN x / 2 ^ k := by
  have : ∀ k, k < 32 → (((nI k).toUInt32 &&& Int32.toUInt32 31).toBitVec % 32).toNat = k := s_u
  exact pk_ushr x (nI k) k (this k hk)
theorem tN_lt (x : Int32) : tN x < 2 ^ 32 := x.toBitVec.isLt
/-- four bytes -/
def by4 (a b c d : Nat) : Nat := 2 ^ 8 * (2 ^ 8 * (2 ^ 8 * d + c) + b) + a
theorem by4_and {a b c d e f g h : Nat} (ha : a < 256) (hb : b < 256) (hc : c < 256) (he : e < 256) (hf : f < 256) (hg : g < 256) : by4 a b c d &&& by4 e f g h = by4 (a &&& e) (b &&& f) (c &&& g) (d &&& h) := by
  unfold by4
  rw [land_lane 8 _ _ _ _ ha he, land_lane 8 _ _ _ _ hb hf, land_lane 8 _ _ _ _ hc hg]
theorem by4_div {a b c d k : Nat} (hk : k < 8) : by4 a b c d / 2 ^ k = by4 (a / 2 ^ k + 2 ^ (8 - k) * (b % 2 ^ k)) (b / 2 ^ k + 2 ^ (8 - k) * (c % 2 ^ k)) (c / 2 ^ k + 2 ^ (8 - k) * (d % 2 ^ k)) (d / 2 ^ k) := by
  unfold by4
  rcases k with _ | _ | _ | _ | _ | _ | _ | _ | k <;> first | omega | (simp only [Nat.reducePow, Nat.reduceSub, Nat.reduceAdd]; omega)
theorem by4_of {n : Nat} (h : n < 2 ^ 32) : ∃ a b c d, a < 256 ∧ b < 256 ∧ c < 256 ∧ d < 256 ∧ n = by4 a b c d :=
  ⟨n % 256, n / 256 % 256, n / 65536 % 256, n / 16777216, by omega, by omega, by omega, by omega, by unfold by4; omega⟩
theorem by_f1 : ∀ a, a < 256 → ∀ e, e < 2 → (a / 2 ^ 1 + 2 ^ (8 - 1) * e) &&& 85 = (a / 2 &&& 85) ∧ (a / 2 &&& 85) ≤ a := by decide +kernel
theorem by_f2 : ∀ a, a < 256 → ∀ e, e < 4 → (a / 2 ^ 2 + 2 ^ (8 - 2) * e) &&& 51 = (a / 4 &&& 51) ∧ (a &&& 51) + (a / 4 &&& 51) < 256 := by decide +kernel
def pc1 (a : Nat) : Nat := a - (a / 2 &&& 85)
def pc2 (a : Nat) : Nat := (pc1 a &&& 51) + (pc1 a / 4 &&& 51)
def pc3 (a : Nat) : Nat := (pc2 a + pc2 a / 16) &&& 15
theorem pc1_lt {a : Nat} (h : a < 256) : pc1 a < 256 := by unfold pc1; omega
theorem pc2_le : ∀ a, a < 256 → pc2 a ≤ 68 := by decide +kernel
theorem by_f4 : ∀ a, a ≤ 68 → ∀ e, e < 16 → (a + (a / 2 ^ 4 + 2 ^ (8 - 4) * e)) % 256 &&& 15 = ((a + a / 16) &&& 15) := by decide +kernel
def cntN (n : Nat) : Nat → Nat
  | 0 => 0
  | k + 1 => cntN n k + (if n.testBit k then 1 else 0)
theorem pc3_cnt : ∀ a, a < 256 → pc3 a = cntN a 8 ∧ pc3 a ≤ 8 := by decide +kernel
theorem pc2_m : ∀ a, a < 256 → pc2 a ≤ 68 ∧ pc2 a % 16 ≤ 4 := by decide +kernel
theorem by_g4 : ∀ a, a ≤ 68 → ∀ e, e ≤ 4 → a % 16 ≤ 4 → (a + (a / 2 ^ 4 + 2 ^ (8 - 4) * e)) < 256 ∧ (a + (a / 2 ^ 4 + 2 ^ (8 - 4) * e)) &&& 15 = ((a + a / 16) &&& 15) := by decide +kernel
theorem cntN_lane {a b : Nat} (ha : a < 256) : ∀ k, cntN (2 ^ 8 * b + a) (8 + k) = cntN a 8 + cntN b k
  | 0 => by
    have : ∀ j, j ≤ 8 → cntN (2 ^ 8 * b + a) j = cntN a j := by
      intro j
      induction j with
      | zero => intro _; rfl
      | succ j ih =>
        intro hj
        rw [cntN, cntN, ih (by omega), Nat.testBit_two_pow_mul_add _ (show a < 2 ^ 8 from ha), if_pos (show j < 8 by omega)]
    exact this 8 (by omega)
  | k + 1 => by
    rw [show 8 + (k + 1) = (8 + k) + 1 from rfl, cntN, cntN_lane ha k, cntN, Nat.testBit_two_pow_mul_add _ (show a < 2 ^ 8 from ha), if_neg (show ¬ 8 + k < 8 by omega), show 8 + k - 8 = k by omega, show cntN b (k + 1) = cntN b k + (if b.testBit k = true then 1 else 0) from rfl]
    omega
theorem cntN_by4 {a b c d : Nat} (ha : a < 256) (hb : b < 256) (hc : c < 256) : cntN (by4 a b c d) 32 = cntN a 8 + (cntN b 8 + (cntN c 8 + cntN d 8)) := by
  unfold by4
  rw [show 32 = 8 + 24 from rfl, cntN_lane ha, show 24 = 8 + 16 from rfl, cntN_lane hb, show 16 = 8 + 8 from rfl, cntN_lane hc]
theorem cnt_bt (x : Int32) : ∀ k, cnt (bt x) k = cntN (tN x) k
  | 0 => rfl
  | k + 1 => by rw [cnt, cntN, cnt_bt x k]; rfl
theorem tN_nI {x : Int32} {n : Nat} (hn : n < 2 ^ 32) (h : tN x = n) : x = nI n := by
  apply Int32.toBitVec_inj.mp
  apply BitVec.eq_of_toNat_eq
  rw [pk_tn hn]
  exact h
theorem pc_all {x : Int32} {a b c d : Nat} (ha : a < 256) (hb : b < 256) (hc : c < 256) (hd : d < 256) (hx : tN x = by4 a b c d) : fm_J6_bitCount_0f7a4 x = nI (pc3 a + pc3 b + pc3 c + pc3 d) := by
  have e1 : tN (ji_ushr x 1 &&& 1431655765) = by4 (a / 2 &&& 85) (b / 2 &&& 85) (c / 2 &&& 85) (d / 2 &&& 85) := by
    rw [tN_and, show (1 : Int32) = nI 1 from rfl, tN_ushr x (by decide), hx, by4_div (by decide), show tN 1431655765 = by4 85 85 85 85 by decide +kernel, by4_and (by omega) (by omega) (by omega) (by decide) (by decide) (by decide),
      (by_f1 a ha (b % 2 ^ 1) (by omega)).1, (by_f1 b hb (c % 2 ^ 1) (by omega)).1, (by_f1 c hc (d % 2 ^ 1) (by omega)).1]
  have la := (by_f1 a ha 0 (by omega)).2
  have lb := (by_f1 b hb 0 (by omega)).2
  have lc := (by_f1 c hc 0 (by omega)).2
  have ld := (by_f1 d hd 0 (by omega)).2
  have e2 : tN (x - (ji_ushr x 1 &&& 1431655765)) = by4 (pc1 a) (pc1 b) (pc1 c) (pc1 d) := by
    rw [tN_sub (by rw [e1, hx]; unfold by4; omega), e1, hx]
    unfold by4 pc1
    omega
  unfold fm_J6_bitCount_0f7a4
  generalize x - (ji_ushr x 1 &&& 1431655765) = y at e2 ⊢
  have a1 := pc1_lt ha
  have b1 := pc1_lt hb
  have c1 := pc1_lt hc
  have d1 := pc1_lt hd
  have e3 : tN (ji_ushr y 2 &&& 858993459) = by4 (pc1 a / 4 &&& 51) (pc1 b / 4 &&& 51) (pc1 c / 4 &&& 51) (pc1 d / 4 &&& 51) := by
    rw [tN_and, show (2 : Int32) = nI 2 from rfl, tN_ushr y (by decide), e2, by4_div (by decide), show tN 858993459 = by4 51 51 51 51 by decide +kernel, by4_and (by omega) (by omega) (by omega) (by decide) (by decide) (by decide),
      (by_f2 _ a1 (pc1 b % 2 ^ 2) (by omega)).1, (by_f2 _ b1 (pc1 c % 2 ^ 2) (by omega)).1, (by_f2 _ c1 (pc1 d % 2 ^ 2) (by omega)).1]
  have e4 : tN (y &&& 858993459) = by4 (pc1 a &&& 51) (pc1 b &&& 51) (pc1 c &&& 51) (pc1 d &&& 51) := by
    rw [tN_and, e2, show tN 858993459 = by4 51 51 51 51 by decide +kernel, by4_and a1 b1 c1 (by decide) (by decide) (by decide)]
  have a2 := pc2_m a ha
  have b2 := pc2_m b hb
  have c2 := pc2_m c hc
  have d2 := pc2_m d hd
  have e5 : tN ((y &&& 858993459) + (ji_ushr y 2 &&& 858993459)) = by4 (pc2 a) (pc2 b) (pc2 c) (pc2 d) := by
    have e : by4 (pc1 a &&& 51) (pc1 b &&& 51) (pc1 c &&& 51) (pc1 d &&& 51) + by4 (pc1 a / 4 &&& 51) (pc1 b / 4 &&& 51) (pc1 c / 4 &&& 51) (pc1 d / 4 &&& 51) = by4 (pc2 a) (pc2 b) (pc2 c) (pc2 d) := by
      unfold by4 pc2
      omega
    rw [tN_add (by rw [e4, e3, e]; unfold by4; omega), e4, e3, e]
  unfold fm_J6_bitCount_0f7a4_b10
  generalize (y &&& 858993459) + (ji_ushr y 2 &&& 858993459) = z at e5 ⊢
  have f1 := by_g4 _ a2.1 _ b2.2 a2.2
  have f2 := by_g4 _ b2.1 _ c2.2 b2.2
  have f3 := by_g4 _ c2.1 _ d2.2 c2.2
  have f4 := by_g4 _ d2.1 0 (by decide) d2.2
  have e6 : tN ((z + ji_ushr z 4) &&& 252645135) = by4 (pc3 a) (pc3 b) (pc3 c) (pc3 d) := by
    have e : by4 (pc2 a) (pc2 b) (pc2 c) (pc2 d) + by4 (pc2 a / 2 ^ 4 + 2 ^ (8 - 4) * (pc2 b % 2 ^ 4)) (pc2 b / 2 ^ 4 + 2 ^ (8 - 4) * (pc2 c % 2 ^ 4)) (pc2 c / 2 ^ 4 + 2 ^ (8 - 4) * (pc2 d % 2 ^ 4)) (pc2 d / 2 ^ 4) = by4 (pc2 a + (pc2 a / 2 ^ 4 + 2 ^ (8 - 4) * (pc2 b % 2 ^ 4))) (pc2 b + (pc2 b / 2 ^ 4 + 2 ^ (8 - 4) * (pc2 c % 2 ^ 4))) (pc2 c + (pc2 c / 2 ^ 4 + 2 ^ (8 - 4) * (pc2 d % 2 ^ 4))) (pc2 d + (pc2 d / 2 ^ 4 + 2 ^ (8 - 4) * 0)) := by
      unfold by4
      omega
    have eu : tN (ji_ushr z 4) = by4 (pc2 a / 2 ^ 4 + 2 ^ (8 - 4) * (pc2 b % 2 ^ 4)) (pc2 b / 2 ^ 4 + 2 ^ (8 - 4) * (pc2 c % 2 ^ 4)) (pc2 c / 2 ^ 4 + 2 ^ (8 - 4) * (pc2 d % 2 ^ 4)) (pc2 d / 2 ^ 4) := by
      rw [show (4 : Int32) = nI 4 from rfl, tN_ushr z (by decide), e5, by4_div (by decide)]
    rw [tN_and, tN_add (by rw [e5, eu, e]; unfold by4; omega), e5, eu, e, show tN 252645135 = by4 15 15 15 15 by decide +kernel, by4_and f1.1 f2.1 f3.1 (by decide) (by decide) (by decide), f1.2, f2.2, f3.2, f4.2]
    rfl
  unfold fm_J6_bitCount_0f7a4_b24
  generalize (z + ji_ushr z 4) &&& 252645135 = w at e6 ⊢
  have p1 := (pc3_cnt a ha).2
  have p2 := (pc3_cnt b hb).2
  have p3 := (pc3_cnt c hc).2
  have p4 := (pc3_cnt d hd).2
  generalize pc3 a = A at *
  generalize pc3 b = B at *
  generalize pc3 c = C at *
  generalize pc3 d = D at *
  have e7 : tN (w + ji_ushr w 8) = by4 (A + B) (B + C) (C + D) D := by
    have eu : tN (ji_ushr w 8) = by4 B C D 0 := by
      rw [show (8 : Int32) = nI 8 from rfl, tN_ushr w (by decide), e6]
      unfold by4
      omega
    have e : by4 A B C D + by4 B C D 0 = by4 (A + B) (B + C) (C + D) D := by unfold by4; omega
    rw [tN_add (by rw [e6, eu, e]; unfold by4; omega), e6, eu, e]
  unfold fm_J6_bitCount_0f7a4_b34
  generalize w + ji_ushr w 8 = v at e7 ⊢
  have e8 : tN (v + ji_ushr v 16) = by4 (A + B + (C + D)) (B + C + D) (C + D) D := by
    have eu : tN (ji_ushr v 16) = by4 (C + D) D 0 0 := by
      rw [show (16 : Int32) = nI 16 from rfl, tN_ushr v (by decide), e7]
      unfold by4
      omega
    have e : by4 (A + B) (B + C) (C + D) D + by4 (C + D) D 0 0 = by4 (A + B + (C + D)) (B + C + D) (C + D) D := by unfold by4; omega
    rw [tN_add (by rw [e7, eu, e]; unfold by4; omega), e7, eu, e]
  unfold fm_J6_bitCount_0f7a4_b41 fm_J6_bitCount_0f7a4_b48
  generalize v + ji_ushr v 16 = u at e8 ⊢
  apply tN_nI (by omega)
  rw [tN_and, e8, show tN 63 = 2 ^ 6 - 1 by decide +kernel, Nat.and_two_pow_sub_one_eq_mod]
  unfold by4
  omega
theorem bitCount_eq (x : Int32) : fm_J6_bitCount_0f7a4 x = nI (cnt (bt x) 32) := by
  obtain ⟨a, b, c, d, ha, hb, hc, hd, h⟩ := by4_of (tN_lt x)
  rw [pc_all ha hb hc hd h, cnt_bt, h, cntN_by4 ha hb hc, (pc3_cnt a ha).1, (pc3_cnt b hb).1, (pc3_cnt c hc).1, (pc3_cnt d hd).1]
  congr 1
  omega
theorem cnt_cong {p q : Nat → Bool} : ∀ {n : Nat}, (∀ i, i < n → p i = q i) → cnt p n = cnt q n
  | 0, _ => rfl
  | n + 1, h => by rw [cnt, cnt, cnt_cong (fun i hi => h i (by omega)), h n (by omega)]
theorem bitCount_lo {x : Int32} (h : lo 31 x) : fm_J6_bitCount_0f7a4 x = nI (cnt (bt x) 31) := by
  rw [bitCount_eq, show cnt (bt x) 32 = cnt (bt x) 31 + (if bt x 31 then 1 else 0) from rfl, h 31 (by decide) (by decide)]
  rfl
theorem bitCount_gone (s : Nat → Int32) : fm_J6_bitCount_0f7a4 (goneS s) = nI (cnt (gn s) 31) := by
  have h : lo 31 (goneS s) := lo_enc (by decide)
  rw [bitCount_lo h, cnt_cong (p := bt (goneS s)) (q := gn s) fun i hi => bt_gone hi]
theorem missT_ok {m : xM2} {o : Nat} {s : Nat → Int32} (ho : isNet o) (h : netR m o s) : fm_X5_missingThreads o (mk m) = some (nI (cnt (gn s) 31)) := by
  unfold fm_X5_missingThreads
  rw [ntI9 ho, h.2.2.2.2.2.2.1, Option.bind_some, bitCount_gone]
