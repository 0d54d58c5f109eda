/-! NETS AND QUAYS COPIED -/
def isRow (a n : Nat) : Prop := (∀ m : xM2, (mk m)[a]? = some (.inl (n, .inl (m.1 a)))) ∧ ∀ (m : xM2) (f : Nat → Int32), (mk m).set a (.inl (n, .inl f)) = mk (sA m a f)
theorem cpS {m : xM2} {a b na nb N : Nat} (ha : isRow a na) (hb : isRow b nb) (h1 : N ≤ na) (h2 : N ≤ nb) (hN : N < 2 ^ 31 := by decide) : ∃ m1 : xM2, hp_cpy (mk m) a 0 b 0 (nI N) = some (mk m1) ∧ m1.2 = m.2 ∧ (∀ c, c ≠ b → m1.1 c = m.1 c) ∧ ∀ j, j < N → m1.1 b j = m.1 a j := by
  refine ⟨sA m b (va_cpy (m.1 a) (m.1 b) 0 0 N), ?_, rfl, fun c hc => sA_n hc, fun j hj => ?_⟩
  · unfold hp_cpy
    rw [ha.1, hb.1]
    dsimp only
    rw [nI_clamp hN, show Int32.toNatClampNeg 0 = 0 from rfl, if_neg, hb.2]
    rintro (q | q | q | q | q)
    · exact absurd q (by decide)
    · exact absurd q (by decide)
    · exact nI_pos hN q
    · omega
    · omega
  · rw [sA_s, va_cpy, if_pos (by omega), show 0 + (j - 0) = j by omega]
theorem ntRow {o d : Nat} (h : isNet o) (hd : d < 4) : isRow (o + 1 + d) 20 := by
  rcases h with rfl | rfl | rfl | rfl <;> rcases d with _ | _ | _ | _ | d <;> first | exact ⟨fun _ => rfl, fun _ _ => rfl⟩ | omega
theorem ntRow5 {o : Nat} (h : isNet o) : isRow (o + 5) 31 := by
  rcases h with rfl | rfl | rfl | rfl <;> exact ⟨fun _ => rfl, fun _ _ => rfl⟩
theorem ntRow6 {o : Nat} (h : isNet o) : isRow (o + 6) 31 := by
  rcases h with rfl | rfl | rfl | rfl <;> exact ⟨fun _ => rfl, fun _ _ => rfl⟩
theorem lwRow {o : Nat} (h : isLaw o) : isRow (o + 1) 60 := by
  rcases h with rfl | rfl | rfl | rfl | rfl | rfl | rfl | rfl | rfl <;> exact ⟨fun _ => rfl, fun _ _ => rfl⟩
theorem lawBecome {m : xM2} {L L' : Nat} (hL : isLaw L) (hL' : isLaw L') : ∃ m1 : xM2, fm_X3_become L L' (mk m) = some (mk m1) ∧ (∀ c, c ≠ L + 1 → m1.1 c = m.1 c) ∧ (∀ j, j < 60 → m1.1 (L + 1) j = m.1 (L' + 1) j) ∧ (∀ c, c ≠ L → m1.2 c = m.2 c) ∧ m1.2 L 2 = m.2 L' 2 := by
  obtain ⟨m1, a1, a2, a3, a4⟩ := cpS (m := m) (N := 60) (lwRow hL') (lwRow hL) (by decide) (by decide)
  have a1' : hp_cpy (mk m) (L' + 1) 0 (L + 1) 0 60 = some (mk m1) := a1
  refine ⟨sF m1 L 2 (m.2 L' 2), ?_, fun c hc => a3 c hc, a4, fun c hc => ?_, ?_⟩
  · unfold fm_X3_become
    simp only [lwR0 hL', lwR0 hL, Option.bind_some, ob2_some, if_true, if_false, reduceIte, a1', lwI2 hL', lwP2 hL, a2]
  · rw [sF_n hc, a2]
  · rw [sF_s, upd_s]
theorem become_ok {m : xM2} {o p : Nat} {s : Nat → Int32} (ho : isNet o) (hp : isNet p) (hne : o ≠ p) (h : netR m p s) : ∃ m', scN o m m' ∧ netR m' o s ∧ fm_X5_become o p (mk m) = some (mk m') := by
  obtain ⟨b1, b2, b3, b4, b5, b6, b7, b8, b9, c1⟩ := h
  have hop : o + 20 ≤ p ∨ p + 14 ≤ o ∨ o + 14 ≤ p := by unfold isNet at *; omega
  obtain ⟨m1, e1, f1, g1, k1⟩ := cpS (m := m) (N := 20) (ntRow hp (d := 0) (by decide)) (ntRow ho (d := 0) (by decide)) (by decide) (by decide)
  obtain ⟨m2, e2, f2, g2, k2⟩ := cpS (m := m1) (N := 20) (ntRow hp (d := 1) (by decide)) (ntRow ho (d := 1) (by decide)) (by decide) (by decide)
  obtain ⟨m3, e3, f3, g3, k3⟩ := cpS (m := m2) (N := 20) (ntRow hp (d := 2) (by decide)) (ntRow ho (d := 2) (by decide)) (by decide) (by decide)
  obtain ⟨m4, e4, f4, g4, k4⟩ := cpS (m := m3) (N := 20) (ntRow hp (d := 3) (by decide)) (ntRow ho (d := 3) (by decide)) (by decide) (by decide)
  obtain ⟨m5, e5, f5, g5, k5⟩ := cpS (m := m4) (N := 31) (ntRow5 hp) (ntRow5 ho) (by decide) (by decide)
  obtain ⟨m6, e6, f6, g6, k6⟩ := cpS (m := m5) (N := 31) (ntRow6 hp) (ntRow6 ho) (by decide) (by decide)
  obtain ⟨m7, e7, g7, k7, f7, i7⟩ := lawBecome (m := m6) (nt_law0 ho) (nt_law0 hp)
  obtain ⟨m8, e8, g8, k8, f8, i8⟩ := lawBecome (m := m7) (nt_law1 ho) (nt_law1 hp)
  have E1 : hp_cpy (mk m) (p + 1) 0 (o + 1) 0 20 = some (mk m1) := e1
  have E2 : hp_cpy (mk m1) (p + 2) 0 (o + 2) 0 20 = some (mk m2) := e2
  have E3 : hp_cpy (mk m2) (p + 3) 0 (o + 3) 0 20 = some (mk m3) := e3
  have E4 : hp_cpy (mk m3) (p + 4) 0 (o + 4) 0 20 = some (mk m4) := e4
  have E5 : hp_cpy (mk m4) (p + 5) 0 (o + 5) 0 31 = some (mk m5) := e5
  have E6 : hp_cpy (mk m5) (p + 6) 0 (o + 6) 0 31 = some (mk m6) := e6
  -- what stays
  have z6 : m6.2 = m.2 := by rw [f6, f5, f4, f3, f2, f1]
  have s6 : ∀ c, (c ≤ o ∨ o + 7 ≤ c) → m6.1 c = m.1 c := fun c hc => by rw [g6 c (by omega), g5 c (by omega), g4 c (by omega), g3 c (by omega), g2 c (by omega), g1 c (by omega)]
  have s8 : ∀ c, (c < o ∨ o + 14 ≤ c) → m8.1 c = m.1 c := fun c hc => by rw [g8 c (by omega), g7 c (by omega), s6 c (by omega)]
  have z8 : ∀ c, c ≠ o + 8 → c ≠ o + 11 → m8.2 c = m.2 c := fun c h1 h2 => by rw [f8 c h2, f7 c h1, z6]
  refine ⟨sF (sF m8 o 9 (m.2 p 9)) o 10 (m.2 p 10), fun a ha => ⟨s8 a ha, ?_⟩, ⟨fun k hk => ?_, fun k hk => ?_, fun k hk => ?_, fun k hk => ?_, fun k hk => ?_, fun k hk => ?_, ?_, ?_, ⟨?_, fun N n1 n2 k hk => ?_⟩, ⟨?_, fun N n1 n2 k hk => ?_⟩⟩, ?_⟩
  · rw [sF_n (by omega), sF_n (by omega), z8 a (by omega) (by omega)]
  · show m8.1 (o + 1) k = _
    rw [g8 _ (by omega), g7 _ (by omega), g6 _ (by omega), g5 _ (by omega), g4 _ (by omega), g3 _ (by omega), g2 _ (by omega)]
    exact (k1 k hk).trans (b1 k hk)
  · show m8.1 (o + 2) k = _
    rw [g8 _ (by omega), g7 _ (by omega), g6 _ (by omega), g5 _ (by omega), g4 _ (by omega), g3 _ (by omega)]
    refine (k2 k hk).trans ?_
    rw [g1 _ (by omega)]
    exact b2 k hk
  · show m8.1 (o + 3) k = _
    rw [g8 _ (by omega), g7 _ (by omega), g6 _ (by omega), g5 _ (by omega), g4 _ (by omega)]
    refine (k3 k hk).trans ?_
    rw [g2 _ (by omega), g1 _ (by omega)]
    exact b3 k hk
  · show m8.1 (o + 4) k = _
    rw [g8 _ (by omega), g7 _ (by omega), g6 _ (by omega), g5 _ (by omega)]
    refine (k4 k hk).trans ?_
    rw [g3 _ (by omega), g2 _ (by omega), g1 _ (by omega)]
    exact b4 k hk
  · show m8.1 (o + 5) k = _
    rw [g8 _ (by omega), g7 _ (by omega), g6 _ (by omega), k5 k hk, g4 _ (by omega), g3 _ (by omega), g2 _ (by omega), g1 _ (by omega)]
    exact b5 k hk
  · show m8.1 (o + 6) k = _
    rw [g8 _ (by omega), g7 _ (by omega), k6 k hk, g5 _ (by omega), g4 _ (by omega), g3 _ (by omega), g2 _ (by omega), g1 _ (by omega)]
    exact b6 k hk
  · rw [sF_s, upd_n (by decide), sF_s, upd_s]
    exact b7
  · rw [sF_s, upd_s]
    exact b8
  · rw [sF_n (by omega), sF_n (by omega), f8 _ (by omega), i7, z6]
    exact b9.1
  · show m8.1 (o + 8 + 1) k = _
    rw [g8 _ (by omega), k7 k (by omega), s6 _ (by omega)]
    exact b9.2 N n1 n2 k hk
  · rw [sF_n (by omega), sF_n (by omega), i8, f7 _ (by omega), z6]
    exact c1.1
  · show m8.1 (o + 11 + 1) k = _
    rw [k8 k (by omega), g7 _ (by omega), s6 _ (by omega)]
    exact c1.2 N n1 n2 k hk
  · unfold fm_X5_become
    simp only [ntR0 hp, ntR0 ho, ntR1 hp, ntR1 ho, ntR2 hp, ntR2 ho, ntR3 hp, ntR3 ho, ntR4 hp, ntR4 ho, ntR5 hp, ntR5 ho, ntR7 hp, ntR7 ho, ntR8 hp, ntR8 ho, Option.bind_some, ob2_some, if_true, if_false, reduceIte, E1, E2, E3, E4, E5, E6, lwH (nt_law0 ho), lwH (nt_law1 ho), e7, e8, ntI9 hp, ntI10 hp, ntP9 ho, ntP10 ho]
    rw [sF_n (Ne.symm hne), z8 p (by omega) (by omega)]
theorem qyRow {q d n : Nat} (h : isQuay q) (hd : (d = 15 ∧ n = 3) ∨ (d = 16 ∧ n = 60) ∨ (d = 17 ∧ n = 24)) : isRow (q + d) n := by
  rcases h with rfl | rfl <;> rcases hd with ⟨rfl, rfl⟩ | ⟨rfl, rfl⟩ | ⟨rfl, rfl⟩ <;> exact ⟨fun _ => rfl, fun _ _ => rfl⟩
theorem qbecome_ok {m : xM2} {q p : Nat} {s : Nat → Int32} (hq : isQuay q) (hp : isQuay p) (hne : q ≠ p) (h : quayR m p s) : ∃ m', (∀ a, a < q ∨ q + 18 ≤ a → same m m' a) ∧ quayR m' q s ∧ fm_X6_become q p (mk m) = some (mk m') := by
  obtain ⟨h1, h2, h3, h4, h5, h6, h7, h8⟩ := h
  have hd : q + 18 ≤ p ∨ p + 18 ≤ q := by unfold isQuay at *; omega
  obtain ⟨m0, a1, a2, a3⟩ := become_ok (qy_net hq) (qy_net hp) (by omega) h1
  obtain ⟨m1, e1, f1, g1, k1⟩ := cpS (m := m0) (N := 3) (qyRow hp (d := 15) (n := 3) (by decide)) (qyRow hq (d := 15) (n := 3) (by decide)) (by decide) (by decide)
  obtain ⟨m2, e2, f2, g2, k2⟩ := cpS (m := m1) (N := 60) (qyRow hp (d := 16) (n := 60) (by decide)) (qyRow hq (d := 16) (n := 60) (by decide)) (by decide) (by decide)
  obtain ⟨m3, e3, f3, g3, k3⟩ := cpS (m := m2) (N := 24) (qyRow hp (d := 17) (n := 24) (by decide)) (qyRow hq (d := 17) (n := 24) (by decide)) (by decide) (by decide)
  have E1 : hp_cpy (mk m0) (p + 15) 0 (q + 15) 0 3 = some (mk m1) := e1
  have E2 : hp_cpy (mk m1) (p + 16) 0 (q + 16) 0 60 = some (mk m2) := e2
  have E3 : hp_cpy (mk m2) (p + 17) 0 (q + 17) 0 24 = some (mk m3) := e3
  have z3 : m3.2 = m0.2 := by rw [f3, f2, f1]
  have zp : m0.2 p = m.2 p := (a1 p (by omega)).2
  have s3 : ∀ c, c < q + 15 ∨ q + 18 ≤ c → m3.1 c = m0.1 c := fun c hc => by rw [g3 c (by omega), g2 c (by omega), g1 c (by omega)]
  refine ⟨sF (sF (sF (sF m3 q 4 (m.2 p 4)) q 5 (m.2 p 5)) q 6 (m.2 p 6)) q 7 (m.2 p 7), fun a ha => ⟨?_, ?_⟩, ⟨?_, fun i hi => ?_, fun i hi => ?_, fun i hi => ?_, ?_, ?_, ?_, ?_⟩, ?_⟩
  · show m3.1 a = m.1 a
    rw [s3 a (by omega)]
    exact (a1 a (by omega)).1
  · rw [sF_n (by omega), sF_n (by omega), sF_n (by omega), sF_n (by omega), z3]
    exact (a1 a (by omega)).2
  · exact a2.mv fun a x y => ⟨s3 a (by omega), by rw [sF_n (by omega), sF_n (by omega), sF_n (by omega), sF_n (by omega), z3]⟩
  · show m3.1 (q + 15) i = _
    rw [g3 _ (by omega), g2 _ (by omega), k1 i hi, (a1 _ (by omega)).1]
    exact h2 i hi
  · show m3.1 (q + 16) i = _
    rw [g3 _ (by omega), k2 i hi, g1 _ (by omega), (a1 _ (by omega)).1]
    exact h3 i hi
  · show m3.1 (q + 17) i = _
    rw [k3 i hi, g2 _ (by omega), g1 _ (by omega), (a1 _ (by omega)).1]
    exact h4 i hi
  · rw [sF_s, upd_n (by decide), sF_s, upd_n (by decide), sF_s, upd_n (by decide), sF_s, upd_s]; exact h5
  · rw [sF_s, upd_n (by decide), sF_s, upd_n (by decide), sF_s, upd_s]; exact h6
  · rw [sF_s, upd_n (by decide), sF_s, upd_s]; exact h7
  · rw [sF_s, upd_s]; exact h8
  · unfold fm_X6_become
    have hn : hp_is (mk m) (q + 1) 3 = true := ntH (qy_net hq) m
    simp only [qyR0 hq, qyR0 hp, qyR1 hq, qyR1 hp, qyR2 hq, qyR2 hp, qyR3 hq, qyR3 hp, Option.bind_some, ob2_some, if_true, if_false, reduceIte, hn, a3, E1, E2, E3, qyI4 hp, qyI5 hp, qyI6 hp, qyI7 hp, qyP4 hq, qyP5 hq, qyP6 hq, qyP7 hq]
    simp only [sF_n (Ne.symm hne), z3, zp]
