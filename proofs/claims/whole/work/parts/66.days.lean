/-! SEVERAL DAYS -/
def dayN (s : Nat → Int32) : Nat → Nat → Int32
  | 0 => s
  | n + 1 => dayS (dayN s n)
theorem dayN_ok {s : Nat → Int32} {B : Nat} (h : dayOk s B) : ∀ n, dayOk (dayN s n) (B + n)
  | 0 => h
  | n + 1 => (dayN_ok h n).day
theorem go_b2 {s : Nat → Int32} {B N : Nat} (h : dayOk s B) (hN : N < 1000) : ∀ (j i n : Nat), i + j = N → j < n → ∀ m : xM2, m.1 90 = dayN s i → ∃ m', scD m m' ∧ m'.1 90 = dayN s N ∧ fm_X11_go_b2 n 89 (nI N) (nI i) (mk m) = some (mk m') := by
  intro j
  induction j with
  | zero =>
    intro i n hi hn m hm
    obtain ⟨n, rfl⟩ : ∃ n', n = n' + 1 := ⟨n - 1, by omega⟩
    have : i = N := by omega
    subst this
    exact ⟨m, scD.rf, hm, by rw [fm_X11_go_b2, if_pos (Int32.le_refl _)]⟩
  | succ j ih =>
    intro i n hi hn m hm
    obtain ⟨n, rfl⟩ : ∃ n', n = n' + 1 := ⟨n - 1, by omega⟩
    have hd := dayN_ok h i
    obtain ⟨m1, a1, a2, a3⟩ := day_ok (m := m) (by rw [hm]; exact hd.1) (by rw [hm]; exact hd.2.1)
    rw [fm_X11_go_b2, if_neg (nI_ge (by omega) (by omega)), if_pos (his_89 m), a3, Option.bind_some, nI_1]
    obtain ⟨m2, b1, b2, b3⟩ := ih (i + 1) n (by omega) (by omega) m1 (by rw [a2, hm]; rfl)
    exact ⟨m2, a1.tr b1, b2, b3⟩
theorem go_ok {m : xM2} {B N : Nat} (h : dayOk (m.1 90) B) (hN : N < 1000) : ∃ m', scD m m' ∧ m'.1 90 = dayN (m.1 90) N ∧ fm_X11_go 89 (nI N) (mk m) = some (mk m') :=
  go_b2 h hN N 0 5000 (by omega) (by omega) m rfl
theorem passDays_b2 {o B N : Nat} {s : Nat → Int32} (ho : isNet o) (h : dayOk s B) (hB : B + 1000 < 100000) (hN : N < 1000) : ∀ (j i n : Nat), i + j = N → j < n → ∀ m : xM2, netR m o (dayN s i) → ∃ m', scN o m m' ∧ netR m' o (dayN s N) ∧ fm_X5_passDays_b2 n o (nI N) (nI i) (mk m) = some (mk m') := by
  intro j
  induction j with
  | zero =>
    intro i n hi hn m hm
    obtain ⟨n, rfl⟩ : ∃ n', n = n' + 1 := ⟨n - 1, by omega⟩
    have : i = N := by omega
    subst this
    exact ⟨m, scN.rf, hm, by rw [fm_X5_passDays_b2, if_pos (Int32.le_refl _)]⟩
  | succ j ih =>
    intro i n hi hn m hm
    obtain ⟨n, rfl⟩ : ∃ n', n = n' + 1 := ⟨n - 1, by omega⟩
    obtain ⟨m1, a1, a2, a3⟩ := pass_ok ho hm (dayN_ok h i) (by omega)
    rw [fm_X5_passDays_b2, if_neg (nI_ge (by omega) (by omega)), if_pos (ntH ho m), a3, Option.bind_some, nI_1]
    obtain ⟨m2, b1, b2, b3⟩ := ih (i + 1) n (by omega) (by omega) m1 a2
    exact ⟨m2, a1.tr b1, b2, b3⟩
theorem passDays_ok {m : xM2} {o B N : Nat} {s : Nat → Int32} (ho : isNet o) (hR : netR m o s) (h : dayOk s B) (hB : B + 1000 < 100000) (hN : N < 1000) : ∃ m', scN o m m' ∧ netR m' o (dayN s N) ∧ fm_X5_passDays o (nI N) (mk m) = some (mk m') :=
  passDays_b2 ho h hB hN N 0 5000 (by omega) (by omega) m hR
/-- bits counted -/
def bcS (x : Int32) : Nat := cnt (bt x) 32
