/-! THE REFERENCE'S SMALL METHODS -/
theorem sA_sA {m : xM2} {a : Nat} {f g : Nat → Int32} : sA (sA m a f) a g = sA m a g := by
  unfold sA
  simp only [Prod.mk.injEq, and_true]
  funext b
  by_cases h : b = a <;> simp [h]
theorem in_eq {v lo hi : Int32} : fm_X11_in v lo hi = if lo ≤ v ∧ v ≤ hi then 1 else 0 := by
  unfold fm_X11_in
  by_cases h1 : v < lo
  · rw [if_pos h1, if_neg (fun q => absurd q.1 (Int32.not_le.mpr h1))]
  · rw [if_neg h1]
    by_cases h2 : hi < v
    · rw [if_pos h2, if_neg (fun q => absurd q.2 (Int32.not_le.mpr h2))]
    · rw [if_neg h2, if_pos ⟨Int32.not_lt.mp h1, Int32.not_lt.mp h2⟩]
/-- an int within 0 .. n is a number -/
theorem rng {v hi : Int32} {n : Nat} (hh : hi.toInt = n) (h : 0 ≤ v ∧ v ≤ hi) : ∃ k : Nat, k ≤ n ∧ v = nI k := nI_of2 hh (Int32.not_lt.mpr h.1) h.2
theorem rng_in {k n : Nat} (hk : k ≤ n) (hn : n < 2 ^ 31) : (0 : Int32) ≤ nI k ∧ nI k ≤ nI n := ⟨(nI_leI (a := 0) (by omega) (by omega)).mpr (by omega), (nI_leI (by omega) hn).mpr hk⟩
theorem one_ne : ¬ (1 : Int32) = 0 := by decide
/-- error(k): the count of its kind grows -/
theorem error_ok {m : xM2} {k : Nat} (hk : k < 7) : fm_X11_error 89 (nI k) (mk m) = some (-1000000000 - nI k, mk (sA m 93 (upd (m.1 93) k (m.1 93 k + 1)))) := by
  simp only [fm_X11_error, gR_89_4, Option.bind_some, ob2_some, if_true, if_false, reduceIte, al_93 m hk, as_93 m hk]
/-- carry: n numbers from one row to another -/
def cpy (f g : Nat → Int32) (n : Nat) : Nat → Int32 := fun i => if i < n then f i else g i
theorem cpy_succ {f g : Nat → Int32} {n : Nat} : upd (cpy f g n) n (f n) = cpy f g (n + 1) := by
  funext i
  unfold cpy upd
  by_cases h : i = n
  · subst h; simp
  · by_cases h2 : i < n
    · simp [h, h2, show i < n + 1 by omega]
    · simp [h, h2, show ¬ i < n + 1 by omega]
theorem carry_loop {m : xM2} {a b na nb N : Nat} (hab : a ≠ b) (ha : ∀ m : xM2, (mk m)[a]? = some (.inl (na, .inl (m.1 a)))) (hb : ∀ m : xM2, (mk m)[b]? = some (.inl (nb, .inl (m.1 b)))) (hs : ∀ (m : xM2) (f : Nat → Int32), (mk m).set b (.inl (nb, .inl f)) = mk (sA m b f)) (h1 : N ≤ na) (h2 : N ≤ nb) (h3 : na < 1000) (h4 : nb < 1000) :
    ∀ (j i n : Nat), i + j = N → j < n → fm_X11_carry_b2 n a b (nI N) (nI i) (mk (sA m b (cpy (m.1 a) (m.1 b) i))) = some (mk (sA m b (cpy (m.1 a) (m.1 b) N))) := by
  intro j
  induction j with
  | zero =>
    intro i n hi hn
    obtain ⟨n, rfl⟩ : ∃ n', n = n' + 1 := ⟨n - 1, by omega⟩
    have : i = N := by omega
    subst this
    unfold fm_X11_carry_b2
    rw [if_pos (Int32.le_refl _)]
  | succ j ih =>
    intro i n hi hn
    obtain ⟨n, rfl⟩ : ∃ n', n = n' + 1 := ⟨n - 1, by omega⟩
    unfold fm_X11_carry_b2
    rw [if_neg (nI_ge (by omega) (by omega)), hp_ald_at (ha _) (by omega) (by omega), Option.bind_some, hp_ast_at (hb _) (by omega) (by omega), Option.bind_some, hs, sA_sA, sA_n hab, sA_s, cpy_succ, nI_1]
    exact ih (i + 1) n (by omega) (by omega)
theorem cpy_0 {f g : Nat → Int32} : cpy f g 0 = g := by funext i; simp [cpy]
theorem sA_self {m : xM2} {a : Nat} : sA m a (m.1 a) = m := by
  unfold sA
  ext1
  · funext b
    by_cases h : b = a
    · subst h; simp
    · simp [h]
  · rfl
theorem layDown_ok {m : xM2} : fm_X11_layDown 89 (mk m) = some (mk (sA m 92 (cpy (m.1 90) (m.1 92) 181))) := by
  have h := carry_loop (m := m) (a := 90) (b := 92) (N := 181) (by decide) mA_90 mA_92 mS_92 (by decide) (by decide) (by decide) (by decide) 181 0 5000 rfl (by decide)
  rw [cpy_0, sA_self] at h
  unfold fm_X11_layDown fm_X11_carry
  simp only [gR_89_0, gR_89_2, Option.bind_some, ob2_some, if_true, if_false, reduceIte]
  rw [show (181 : Int32) = nI 181 from rfl, show (0 : Int32) = nI 0 from rfl, h]
  rfl
theorem layBack_ok {m : xM2} : fm_X11_layBack 89 (mk m) = some (mk (sA m 90 (cpy (m.1 92) (m.1 90) 181))) := by
  have h := carry_loop (m := m) (a := 92) (b := 90) (N := 181) (by decide) mA_92 mA_90 mS_90 (by decide) (by decide) (by decide) (by decide) 181 0 5000 rfl (by decide)
  rw [cpy_0, sA_self] at h
  unfold fm_X11_layBack fm_X11_carry
  simp only [gR_89_0, gR_89_2, Option.bind_some, ob2_some, if_true, if_false, reduceIte]
  rw [show (181 : Int32) = nI 181 from rfl, show (0 : Int32) = nI 0 from rfl, h]
  rfl
theorem ix_its {k w : Nat} : ((8 : Int32) + 4 * nI k) + nI w = nI (8 + 4 * k + w) := by
  show nI 8 + nI 4 * nI k + nI w = _
  rw [pk_mul, nI_add, nI_add]
theorem ix_of {t w : Nat} : ((88 : Int32) + 3 * nI t) + nI w = nI (88 + 3 * t + w) := by
  show nI 88 + nI 3 * nI t + nI w = _
  rw [pk_mul, nI_add, nI_add]
theorem its_ok {m : xM2} {k w : Nat} (hk : k < 20) (hw : w < 4) : fm_X11_its 89 (nI k) (nI w) (mk m) = some (m.1 90 (8 + 4 * k + w)) := by
  simp only [fm_X11_its, gR_89_0, Option.bind_some, ob2_some, if_true, if_false, reduceIte, ix_its, al_90 m (show 8 + 4 * k + w < 515 by omega)]
theorem of_ok {m : xM2} {t w : Nat} (ht : t < 31) (hw : w < 3) : fm_X11_of 89 (nI t) (nI w) (mk m) = some (m.1 90 (88 + 3 * t + w)) := by
  simp only [fm_X11_of, gR_89_0, Option.bind_some, ob2_some, if_true, if_false, reduceIte, ix_of, al_90 m (show 88 + 3 * t + w < 515 by omega)]
theorem its0 {m : xM2} {k : Nat} (hk : k < 20) : fm_X11_its 89 (nI k) 0 (mk m) = some (m.1 90 (8 + 4 * k)) := its_ok hk (w := 0) (by decide)
theorem its1 {m : xM2} {k : Nat} (hk : k < 20) : fm_X11_its 89 (nI k) 1 (mk m) = some (m.1 90 (8 + 4 * k + 1)) := its_ok hk (w := 1) (by decide)
theorem its2 {m : xM2} {k : Nat} (hk : k < 20) : fm_X11_its 89 (nI k) 2 (mk m) = some (m.1 90 (8 + 4 * k + 2)) := its_ok hk (w := 2) (by decide)
theorem its3 {m : xM2} {k : Nat} (hk : k < 20) : fm_X11_its 89 (nI k) 3 (mk m) = some (m.1 90 (8 + 4 * k + 3)) := its_ok hk (w := 3) (by decide)
theorem of0 {m : xM2} {t : Nat} (ht : t < 31) : fm_X11_of 89 (nI t) 0 (mk m) = some (m.1 90 (88 + 3 * t)) := of_ok ht (w := 0) (by decide)
theorem of1 {m : xM2} {t : Nat} (ht : t < 31) : fm_X11_of 89 (nI t) 1 (mk m) = some (m.1 90 (88 + 3 * t + 1)) := of_ok ht (w := 1) (by decide)
theorem of2 {m : xM2} {t : Nat} (ht : t < 31) : fm_X11_of 89 (nI t) 2 (mk m) = some (m.1 90 (88 + 3 * t + 2)) := of_ok ht (w := 2) (by decide)
/-- a thread is missing, in a row -/
def gn (s : Nat → Int32) (t : Nat) : Bool := decide (s (88 + 3 * t) = 0)
theorem isMissing_ok {m : xM2} {t : Nat} (ht : t < 31) : fm_X11_isMissing 89 (nI t) (mk m) = some (if gn (m.1 90) t then 1 else 0) := by
  simp only [fm_X11_isMissing, his_89, Option.bind_some, ob2_some, if_true, if_false, reduceIte, of0 ht, gn]
  by_cases h : m.1 90 (88 + 3 * t) = 0 <;> simp [h]
/-- how many of the t < n have p t -/
def cnt (p : Nat → Bool) : Nat → Nat
  | 0 => 0
  | n + 1 => cnt p n + (if p n then 1 else 0)
theorem cnt_le {p : Nat → Bool} : ∀ n, cnt p n ≤ n
  | 0 => Nat.le_refl _
  | n + 1 => by
    have := cnt_le (p := p) n
    rw [cnt]
    split <;> omega
def goneS (s : Nat → Int32) : Int32 := enc (gn s) 31
theorem missing_ok {m : xM2} : fm_X11_missing 89 (mk m) = some (nI (cnt (gn (m.1 90)) 31)) := by
  have key : ∀ (j i n : Nat), i + j = 31 → j < n → fm_X11_missing_b4 n 89 (nI (cnt (gn (m.1 90)) i)) (nI i) (mk m) = some (nI (cnt (gn (m.1 90)) 31)) := by
    intro j
    induction j with
    | zero =>
      intro i n hi hn
      obtain ⟨n, rfl⟩ : ∃ n', n = n' + 1 := ⟨n - 1, by omega⟩
      have : i = 31 := by omega
      subst this
      unfold fm_X11_missing_b4
      rw [if_pos le31]
    | succ j ih =>
      intro i n hi hn
      obtain ⟨n, rfl⟩ : ∃ n', n = n' + 1 := ⟨n - 1, by omega⟩
      unfold fm_X11_missing_b4
      rw [if_neg (n31 (by omega)), if_pos (his_89 m), isMissing_ok (by omega), Option.bind_some, nI_1]
      have e : nI (cnt (gn (m.1 90)) i) + (if (if gn (m.1 90) i = true then (1 : Int32) else 0) = 0 then 0 else 1) = nI (cnt (gn (m.1 90)) (i + 1)) := by
        rw [cnt]
        by_cases h : gn (m.1 90) i = true
        · simp only [h, if_true]
          rw [if_neg one_ne, nI_1]
        · simp [h]
      rw [e]
      exact ih (i + 1) n (by omega) (by omega)
  exact key 31 0 5000 rfl (by decide)
theorem gone_ok {m : xM2} : fm_X11_gone 89 (mk m) = some (goneS (m.1 90)) := by
  have key : ∀ (j i n : Nat), i + j = 31 → j < n → fm_X11_gone_b4 n 89 (enc (gn (m.1 90)) i) (nI i) (mk m) = some (goneS (m.1 90)) := by
    intro j
    induction j with
    | zero =>
      intro i n hi hn
      obtain ⟨n, rfl⟩ : ∃ n', n = n' + 1 := ⟨n - 1, by omega⟩
      have : i = 31 := by omega
      subst this
      unfold fm_X11_gone_b4
      rw [if_pos le31]
      rfl
    | succ j ih =>
      intro i n hi hn
      obtain ⟨n, rfl⟩ : ∃ n', n = n' + 1 := ⟨n - 1, by omega⟩
      unfold fm_X11_gone_b4
      rw [if_neg (n31 (by omega)), if_pos (his_89 m), isMissing_ok (by omega), Option.bind_some, nI_1]
      have e : (enc (gn (m.1 90)) i) ||| (if (if gn (m.1 90) i = true then (1 : Int32) else 0) = 0 then 0 else ji_shl 1 (nI i)) = enc (gn (m.1 90)) (i + 1) := by
        rw [enc]
        by_cases h : gn (m.1 90) i = true
        · simp only [h, if_true]
          rw [if_neg one_ne]
        · simp [h]
      rw [e]
      exact ih (i + 1) n (by omega) (by omega)
  exact key 31 0 5000 rfl (by decide)
