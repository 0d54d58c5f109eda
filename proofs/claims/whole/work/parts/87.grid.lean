/-! THREADS AS A GRAPH -/
def at_ (k t : Nat) : Bool := decide (kL t = k) || decide (kR t = k)
def deg (x : Int32) (k : Nat) : Nat := cnt (fun t => bt x t && at_ k t) 31
theorem ends_eq : ∀ t, t < 31 → ∀ k, k < 20 → fm_X11_ends (nI t) (nI k) = if at_ k t then 1 else 0 := by decide +kernel
theorem bt_ends : ∀ t, t < 31 → ∀ j, j < 32 → bt (fm_X0_endsOf (nI t)) j = at_ j t := by decide +kernel
theorem both_eq : ∀ t, t < 31 → ji_shl 1 (fm_X11_lessOf (nI t)) ||| ji_shl 1 (fm_X11_otherOf (nI t)) = fm_X0_endsOf (nI t) := by decide +kernel
theorem ends_cnt : ∀ t, t < 31 → cnt (bt (fm_X0_endsOf (nI t))) 32 = 2 := by decide +kernel
theorem at_big : ∀ t, t < 31 → ∀ k, 20 ≤ k → at_ k t = false := by
  intro t ht k hk
  have h1 := kL_lt t ht
  have h2 := kR_lt t ht
  unfold at_
  simp
  omega
def tch (kn : Int32) (t : Nat) : Bool := bt kn (kL t) || bt kn (kR t)
theorem ends_and {t : Nat} (ht : t < 31) (kn : Int32) : (fm_X0_endsOf (nI t) &&& kn = 0) ↔ tch kn t = false := by
  have h1 := kL_lt t ht
  have h2 := kR_lt t ht
  constructor
  · intro q
    have a : bt (fm_X0_endsOf (nI t) &&& kn) (kL t) = false := by rw [q, b_0]
    have b : bt (fm_X0_endsOf (nI t) &&& kn) (kR t) = false := by rw [q, b_0]
    rw [b_and, bt_ends t ht _ (by omega)] at a b
    unfold tch
    simp [at_] at a b
    simp [a, b]
  · intro q
    unfold tch at q
    apply b_ext
    intro i hi
    rw [b_and, bt_ends t ht i hi, b_0]
    unfold at_
    by_cases e1 : kL t = i
    · subst e1
      simp at q
      simp [q.1]
    · by_cases e2 : kR t = i
      · subst e2
        simp at q
        simp [q.2]
      · simp [e1, e2]
theorem and_com (x y : Int32) : x &&& y = y &&& x := by
  apply b_ext
  intro i _
  rw [b_and, b_and, Bool.and_comm]
theorem endsAt_ok {x : Int32} {k : Nat} (hk : k < 20) (H : qx_H) : fm_X11_endsAt x (nI k) H = some (nI (deg x k)) := by
  have key : ∀ (j i n : Nat), i + j = 31 → j < n → fm_X11_endsAt_b4 n x (nI k) (nI (cnt (fun t => bt x t && at_ k t) i)) (nI i) H = some (nI (deg x k)) := by
    intro j
    induction j with
    | zero =>
      intro i n hi hn
      obtain ⟨n, rfl⟩ : ∃ n', n = n' + 1 := ⟨n - 1, by omega⟩
      have : i = 31 := by omega
      subst this
      rw [fm_X11_endsAt_b4, if_pos le31]
      rfl
    | succ j ih =>
      intro i n hi hn
      obtain ⟨n, rfl⟩ : ∃ n', n = n' + 1 := ⟨n - 1, by omega⟩
      have := ih (i + 1) n (by omega) (by omega)
      rw [cnt] at this
      rw [fm_X11_endsAt_b4, if_neg (n31 (by omega)), isIn_eq (by omega)]
      cases e1 : bt x i
      · rw [if_pos (by decide)]
        simp only [fm_X11_endsAt_b31, fm_X11_endsAt_b32, nI_1]
        simpa [e1, nI_add] using this
      · rw [if_pos rfl, if_neg one_ne, ends_eq i (by omega) k hk, nI_1]
        cases e2 : at_ k i
        · simpa [e1, e2] using this
        · simpa [e1, e2, nI_1] using this
  exact key 31 0 5000 (by omega) (by omega)
def thr (x kn : Int32) : Int32 := enc (fun t => bt x t && tch kn t) 31
theorem bt_thr {x kn : Int32} {t : Nat} (ht : t < 31) : bt (thr x kn) t = (bt x t && tch kn t) := by
  unfold thr
  rw [bt_enc (by decide) (by omega)]
  simp [ht]
theorem lo_thr (x kn : Int32) : lo 31 (thr x kn) := lo_enc (by decide)
theorem thr_ok {x kn : Int32} (H : qx_H) : fm_X0_threadsAt x kn H = some (thr x kn) := by
  have key : ∀ (j i n : Nat), i + j = 31 → j < n → fm_X0_threadsAt_b4 n x kn (enc (fun t => bt x t && tch kn t) i) (nI i) H = some (thr x kn) := by
    intro j
    induction j with
    | zero =>
      intro i n hi hn
      obtain ⟨n, rfl⟩ : ∃ n', n = n' + 1 := ⟨n - 1, by omega⟩
      have : i = 31 := by omega
      subst this
      rw [fm_X0_threadsAt_b4, if_pos le31]
      rfl
    | succ j ih =>
      intro i n hi hn
      obtain ⟨n, rfl⟩ : ∃ n', n = n' + 1 := ⟨n - 1, by omega⟩
      have := ih (i + 1) n (by omega) (by omega)
      have hi31 : i < 31 := by omega
      rw [enc] at this
      have z : ∀ y : Int32, y ||| 0 = y := fun y => b_ext fun i _ => by rw [b_or, b_0, Bool.or_false]
      rw [fm_X0_threadsAt_b4, if_neg (n31 hi31)]
      cases e1 : bt x i
      · rw [if_pos ((bt_in0 (by omega) x).mpr e1), fm_X0_threadsAt_b33, nI_1]
        simpa [e1, z] using this
      · rw [if_neg (fun q => by rw [bt_in0 (by omega), e1] at q; cases q), fm_X0_threadsAt_b33, nI_1]
        cases e2 : tch kn i
        · rw [if_pos ((ends_and hi31 kn).mpr e2)]
          simpa [e1, e2, z] using this
        · rw [if_neg (fun q => by rw [ends_and hi31 kn, e2] at q; cases q)]
          simpa [e1, e2] using this
  exact key 31 0 5000 (by omega) (by omega)
/-- odd knots -/
def oddE (x : Int32) : Nat → Int32
  | 0 => 0
  | n + 1 => oddE x n ^^^ (if bt x n then fm_X0_endsOf (nI n) else 0)
theorem bt_oddE (x : Int32) {j : Nat} (hj : j < 32) : ∀ n, n ≤ 31 → bt (oddE x n) j = decide (cnt (fun t => bt x t && at_ j t) n % 2 = 1)
  | 0, _ => by rw [oddE, b_0]; rfl
  | n + 1, hn => by
    rw [oddE, b_xor, bt_oddE x hj n (by omega), cnt]
    cases e1 : bt x n
    · simp [b_0]
    · rw [if_pos rfl, bt_ends n (by omega) j hj]
      cases e2 : at_ j n
      · simp
      · simp
        rcases Nat.mod_two_eq_zero_or_one (cnt (fun t => bt x t && at_ j t) n) with q | q <;> simp [q, Nat.add_mod]
theorem odd_ok {x : Int32} (H : qx_H) : fm_X0_oddKnots x H = some (oddE x 31) := by
  have key : ∀ (j i n : Nat), i + j = 31 → j < n → fm_X0_oddKnots_b4 n x (oddE x i) (nI i) H = some (oddE x 31) := by
    intro j
    induction j with
    | zero =>
      intro i n hi hn
      obtain ⟨n, rfl⟩ : ∃ n', n = n' + 1 := ⟨n - 1, by omega⟩
      have : i = 31 := by omega
      subst this
      rw [fm_X0_oddKnots_b4, if_pos le31]
    | succ j ih =>
      intro i n hi hn
      obtain ⟨n, rfl⟩ : ∃ n', n = n' + 1 := ⟨n - 1, by omega⟩
      have := ih (i + 1) n (by omega) (by omega)
      rw [oddE] at this
      rw [fm_X0_oddKnots_b4, if_neg (n31 (by omega))]
      cases e1 : bt x i
      · rw [if_pos ((bt_in0 (by omega) x).mpr e1), fm_X0_oddKnots_b27, nI_1]
        simpa [e1] using this
      · rw [if_neg (fun q => by rw [bt_in0 (by omega), e1] at q; cases q), fm_X0_oddKnots_b27, nI_1]
        simpa [e1] using this
  exact key 31 0 5000 (by omega) (by omega)
theorem cnt_xor {p q : Nat → Bool} : ∀ n, cnt (fun i => p i ^^ q i) n % 2 = (cnt p n + cnt q n) % 2
  | 0 => rfl
  | n + 1 => by
    have := cnt_xor (p := p) (q := q) n
    rw [cnt, cnt, cnt]
    cases p n <;> cases q n <;> simp <;> omega
theorem cnt_0 {p : Nat → Bool} : ∀ n, (∀ i, i < n → p i = false) → cnt p n = 0
  | 0, _ => rfl
  | n + 1, h => by rw [cnt, cnt_0 n (fun i hi => h i (by omega)), h n (by omega)]; rfl
theorem odd_even (x : Int32) : ∀ n, n ≤ 31 → cnt (bt (oddE x n)) 32 % 2 = 0
  | 0, _ => by rw [oddE, cnt_0 32 fun i _ => b_0 i]
  | n + 1, hn => by
    have e : ∀ i, i < 32 → bt (oddE x (n + 1)) i = (bt (oddE x n) i ^^ bt (if bt x n then fm_X0_endsOf (nI n) else 0) i) := fun i _ => by rw [oddE, b_xor]
    rw [cnt_cong e, cnt_xor]
    have h := odd_even x n (by omega)
    cases bt x n
    · rw [if_neg (by decide), cnt_0 (p := bt 0) 32 fun i _ => b_0 i]
      omega
    · rw [if_pos rfl, ends_cnt n (by omega)]
      omega
def nOdd (x : Int32) : Nat := cnt (fun k => decide (deg x k % 2 = 1)) 20
theorem deg_big (x : Int32) {k : Nat} (hk : 20 ≤ k) : deg x k = 0 := cnt_0 31 fun t ht => by rw [at_big t ht k hk, Bool.and_false]
theorem cnt_more {p : Nat → Bool} {a : Nat} : ∀ n, (∀ i, a ≤ i → i < a + n → p i = false) → cnt p (a + n) = cnt p a
  | 0, _ => rfl
  | n + 1, h => by rw [show a + (n + 1) = (a + n) + 1 from rfl, cnt, cnt_more n (fun i h1 h2 => h i h1 (by omega)), h (a + n) (by omega) (by omega)]; rfl
theorem odd_bits (x : Int32) : cnt (bt (oddE x 31)) 32 = nOdd x := by
  rw [cnt_cong (p := bt (oddE x 31)) (q := fun k => decide (deg x k % 2 = 1)) fun j hj => bt_oddE x hj 31 (by decide)]
  exact cnt_more (a := 20) 12 fun i h1 _ => by rw [deg_big x h1]; rfl
theorem nOdd_even (x : Int32) : nOdd x % 2 = 0 := by rw [← odd_bits]; exact odd_even x 31 (by decide)
theorem oddOnes_ok {x : Int32} (H : qx_H) : fm_X11_oddOnes x H = some (nI (nOdd x)) := by
  have key : ∀ (j i n : Nat), i + j = 20 → j < n → fm_X11_oddOnes_b4 n x (nI (cnt (fun k => decide (deg x k % 2 = 1)) i)) (nI i) H = some (nI (nOdd x)) := by
    intro j
    induction j with
    | zero =>
      intro i n hi hn
      obtain ⟨n, rfl⟩ : ∃ n', n = n' + 1 := ⟨n - 1, by omega⟩
      have : i = 20 := by omega
      subst this
      rw [fm_X11_oddOnes_b4, if_pos le20]
      rfl
    | succ j ih =>
      intro i n hi hn
      obtain ⟨n, rfl⟩ : ∃ n', n = n' + 1 := ⟨n - 1, by omega⟩
      have := ih (i + 1) n (by omega) (by omega)
      rw [cnt] at this
      have hd : deg x i ≤ 31 := cnt_le 31
      have r : ji_rem (nI (deg x i)) 2 = nI (deg x i % 2) := pk_rem (d := 2) (by omega) (by decide) (by decide)
      rw [fm_X11_oddOnes_b4, if_neg (n20 (by omega)), endsAt_ok (by omega), Option.bind_some, r, nI_add, nI_1]
      rcases Nat.mod_two_eq_zero_or_one (deg x i) with q | q <;> simpa [q] using this
  exact key 20 0 5000 (by omega) (by omega)
/-- what can be reached -/
def swp (J : Nat → Int32) (x r : Int32) : Nat → Int32
  | 0 => r
  | n + 1 => if bt x n then swp J x r n ||| (if swp J x r n &&& J n = 0 then 0 else J n) else swp J x r n
def itr (J : Nat → Int32) (x r : Int32) : Nat → Int32
  | 0 => r
  | n + 1 => swp J x (itr J x r n) 31
theorem spread_in {J : Nat → Int32} {x r o l5 : Int32} {k5 : Int32 → Int32 → Int32 → Int32 → qx_H → Option Int32} {l4 : Int32} (hJ : ∀ t, t < 31 → (if o = 0 then fm_X0_endsOf (nI t) else fm_X0_meshesBeside (nI t)) = J t) (H : qx_H) :
    ∀ (j i n : Nat), i + j = 31 → j < n → fm_X0_spread_b18 k5 n x o (swp J x r i) l4 l5 (nI i) H = if swp J x r 31 = l5 then some (swp J x r 31) else k5 x o (swp J x r 31) (l4 + 1) H := by
  intro j
  induction j with
  | zero =>
    intro i n hi hn
    obtain ⟨n, rfl⟩ : ∃ n', n = n' + 1 := ⟨n - 1, by omega⟩
    have : i = 31 := by omega
    subst this
    rw [fm_X0_spread_b18, if_pos le31]
  | succ j ih =>
    intro i n hi hn
    obtain ⟨n, rfl⟩ : ∃ n', n = n' + 1 := ⟨n - 1, by omega⟩
    have := ih (i + 1) n (by omega) (by omega)
    rw [swp] at this
    have hj := hJ i (by omega)
    rw [fm_X0_spread_b18, if_neg (n31 (by omega))]
    cases e1 : bt x i
    · rw [if_pos ((bt_in0 (by omega) x).mpr e1), fm_X0_spread_b69, nI_1]
      rw [e1, if_neg (by decide)] at this
      exact this
    · rw [if_neg (fun q => by rw [bt_in0 (by omega), e1] at q; cases q)]
      rw [e1, if_pos rfl] at this
      by_cases e : o = 0
      · rw [if_pos e] at hj
        rw [if_pos e, hj, fm_X0_spread_b51, fm_X0_spread_b69, nI_1]
        exact this
      · rw [if_neg e] at hj
        rw [if_neg e, hj, fm_X0_spread_b51, fm_X0_spread_b69, nI_1]
        exact this
theorem itr_stop {J : Nat → Int32} {x r : Int32} {i : Nat} (h : itr J x r (i + 1) = itr J x r i) : ∀ n, i ≤ n → itr J x r n = itr J x r i := by
  intro n hn
  obtain ⟨d, rfl⟩ : ∃ d, n = i + d := ⟨n - i, by omega⟩
  clear hn
  induction d with
  | zero => rfl
  | succ d ih =>
    show swp J x (itr J x r (i + d)) 31 = _
    rw [ih]
    exact h
def clo (J : Nat → Int32) (x r : Int32) : Int32 := itr J x r 31
theorem spread_ok {J : Nat → Int32} {x r o : Int32} (hJ : ∀ t, t < 31 → (if o = 0 then fm_X0_endsOf (nI t) else fm_X0_meshesBeside (nI t)) = J t) (H : qx_H) : fm_X0_spread x r o H = some (clo J x r) := by
  have key : ∀ (j i n : Nat), i + j = 31 → j < n → fm_X0_spread_b5 n x o (itr J x r i) (nI i) H = some (clo J x r) := by
    intro j
    induction j with
    | zero =>
      intro i n hi hn
      obtain ⟨n, rfl⟩ : ∃ n', n = n' + 1 := ⟨n - 1, by omega⟩
      have : i = 31 := by omega
      subst this
      rw [fm_X0_spread_b5, if_pos le31]
      rfl
    | succ j ih =>
      intro i n hi hn
      obtain ⟨n, rfl⟩ : ∃ n', n = n' + 1 := ⟨n - 1, by omega⟩
      have := ih (i + 1) n (by omega) (by omega)
      have sp := spread_in (x := x) (r := itr J x r i) (l5 := itr J x r i) (k5 := fm_X0_spread_b5 n) (l4 := nI i) hJ H 31 0 5000 (by omega) (by omega)
      rw [show swp J x (itr J x r i) 0 = itr J x r i from rfl, show nI 0 = 0 from rfl] at sp
      rw [fm_X0_spread_b5, if_neg (n31 (by omega)), sp]
      by_cases e : swp J x (itr J x r i) 31 = itr J x r i
      · rw [if_pos e]
        have st := itr_stop (J := J) (x := x) (r := r) (i := i) e 31 (by omega)
        rw [e]
        unfold clo
        rw [st]
      · rw [if_neg e, nI_1]
        exact this
  exact key 31 0 5000 (by omega) (by omega)
/-! CLOSED SETS -/
def sub (a b : Int32) : Prop := ∀ i, i < 32 → bt a i = true → bt b i = true
theorem sub.rf {a : Int32} : sub a a := fun _ _ h => h
theorem sub.tr {a b c : Int32} (h : sub a b) (g : sub b c) : sub a c := fun i hi q => g i hi (h i hi q)
theorem sub.as {a b : Int32} (h : sub a b) (g : sub b a) : a = b := b_ext fun i hi => by
  cases q : bt a i
  · cases w : bt b i
    · rfl
    · rw [g i hi w] at q; cases q
  · exact (h i hi q).symm
theorem swp_up {J : Nat → Int32} {x r : Int32} : ∀ n, sub (swp J x r n) (swp J x r (n + 1))
  | n => fun i hi q => by
    rw [swp]
    split
    · rw [b_or, q]; rfl
    · exact q
theorem swp_le {J : Nat → Int32} {x r : Int32} {a : Nat} : ∀ d, sub (swp J x r a) (swp J x r (a + d))
  | 0 => sub.rf
  | d + 1 => (swp_le d).tr (swp_up (a + d))
theorem itr_up {J : Nat → Int32} {x r : Int32} (n : Nat) : sub (itr J x r n) (itr J x r (n + 1)) := swp_le (a := 0) 31
theorem itr_le {J : Nat → Int32} {x r : Int32} {a : Nat} : ∀ d, sub (itr J x r a) (itr J x r (a + d))
  | 0 => sub.rf
  | d + 1 => (itr_le d).tr (itr_up (a + d))
theorem swp_lo {J : Nat → Int32} {x r : Int32} (hJ : ∀ t, t < 31 → lo 31 (J t)) (h : lo 31 r) : ∀ n, n ≤ 31 → lo 31 (swp J x r n)
  | 0, _ => h
  | n + 1, hn => fun i hi h1 => by
    rw [swp]
    have a := swp_lo (x := x) hJ h n (by omega) i hi h1
    split
    · rw [b_or, a]
      split
      · rw [b_0]; rfl
      · rw [hJ n (by omega) i hi h1]; rfl
    · exact a
theorem itr_lo {J : Nat → Int32} {x r : Int32} (hJ : ∀ t, t < 31 → lo 31 (J t)) (h : lo 31 r) : ∀ n, lo 31 (itr J x r n)
  | 0 => h
  | n + 1 => swp_lo hJ (itr_lo hJ h n) 31 (by decide)
theorem cnt_mono {p q : Nat → Bool} : ∀ n, (∀ i, i < n → p i = true → q i = true) → cnt p n ≤ cnt q n
  | 0, _ => Nat.le_refl _
  | n + 1, h => by
    have := cnt_mono n (fun i hi => h i (by omega))
    rw [cnt, cnt]
    cases e : p n
    · simp; omega
    · rw [h n (by omega) e]; simp; omega
theorem cnt_lt {p q : Nat → Bool} : ∀ n, (∀ i, i < n → p i = true → q i = true) → (∃ i, i < n ∧ p i = false ∧ q i = true) → cnt p n < cnt q n
  | 0, _, ⟨i, h, _⟩ => absurd h (by omega)
  | n + 1, h, ⟨i, h1, h2, h3⟩ => by
    rw [cnt, cnt]
    by_cases e : i = n
    · subst e
      have := cnt_mono i (fun j hj => h j (by omega))
      rw [h2, h3]; simp; omega
    · have := cnt_lt n (fun j hj => h j (by omega)) ⟨i, by omega, h2, h3⟩
      cases e : p n
      · simp; omega
      · rw [h n (by omega) e]; simp; omega
theorem cnt_full {p : Nat → Bool} : ∀ n, n ≤ cnt p n → ∀ i, i < n → p i = true
  | 0, _, i, hi => absurd hi (by omega)
  | n + 1, h, i, hi => by
    rw [cnt] at h
    have := cnt_le (p := p) n
    cases e : p n
    · rw [e] at h
      simp at h
      omega
    · by_cases q : i = n
      · rw [q]; exact e
      · rw [e] at h
        simp at h
        exact cnt_full n h i (by omega)
theorem sub_ne {a b : Int32} (h : sub a b) (ha : lo 31 a) (hb : lo 31 b) (hne : ¬ b = a) : cnt (bt a) 31 < cnt (bt b) 31 := by
  refine cnt_lt 31 (fun i hi => h i (by omega)) ?_
  apply Classical.byContradiction
  intro q
  apply hne
  refine (sub.as h fun i hi w => ?_).symm
  cases e : bt a i
  · rcases Nat.lt_or_ge i 31 with z | z
    · exact absurd ⟨i, z, e, w⟩ q
    · rw [hb i hi z] at w; cases w
  · rfl
theorem itr_fix {J : Nat → Int32} {x r : Int32} (hJ : ∀ t, t < 31 → lo 31 (J t)) (h : lo 31 r) : itr J x r 32 = itr J x r 31 := by
  have key : ∀ n, n ≤ cnt (bt (itr J x r n)) 31 ∨ ∃ i, i < n ∧ itr J x r (i + 1) = itr J x r i := by
    intro n
    induction n with
    | zero => exact Or.inl (Nat.zero_le _)
    | succ n ih =>
      rcases ih with q | ⟨i, q1, q2⟩
      · by_cases e : itr J x r (n + 1) = itr J x r n
        · exact Or.inr ⟨n, by omega, e⟩
        · have := sub_ne (itr_up n) (itr_lo hJ h n) (itr_lo hJ h (n + 1)) e
          exact Or.inl (by omega)
      · exact Or.inr ⟨i, by omega, q2⟩
  rcases key 31 with q | ⟨i, q1, q2⟩
  · have full := cnt_full 31 q
    refine (sub.as (itr_up 31) fun i hi w => ?_).symm
    rcases Nat.lt_or_ge i 31 with z | z
    · exact full i z
    · rw [itr_lo hJ h 32 i hi z] at w; cases w
  · rw [itr_stop q2 32 (by omega), itr_stop q2 31 (by omega)]
theorem clo_fix {J : Nat → Int32} {x r : Int32} (hJ : ∀ t, t < 31 → lo 31 (J t)) (h : lo 31 r) {n : Nat} (hn : n ≤ 31) : swp J x (clo J x r) n = clo J x r := by
  have e : swp J x (clo J x r) 31 = clo J x r := itr_fix hJ h
  obtain ⟨d, hd⟩ : ∃ d, 31 = n + d := ⟨31 - n, by omega⟩
  have u := swp_le (J := J) (x := x) (r := clo J x r) (a := n) d
  rw [← hd, e] at u
  have v := swp_le (J := J) (x := x) (r := clo J x r) (a := 0) n
  rw [Nat.zero_add] at v
  exact u.as v
theorem clo_from {J : Nat → Int32} {x r : Int32} : sub r (clo J x r) := by
  have := itr_le (J := J) (x := x) (r := r) (a := 0) 31
  rwa [Nat.zero_add] at this
theorem clo_closed {J : Nat → Int32} {x r : Int32} (hJ : ∀ t, t < 31 → lo 31 (J t)) (h : lo 31 r) {t : Nat} (ht : t < 31) (hx : bt x t = true) (hc : ¬ clo J x r &&& J t = 0) : sub (J t) (clo J x r) := by
  have e := clo_fix (x := x) hJ h (n := t + 1) (by omega)
  rw [swp, hx, if_pos rfl, clo_fix hJ h (by omega), if_neg hc] at e
  intro i hi q
  rw [← e, b_or, q, Bool.or_true]
theorem swp_least {J : Nat → Int32} {x r D : Int32} (hr : sub r D) (hD : ∀ t, t < 31 → bt x t = true → ¬ D &&& J t = 0 → sub (J t) D) : ∀ n, n ≤ 31 → sub (swp J x r n) D
  | 0, _ => hr
  | n + 1, hn => fun i hi q => by
    have a := swp_least hr hD n (by omega)
    rw [swp] at q
    split at q
    · rename_i hx
      rw [b_or] at q
      cases w : bt (swp J x r n) i
      · rw [w, Bool.false_or] at q
        split at q
        · rw [b_0] at q; cases q
        · rename_i nz
          refine hD n (by omega) hx ?_ i hi q
          obtain ⟨k, k1, k2⟩ := ne0_iff.mp nz
          refine ne0_iff.mpr ⟨k, k1, ?_⟩
          rw [b_and, Bool.and_eq_true] at k2 ⊢
          exact ⟨a k k1 k2.1, k2.2⟩
      · exact a i hi w
    · exact a i hi q
theorem clo_least {J : Nat → Int32} {x r D : Int32} (hr : sub r D) (hD : ∀ t, t < 31 → bt x t = true → ¬ D &&& J t = 0 → sub (J t) D) : sub (clo J x r) D := by
  have : ∀ n, sub (itr J x r n) D := by
    intro n
    induction n with
    | zero => exact hr
    | succ n ih => exact swp_least ih hD 31 (by decide)
  exact this 31
