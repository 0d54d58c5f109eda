/-! BITS (the family bt .. b_sshr is the kit's starting text) -/
def bt (x : Int32) (i : Nat) : Bool := x.toBitVec.getLsbD i
theorem b_ext {x y : Int32} (h : ∀ i, i < 32 → bt x i = bt y i) : x = y := Int32.toBitVec_inj.mp (BitVec.eq_of_getLsbD_eq (fun i hi => h i hi))
theorem b_or (x y : Int32) (i : Nat) : bt (x ||| y) i = (bt x i || bt y i) := by unfold bt; rw [Int32.toBitVec_or, BitVec.getLsbD_or]
theorem b_and (x y : Int32) (i : Nat) : bt (x &&& y) i = (bt x i && bt y i) := by unfold bt; rw [Int32.toBitVec_and, BitVec.getLsbD_and]
theorem b_xor (x y : Int32) (i : Nat) : bt (x ^^^ y) i = (bt x i ^^ bt y i) := by unfold bt; rw [Int32.toBitVec_xor, BitVec.getLsbD_xor]
theorem b_big {x : Int32} {i : Nat} (h : 32 ≤ i) : bt x i = false := BitVec.getLsbD_of_ge _ _ h
theorem b_255 (i : Nat) : bt 255 i = decide (i < 8) := by
  rcases Nat.lt_or_ge i 32 with h | h
  · exact (by decide +kernel : ∀ i, i < 32 → bt 255 i = decide (i < 8)) i h
  · rw [b_big h, decide_eq_false (by omega)]
theorem b_65535 (i : Nat) : bt 65535 i = decide (i < 16) := by
  rcases Nat.lt_or_ge i 32 with h | h
  · exact (by decide +kernel : ∀ i, i < 32 → bt 65535 i = decide (i < 16)) i h
  · rw [b_big h, decide_eq_false (by omega)]
theorem b_m1 : ∀ i, i < 32 → bt (-1) i = true := by decide +kernel
theorem b_0 (i : Nat) : bt 0 i = false := BitVec.getLsbD_zero
theorem s_l : ∀ n, n < 32 → ((nI n &&& 31).toBitVec.smod 32).toNat = n := by decide +kernel
theorem s_u : ∀ n, n < 32 → (((nI n).toUInt32 &&& Int32.toUInt32 31).toBitVec % 32).toNat = n := by decide +kernel
theorem b_shl (n : Nat) (hn : n < 32) (x : Int32) {i : Nat} (hi : i < 32) : bt (x <<< (nI n &&& 31)) i = (decide (n ≤ i) && bt x (i - n)) := by
  unfold bt
  rw [Int32.toBitVec_shiftLeft]
  show (x.toBitVec <<< ((nI n &&& 31).toBitVec.smod 32).toNat).getLsbD i = _
  rw [s_l n hn, BitVec.getLsbD_shiftLeft]
  rcases Nat.lt_or_ge i n with h | h
  · simp [h, Nat.not_le.mpr h]
  · simp [hi, h, Nat.not_lt.mpr h]
theorem b_ushr (n : Nat) (hn : n < 32) (x : Int32) (i : Nat) : bt ((x.toUInt32 >>> ((nI n).toUInt32 &&& Int32.toUInt32 31)).toInt32) i = bt x (n + i) := by
  show (x.toUInt32 >>> ((nI n).toUInt32 &&& Int32.toUInt32 31)).toBitVec.getLsbD i = x.toUInt32.toBitVec.getLsbD (n + i)
  rw [UInt32.toBitVec_shiftRight]
  show (x.toUInt32.toBitVec >>> (((nI n).toUInt32 &&& Int32.toUInt32 31).toBitVec % 32).toNat).getLsbD i = _
  rw [s_u n hn, BitVec.getLsbD_ushiftRight]
theorem b_sshr (n : Nat) (hn : n < 32) (x : Int32) {i : Nat} (hi : i < 32) : bt (x >>> (nI n &&& 31)) i = if n + i < 32 then bt x (n + i) else bt x 31 := by
  unfold bt
  rw [Int32.toBitVec_shiftRight]
  show (x.toBitVec.sshiftRight ((nI n &&& 31).toBitVec.smod 32).toNat).getLsbD i = _
  rw [s_l n hn, BitVec.getLsbD_sshiftRight, BitVec.msb_eq_getLsbD_last]
  simp [hi]
theorem bt_or (x y : Int32) (i : Nat) : bt (x ||| y) i = (bt x i || bt y i) := b_or x y i
theorem bt_ushr {n : Nat} (hn : n < 32) (x : Int32) (i : Nat) : bt (ji_ushr x (nI n)) i = bt x (n + i) := b_ushr n hn x i
theorem bt_1 : ∀ i, i < 32 → bt 1 i = decide (i = 0) := by decide +kernel
theorem bt_shl1 {n i : Nat} (hn : n < 32) (hi : i < 32) : bt (ji_shl 1 (nI n)) i = decide (i = n) := by
  unfold ji_shl
  rw [b_shl n hn 1 hi]
  by_cases h : n ≤ i
  · rw [bt_1 _ (by omega), decide_eq_true h]
    by_cases h2 : i = n
    · subst h2; simp
    · simp [h2]; omega
  · have : ¬ i = n := by omega
    simp [h, this]
theorem bt_not (x : Int32) {i : Nat} (hi : i < 32) : bt (x ^^^ (-1)) i = !bt x i := by
  rw [b_xor, b_m1 i hi]
  simp
theorem bt_and1 (x : Int32) : x &&& 1 = if bt x 0 then 1 else 0 := by
  apply b_ext
  intro i hi
  rw [b_and, bt_1 i hi]
  by_cases h : bt x 0
  · rw [if_pos h, bt_1 i hi]
    by_cases h2 : i = 0
    · subst h2; simp [h]
    · simp [h2]
  · rw [if_neg h, b_0]
    by_cases h2 : i = 0
    · subst h2; simp [h]
    · simp [h2]
theorem bt_in {n : Nat} (hn : n < 32) (x : Int32) : (ji_ushr x (nI n)) &&& 1 = if bt x n then 1 else 0 := by
  rw [bt_and1, bt_ushr hn, Nat.add_zero]
theorem bt_in0 {n : Nat} (hn : n < 32) (x : Int32) : ((ji_ushr x (nI n)) &&& 1 = 0) ↔ bt x n = false := by
  rw [bt_in hn]
  cases bt x n <;> simp
theorem bt_in1 {n : Nat} (hn : n < 32) (x : Int32) : ((ji_ushr x (nI n)) &&& 1 = 1) ↔ bt x n = true := by
  rw [bt_in hn]
  cases bt x n <;> simp
theorem isIn_eq {n : Nat} (hn : n < 32) (x : Int32) : fm_X11_isIn x (nI n) = if bt x n then 1 else 0 := by
  unfold fm_X11_isIn
  rw [bt_in hn]
  cases bt x n <;> simp
/-- the set of the t < n with p t, as an int -/
def enc (p : Nat → Bool) : Nat → Int32
  | 0 => 0
  | n + 1 => enc p n ||| (if p n then ji_shl 1 (nI n) else 0)
theorem bt_enc {p : Nat → Bool} : ∀ {n : Nat}, n ≤ 32 → ∀ {i : Nat}, i < 32 → bt (enc p n) i = (decide (i < n) && p i)
  | 0, _, i, hi => by simp [enc, b_0]
  | n + 1, hn, i, hi => by
    rw [enc, b_or, bt_enc (by omega) hi]
    by_cases hp : p n
    · rw [if_pos hp, bt_shl1 (by omega) hi]
      by_cases h : i = n
      · subst h; simp [hp]
      · by_cases h2 : i < n
        · simp [h, h2, show i < n + 1 by omega]
        · simp [h, h2, show ¬ i < n + 1 by omega]
    · rw [if_neg hp, b_0]
      by_cases h : i = n
      · subst h; simp [hp]
      · by_cases h2 : i < n
        · simp [h2, show i < n + 1 by omega]
        · simp [h2, show ¬ i < n + 1 by omega]
/-- a set has no bit from n on -/
def lo (n : Nat) (x : Int32) : Prop := ∀ i, i < 32 → n ≤ i → bt x i = false
theorem lo_enc {p : Nat → Bool} {n : Nat} (hn : n ≤ 32) : lo n (enc p n) := fun i hi h => by rw [bt_enc hn hi]; simp [show ¬ i < n by omega]
theorem lo_ext {n : Nat} {x y : Int32} (hx : lo n x) (hy : lo n y) (h : ∀ i, i < n → i < 32 → bt x i = bt y i) : x = y := b_ext fun i hi => by
  by_cases hn : i < n
  · exact h i hn hi
  · rw [hx i hi (by omega), hy i hi (by omega)]
theorem ne0_iff {x : Int32} : ¬ x = 0 ↔ ∃ i, i < 32 ∧ bt x i = true := by
  constructor
  · intro h
    refine Classical.byContradiction fun q => h (b_ext fun i hi => ?_)
    rw [b_0]
    cases hb : bt x i with
    | false => rfl
    | true => exact absurd ⟨i, hi, hb⟩ q
  · rintro ⟨i, hi, hb⟩ rfl
    rw [b_0] at hb
    cases hb
theorem enc_congr {p q : Nat → Bool} : ∀ {n : Nat}, (∀ i, i < n → p i = q i) → enc p n = enc q n
  | 0, _ => rfl
  | n + 1, h => by rw [enc, enc, enc_congr (fun i hi => h i (by omega)), h n (by omega)]
theorem n31 {i : Nat} (h : i < 31) : ¬ (31 : Int32) ≤ nI i := nI_ge (a := i) (b := 31) h (by decide)
theorem n20 {i : Nat} (h : i < 20) : ¬ (20 : Int32) ≤ nI i := nI_ge (a := i) (b := 20) h (by decide)
theorem n12 {i : Nat} (h : i < 12) : ¬ (12 : Int32) ≤ nI i := nI_ge (a := i) (b := 12) h (by decide)
theorem le31 : (31 : Int32) ≤ nI 31 := by decide
theorem le20 : (20 : Int32) ≤ nI 20 := by decide
theorem le12 : (12 : Int32) ≤ nI 12 := by decide
