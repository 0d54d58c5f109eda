/-! THE FIRST STATE -/
theorem m0_wf : wf xh_s0 := by
  refine ⟨⟨⟨0, by decide +kernel, ⟨Nat.zero_le _, fun k hk => absurd hk (Nat.not_lt_zero k)⟩⟩, ⟨0, by decide +kernel, ⟨Nat.zero_le _, fun k hk => absurd hk (Nat.not_lt_zero k)⟩⟩, ⟨0, Nat.zero_le _, by decide +kernel, fun k hk => ⟨0, Nat.le_refl _, ?_⟩⟩, fun t ht => ⟨0, Nat.zero_le _, ?_⟩, fun t ht e => absurd e ?_⟩, fun k hk => ⟨0, by omega, ?_⟩, fun t ht => Or.inr ?_, ⟨0, Nat.zero_le _, by decide +kernel⟩, ⟨0, Nat.zero_le _, by decide +kernel⟩, fun i hi => ⟨5, by omega, by omega, ?_⟩⟩
  · revert k; decide +kernel
  · revert t; decide +kernel
  · revert t; decide +kernel
  · revert k; decide +kernel
  · revert t; decide +kernel
  · revert i; decide +kernel
theorem m0_law {L u : Nat} (hL : L < 77) (hu : u < 2) (h65 : L ≠ 65) (h1 : L ≠ 1) (h2 : L ≠ 19) : lawR xh_m0 L u xh_s0 := by
  refine ⟨?_, fun N e hN k hk => ?_⟩
  · have a : txN xh_s0 u = 0 := by
      have : u = 0 ∨ u = 1 := by omega
      rcases this with rfl | rfl <;> decide +kernel
    rw [a]
    show (if (L = 1 ∨ L = 19) ∧ 2 = 6 then (100 : Int32) else if (L = 1 ∨ L = 19) ∧ 2 = 7 then 1 else if L = 65 ∧ 2 = 4 then 1 else 0) = 0
    rw [if_neg (by omega), if_neg (by omega), if_neg (by omega)]
  · have a : txN xh_s0 u = nI 0 := by
      have : u = 0 ∨ u = 1 := by omega
      rcases this with rfl | rfl <;> decide +kernel
    have : N = 0 := (nI_eq (by omega) (by omega)).mp (e.symm.trans a)
    omega
theorem m0_net : netR xh_m0 2 xh_s0 := by
  refine ⟨?_, ?_, ?_, ?_, ?_, ?_, ?_, ?_, m0_law (by decide) (by decide) (by decide) (by decide) (by decide), m0_law (by decide) (by decide) (by decide) (by decide) (by decide)⟩ <;> decide +kernel
theorem m0_Rel : Rel xh_m0 := by
  have e90 : xh_m0.1 90 = xh_s0 := rfl
  refine ⟨?_, ?_, ⟨by decide +kernel, fun q => absurd (by decide +kernel) q⟩, ?_, fun i hi => ?_, ⟨0, Nat.zero_le _, by decide +kernel, by decide +kernel, fun j hj => absurd hj (Nat.not_lt_zero j)⟩⟩
  · rw [e90]
    refine ⟨m0_net, ?_, ?_, ?_, ?_, ?_, ?_, ?_⟩ <;> decide +kernel
  · rw [e90]; exact m0_wf
  · intro k _ _
    rfl
  · have : i = 0 ∨ i = 1 ∨ i = 2 ∨ i = 3 := by omega
    rcases this with rfl | rfl | rfl | rfl <;> exact ⟨by decide +kernel, by decide +kernel, Or.inl (by decide +kernel), ⟨0, Nat.zero_le _, by decide +kernel⟩, fun _ => by decide +kernel, fun j hj => Or.inl rfl⟩
theorem wt_mk (m : xM2) : qx_wt (mk m) = qx_wt (mk xh_m0) := rfl
theorem law_pure (L : Nat) (hL : L ≤ 3072) (xs : Nat → Int32) : ∃ H' : qx_H, fm_L_law (xb_st L xs) [] = some (1, H') ∧ H'.length ≤ 600000 ∧ qx_wt H' ≤ 7302250 := by
  obtain ⟨m', e⟩ := law_loop hL (xs := xs) 512 0 5000 (by omega) (by omega) (by omega) xh_m0 m0_Rel
  refine ⟨mk m', ?_, by rw [mk_len]; omega, by rw [wt_mk]; decide +kernel⟩
  rw [xh_init]
  exact e
