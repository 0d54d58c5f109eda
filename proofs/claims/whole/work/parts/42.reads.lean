/-! READINGS AND WRITINGS -/
theorem hp_ald_at {H : qx_H} {a n i : Nat} {f : Nat → Int32} (h : H[a]? = some (.inl (n, .inl f))) (hi : i < n) (hn : n < 2 ^ 31) : hp_ald H a (nI i) = some (f i) := by
  unfold hp_ald
  rw [h]
  dsimp only
  rw [if_neg (nI_in hi hn), nI_clamp (by omega)]
theorem hp_ast_at {H : qx_H} {a n i : Nat} {f : Nat → Int32} {x : Int32} (h : H[a]? = some (.inl (n, .inl f))) (hi : i < n) (hn : n < 2 ^ 31) : hp_ast H a (nI i) x = some (H.set a (.inl (n, .inl (upd f i x)))) := by
  unfold hp_ast
  rw [h]
  dsimp only
  rw [if_neg (nI_in hi hn), nI_clamp (by omega)]
theorem sA_s {m : xM2} {a : Nat} {f : Nat → Int32} : (sA m a f).1 a = f := if_pos rfl
theorem sA_n {m : xM2} {a b : Nat} {f : Nat → Int32} (h : b ≠ a) : (sA m a f).1 b = m.1 b := if_neg h
theorem sA_2 {m : xM2} {a : Nat} {f : Nat → Int32} : (sA m a f).2 = m.2 := rfl
theorem sF_1 {m : xM2} {o k : Nat} {x : Int32} : (sF m o k x).1 = m.1 := rfl
theorem sF_s {m : xM2} {o k : Nat} {x : Int32} : (sF m o k x).2 o = upd (m.2 o) k x := if_pos rfl
theorem sF_n {m : xM2} {o p k : Nat} {x : Int32} (h : p ≠ o) : (sF m o k x).2 p = m.2 p := if_neg h
theorem mk_len (m : xM2) : (mk m).length = 105 := rfl
theorem his_0 (m : xM2) : hp_is (mk m) 0 8 = true := rfl
theorem gR_0_0 (m : xM2) : hp_gR (mk m) 0 8 0 = some 1 := rfl
theorem gR_0_1 (m : xM2) : hp_gR (mk m) 0 8 1 = some 19 := rfl
theorem gR_0_2 (m : xM2) : hp_gR (mk m) 0 8 2 = some 37 := rfl
theorem gR_0_3 (m : xM2) : hp_gR (mk m) 0 8 3 = some 51 := rfl
theorem gR_0_4 (m : xM2) : hp_gR (mk m) 0 8 4 = some 65 := rfl
theorem gR_0_5 (m : xM2) : hp_gR (mk m) 0 8 5 = some 70 := rfl
theorem gR_0_6 (m : xM2) : hp_gR (mk m) 0 8 6 = some 72 := rfl
theorem gR_0_7 (m : xM2) : hp_gR (mk m) 0 8 7 = some 77 := rfl
theorem gR_0_8 (m : xM2) : hp_gR (mk m) 0 8 8 = some 79 := rfl
theorem gR_0_9 (m : xM2) : hp_gR (mk m) 0 8 9 = some 80 := rfl
theorem gI_0_10 (m : xM2) : hp_gI (mk m) 0 8 10 = some (m.2 0 10) := rfl
theorem his_1 (m : xM2) : hp_is (mk m) 1 4 = true := rfl
theorem gR_1_0 (m : xM2) : hp_gR (mk m) 1 4 0 = some 2 := rfl
theorem gR_1_1 (m : xM2) : hp_gR (mk m) 1 4 1 = some 16 := rfl
theorem gR_1_2 (m : xM2) : hp_gR (mk m) 1 4 2 = some 17 := rfl
theorem gR_1_3 (m : xM2) : hp_gR (mk m) 1 4 3 = some 18 := rfl
theorem gI_1_4 (m : xM2) : hp_gI (mk m) 1 4 4 = some (m.2 1 4) := rfl
theorem gI_1_5 (m : xM2) : hp_gI (mk m) 1 4 5 = some (m.2 1 5) := rfl
theorem gI_1_6 (m : xM2) : hp_gI (mk m) 1 4 6 = some (m.2 1 6) := rfl
theorem gI_1_7 (m : xM2) : hp_gI (mk m) 1 4 7 = some (m.2 1 7) := rfl
theorem his_2 (m : xM2) : hp_is (mk m) 2 3 = true := rfl
theorem gR_2_0 (m : xM2) : hp_gR (mk m) 2 3 0 = some 3 := rfl
theorem gR_2_1 (m : xM2) : hp_gR (mk m) 2 3 1 = some 4 := rfl
theorem gR_2_2 (m : xM2) : hp_gR (mk m) 2 3 2 = some 5 := rfl
theorem gR_2_3 (m : xM2) : hp_gR (mk m) 2 3 3 = some 6 := rfl
theorem gR_2_4 (m : xM2) : hp_gR (mk m) 2 3 4 = some 7 := rfl
theorem gR_2_5 (m : xM2) : hp_gR (mk m) 2 3 5 = some 8 := rfl
theorem gR_2_6 (m : xM2) : hp_gR (mk m) 2 3 6 = some 9 := rfl
theorem gR_2_7 (m : xM2) : hp_gR (mk m) 2 3 7 = some 10 := rfl
theorem gR_2_8 (m : xM2) : hp_gR (mk m) 2 3 8 = some 13 := rfl
theorem gI_2_9 (m : xM2) : hp_gI (mk m) 2 3 9 = some (m.2 2 9) := rfl
theorem gI_2_10 (m : xM2) : hp_gI (mk m) 2 3 10 = some (m.2 2 10) := rfl
theorem al_3 (m : xM2) {i : Nat} (h : i < 20) : hp_ald (mk m) 3 (nI i) = some (m.1 3 i) := hp_ald_at (mA_3 m) h (by omega)
theorem as_3 (m : xM2) {i : Nat} {x : Int32} (h : i < 20) : hp_ast (mk m) 3 (nI i) x = some (mk (sA m 3 (upd (m.1 3) i x))) := by rw [hp_ast_at (mA_3 m) h (by omega), mS_3]
theorem al_4 (m : xM2) {i : Nat} (h : i < 20) : hp_ald (mk m) 4 (nI i) = some (m.1 4 i) := hp_ald_at (mA_4 m) h (by omega)
theorem as_4 (m : xM2) {i : Nat} {x : Int32} (h : i < 20) : hp_ast (mk m) 4 (nI i) x = some (mk (sA m 4 (upd (m.1 4) i x))) := by rw [hp_ast_at (mA_4 m) h (by omega), mS_4]
theorem al_5 (m : xM2) {i : Nat} (h : i < 20) : hp_ald (mk m) 5 (nI i) = some (m.1 5 i) := hp_ald_at (mA_5 m) h (by omega)
theorem as_5 (m : xM2) {i : Nat} {x : Int32} (h : i < 20) : hp_ast (mk m) 5 (nI i) x = some (mk (sA m 5 (upd (m.1 5) i x))) := by rw [hp_ast_at (mA_5 m) h (by omega), mS_5]
theorem al_6 (m : xM2) {i : Nat} (h : i < 20) : hp_ald (mk m) 6 (nI i) = some (m.1 6 i) := hp_ald_at (mA_6 m) h (by omega)
theorem as_6 (m : xM2) {i : Nat} {x : Int32} (h : i < 20) : hp_ast (mk m) 6 (nI i) x = some (mk (sA m 6 (upd (m.1 6) i x))) := by rw [hp_ast_at (mA_6 m) h (by omega), mS_6]
theorem al_7 (m : xM2) {i : Nat} (h : i < 31) : hp_ald (mk m) 7 (nI i) = some (m.1 7 i) := hp_ald_at (mA_7 m) h (by omega)
theorem as_7 (m : xM2) {i : Nat} {x : Int32} (h : i < 31) : hp_ast (mk m) 7 (nI i) x = some (mk (sA m 7 (upd (m.1 7) i x))) := by rw [hp_ast_at (mA_7 m) h (by omega), mS_7]
theorem al_8 (m : xM2) {i : Nat} (h : i < 31) : hp_ald (mk m) 8 (nI i) = some (m.1 8 i) := hp_ald_at (mA_8 m) h (by omega)
theorem as_8 (m : xM2) {i : Nat} {x : Int32} (h : i < 31) : hp_ast (mk m) 8 (nI i) x = some (mk (sA m 8 (upd (m.1 8) i x))) := by rw [hp_ast_at (mA_8 m) h (by omega), mS_8]
theorem al_9 (m : xM2) {i : Nat} (h : i < 20) : hp_ald (mk m) 9 (nI i) = some (m.1 9 i) := hp_ald_at (mA_9 m) h (by omega)
theorem as_9 (m : xM2) {i : Nat} {x : Int32} (h : i < 20) : hp_ast (mk m) 9 (nI i) x = some (mk (sA m 9 (upd (m.1 9) i x))) := by rw [hp_ast_at (mA_9 m) h (by omega), mS_9]
theorem his_10 (m : xM2) : hp_is (mk m) 10 1 = true := rfl
theorem gR_10_0 (m : xM2) : hp_gR (mk m) 10 1 0 = some 11 := rfl
theorem gR_10_1 (m : xM2) : hp_gR (mk m) 10 1 1 = some 12 := rfl
theorem gI_10_2 (m : xM2) : hp_gI (mk m) 10 1 2 = some (m.2 10 2) := rfl
theorem al_11 (m : xM2) {i : Nat} (h : i < 60) : hp_ald (mk m) 11 (nI i) = some (m.1 11 i) := hp_ald_at (mA_11 m) h (by omega)
theorem as_11 (m : xM2) {i : Nat} {x : Int32} (h : i < 60) : hp_ast (mk m) 11 (nI i) x = some (mk (sA m 11 (upd (m.1 11) i x))) := by rw [hp_ast_at (mA_11 m) h (by omega), mS_11]
theorem al_12 (m : xM2) {i : Nat} (h : i < 60) : hp_ald (mk m) 12 (nI i) = some (m.1 12 i) := hp_ald_at (mA_12 m) h (by omega)
theorem as_12 (m : xM2) {i : Nat} {x : Int32} (h : i < 60) : hp_ast (mk m) 12 (nI i) x = some (mk (sA m 12 (upd (m.1 12) i x))) := by rw [hp_ast_at (mA_12 m) h (by omega), mS_12]
theorem his_13 (m : xM2) : hp_is (mk m) 13 1 = true := rfl
theorem gR_13_0 (m : xM2) : hp_gR (mk m) 13 1 0 = some 14 := rfl
theorem gR_13_1 (m : xM2) : hp_gR (mk m) 13 1 1 = some 15 := rfl
theorem gI_13_2 (m : xM2) : hp_gI (mk m) 13 1 2 = some (m.2 13 2) := rfl
theorem al_14 (m : xM2) {i : Nat} (h : i < 60) : hp_ald (mk m) 14 (nI i) = some (m.1 14 i) := hp_ald_at (mA_14 m) h (by omega)
theorem as_14 (m : xM2) {i : Nat} {x : Int32} (h : i < 60) : hp_ast (mk m) 14 (nI i) x = some (mk (sA m 14 (upd (m.1 14) i x))) := by rw [hp_ast_at (mA_14 m) h (by omega), mS_14]
theorem al_15 (m : xM2) {i : Nat} (h : i < 60) : hp_ald (mk m) 15 (nI i) = some (m.1 15 i) := hp_ald_at (mA_15 m) h (by omega)
theorem as_15 (m : xM2) {i : Nat} {x : Int32} (h : i < 60) : hp_ast (mk m) 15 (nI i) x = some (mk (sA m 15 (upd (m.1 15) i x))) := by rw [hp_ast_at (mA_15 m) h (by omega), mS_15]
theorem al_16 (m : xM2) {i : Nat} (h : i < 3) : hp_ald (mk m) 16 (nI i) = some (m.1 16 i) := hp_ald_at (mA_16 m) h (by omega)
theorem as_16 (m : xM2) {i : Nat} {x : Int32} (h : i < 3) : hp_ast (mk m) 16 (nI i) x = some (mk (sA m 16 (upd (m.1 16) i x))) := by rw [hp_ast_at (mA_16 m) h (by omega), mS_16]
theorem al_17 (m : xM2) {i : Nat} (h : i < 60) : hp_ald (mk m) 17 (nI i) = some (m.1 17 i) := hp_ald_at (mA_17 m) h (by omega)
theorem as_17 (m : xM2) {i : Nat} {x : Int32} (h : i < 60) : hp_ast (mk m) 17 (nI i) x = some (mk (sA m 17 (upd (m.1 17) i x))) := by rw [hp_ast_at (mA_17 m) h (by omega), mS_17]
theorem al_18 (m : xM2) {i : Nat} (h : i < 24) : hp_ald (mk m) 18 (nI i) = some (m.1 18 i) := hp_ald_at (mA_18 m) h (by omega)
theorem as_18 (m : xM2) {i : Nat} {x : Int32} (h : i < 24) : hp_ast (mk m) 18 (nI i) x = some (mk (sA m 18 (upd (m.1 18) i x))) := by rw [hp_ast_at (mA_18 m) h (by omega), mS_18]
theorem his_19 (m : xM2) : hp_is (mk m) 19 4 = true := rfl
theorem gR_19_0 (m : xM2) : hp_gR (mk m) 19 4 0 = some 20 := rfl
theorem gR_19_1 (m : xM2) : hp_gR (mk m) 19 4 1 = some 34 := rfl
theorem gR_19_2 (m : xM2) : hp_gR (mk m) 19 4 2 = some 35 := rfl
theorem gR_19_3 (m : xM2) : hp_gR (mk m) 19 4 3 = some 36 := rfl
theorem gI_19_4 (m : xM2) : hp_gI (mk m) 19 4 4 = some (m.2 19 4) := rfl
theorem gI_19_5 (m : xM2) : hp_gI (mk m) 19 4 5 = some (m.2 19 5) := rfl
theorem gI_19_6 (m : xM2) : hp_gI (mk m) 19 4 6 = some (m.2 19 6) := rfl
theorem gI_19_7 (m : xM2) : hp_gI (mk m) 19 4 7 = some (m.2 19 7) := rfl
theorem his_20 (m : xM2) : hp_is (mk m) 20 3 = true := rfl
theorem gR_20_0 (m : xM2) : hp_gR (mk m) 20 3 0 = some 21 := rfl
theorem gR_20_1 (m : xM2) : hp_gR (mk m) 20 3 1 = some 22 := rfl
theorem gR_20_2 (m : xM2) : hp_gR (mk m) 20 3 2 = some 23 := rfl
theorem gR_20_3 (m : xM2) : hp_gR (mk m) 20 3 3 = some 24 := rfl
theorem gR_20_4 (m : xM2) : hp_gR (mk m) 20 3 4 = some 25 := rfl
theorem gR_20_5 (m : xM2) : hp_gR (mk m) 20 3 5 = some 26 := rfl
theorem gR_20_6 (m : xM2) : hp_gR (mk m) 20 3 6 = some 27 := rfl
theorem gR_20_7 (m : xM2) : hp_gR (mk m) 20 3 7 = some 28 := rfl
theorem gR_20_8 (m : xM2) : hp_gR (mk m) 20 3 8 = some 31 := rfl
theorem gI_20_9 (m : xM2) : hp_gI (mk m) 20 3 9 = some (m.2 20 9) := rfl
theorem gI_20_10 (m : xM2) : hp_gI (mk m) 20 3 10 = some (m.2 20 10) := rfl
theorem al_21 (m : xM2) {i : Nat} (h : i < 20) : hp_ald (mk m) 21 (nI i) = some (m.1 21 i) := hp_ald_at (mA_21 m) h (by omega)
theorem as_21 (m : xM2) {i : Nat} {x : Int32} (h : i < 20) : hp_ast (mk m) 21 (nI i) x = some (mk (sA m 21 (upd (m.1 21) i x))) := by rw [hp_ast_at (mA_21 m) h (by omega), mS_21]
theorem al_22 (m : xM2) {i : Nat} (h : i < 20) : hp_ald (mk m) 22 (nI i) = some (m.1 22 i) := hp_ald_at (mA_22 m) h (by omega)
theorem as_22 (m : xM2) {i : Nat} {x : Int32} (h : i < 20) : hp_ast (mk m) 22 (nI i) x = some (mk (sA m 22 (upd (m.1 22) i x))) := by rw [hp_ast_at (mA_22 m) h (by omega), mS_22]
theorem al_23 (m : xM2) {i : Nat} (h : i < 20) : hp_ald (mk m) 23 (nI i) = some (m.1 23 i) := hp_ald_at (mA_23 m) h (by omega)
theorem as_23 (m : xM2) {i : Nat} {x : Int32} (h : i < 20) : hp_ast (mk m) 23 (nI i) x = some (mk (sA m 23 (upd (m.1 23) i x))) := by rw [hp_ast_at (mA_23 m) h (by omega), mS_23]
theorem al_24 (m : xM2) {i : Nat} (h : i < 20) : hp_ald (mk m) 24 (nI i) = some (m.1 24 i) := hp_ald_at (mA_24 m) h (by omega)
theorem as_24 (m : xM2) {i : Nat} {x : Int32} (h : i < 20) : hp_ast (mk m) 24 (nI i) x = some (mk (sA m 24 (upd (m.1 24) i x))) := by rw [hp_ast_at (mA_24 m) h (by omega), mS_24]
theorem al_25 (m : xM2) {i : Nat} (h : i < 31) : hp_ald (mk m) 25 (nI i) = some (m.1 25 i) := hp_ald_at (mA_25 m) h (by omega)
theorem as_25 (m : xM2) {i : Nat} {x : Int32} (h : i < 31) : hp_ast (mk m) 25 (nI i) x = some (mk (sA m 25 (upd (m.1 25) i x))) := by rw [hp_ast_at (mA_25 m) h (by omega), mS_25]
theorem al_26 (m : xM2) {i : Nat} (h : i < 31) : hp_ald (mk m) 26 (nI i) = some (m.1 26 i) := hp_ald_at (mA_26 m) h (by omega)
theorem as_26 (m : xM2) {i : Nat} {x : Int32} (h : i < 31) : hp_ast (mk m) 26 (nI i) x = some (mk (sA m 26 (upd (m.1 26) i x))) := by rw [hp_ast_at (mA_26 m) h (by omega), mS_26]
theorem al_27 (m : xM2) {i : Nat} (h : i < 20) : hp_ald (mk m) 27 (nI i) = some (m.1 27 i) := hp_ald_at (mA_27 m) h (by omega)
theorem as_27 (m : xM2) {i : Nat} {x : Int32} (h : i < 20) : hp_ast (mk m) 27 (nI i) x = some (mk (sA m 27 (upd (m.1 27) i x))) := by rw [hp_ast_at (mA_27 m) h (by omega), mS_27]
theorem his_28 (m : xM2) : hp_is (mk m) 28 1 = true := rfl
theorem gR_28_0 (m : xM2) : hp_gR (mk m) 28 1 0 = some 29 := rfl
theorem gR_28_1 (m : xM2) : hp_gR (mk m) 28 1 1 = some 30 := rfl
theorem gI_28_2 (m : xM2) : hp_gI (mk m) 28 1 2 = some (m.2 28 2) := rfl
theorem al_29 (m : xM2) {i : Nat} (h : i < 60) : hp_ald (mk m) 29 (nI i) = some (m.1 29 i) := hp_ald_at (mA_29 m) h (by omega)
theorem as_29 (m : xM2) {i : Nat} {x : Int32} (h : i < 60) : hp_ast (mk m) 29 (nI i) x = some (mk (sA m 29 (upd (m.1 29) i x))) := by rw [hp_ast_at (mA_29 m) h (by omega), mS_29]
theorem al_30 (m : xM2) {i : Nat} (h : i < 60) : hp_ald (mk m) 30 (nI i) = some (m.1 30 i) := hp_ald_at (mA_30 m) h (by omega)
theorem as_30 (m : xM2) {i : Nat} {x : Int32} (h : i < 60) : hp_ast (mk m) 30 (nI i) x = some (mk (sA m 30 (upd (m.1 30) i x))) := by rw [hp_ast_at (mA_30 m) h (by omega), mS_30]
theorem his_31 (m : xM2) : hp_is (mk m) 31 1 = true := rfl
theorem gR_31_0 (m : xM2) : hp_gR (mk m) 31 1 0 = some 32 := rfl
theorem gR_31_1 (m : xM2) : hp_gR (mk m) 31 1 1 = some 33 := rfl
theorem gI_31_2 (m : xM2) : hp_gI (mk m) 31 1 2 = some (m.2 31 2) := rfl
theorem al_32 (m : xM2) {i : Nat} (h : i < 60) : hp_ald (mk m) 32 (nI i) = some (m.1 32 i) := hp_ald_at (mA_32 m) h (by omega)
theorem as_32 (m : xM2) {i : Nat} {x : Int32} (h : i < 60) : hp_ast (mk m) 32 (nI i) x = some (mk (sA m 32 (upd (m.1 32) i x))) := by rw [hp_ast_at (mA_32 m) h (by omega), mS_32]
theorem al_33 (m : xM2) {i : Nat} (h : i < 60) : hp_ald (mk m) 33 (nI i) = some (m.1 33 i) := hp_ald_at (mA_33 m) h (by omega)
theorem as_33 (m : xM2) {i : Nat} {x : Int32} (h : i < 60) : hp_ast (mk m) 33 (nI i) x = some (mk (sA m 33 (upd (m.1 33) i x))) := by rw [hp_ast_at (mA_33 m) h (by omega), mS_33]
theorem al_34 (m : xM2) {i : Nat} (h : i < 3) : hp_ald (mk m) 34 (nI i) = some (m.1 34 i) := hp_ald_at (mA_34 m) h (by omega)
theorem as_34 (m : xM2) {i : Nat} {x : Int32} (h : i < 3) : hp_ast (mk m) 34 (nI i) x = some (mk (sA m 34 (upd (m.1 34) i x))) := by rw [hp_ast_at (mA_34 m) h (by omega), mS_34]
theorem al_35 (m : xM2) {i : Nat} (h : i < 60) : hp_ald (mk m) 35 (nI i) = some (m.1 35 i) := hp_ald_at (mA_35 m) h (by omega)
theorem as_35 (m : xM2) {i : Nat} {x : Int32} (h : i < 60) : hp_ast (mk m) 35 (nI i) x = some (mk (sA m 35 (upd (m.1 35) i x))) := by rw [hp_ast_at (mA_35 m) h (by omega), mS_35]
theorem al_36 (m : xM2) {i : Nat} (h : i < 24) : hp_ald (mk m) 36 (nI i) = some (m.1 36 i) := hp_ald_at (mA_36 m) h (by omega)
theorem as_36 (m : xM2) {i : Nat} {x : Int32} (h : i < 24) : hp_ast (mk m) 36 (nI i) x = some (mk (sA m 36 (upd (m.1 36) i x))) := by rw [hp_ast_at (mA_36 m) h (by omega), mS_36]
theorem his_37 (m : xM2) : hp_is (mk m) 37 3 = true := rfl
theorem gR_37_0 (m : xM2) : hp_gR (mk m) 37 3 0 = some 38 := rfl
theorem gR_37_1 (m : xM2) : hp_gR (mk m) 37 3 1 = some 39 := rfl
theorem gR_37_2 (m : xM2) : hp_gR (mk m) 37 3 2 = some 40 := rfl
theorem gR_37_3 (m : xM2) : hp_gR (mk m) 37 3 3 = some 41 := rfl
theorem gR_37_4 (m : xM2) : hp_gR (mk m) 37 3 4 = some 42 := rfl
theorem gR_37_5 (m : xM2) : hp_gR (mk m) 37 3 5 = some 43 := rfl
theorem gR_37_6 (m : xM2) : hp_gR (mk m) 37 3 6 = some 44 := rfl
theorem gR_37_7 (m : xM2) : hp_gR (mk m) 37 3 7 = some 45 := rfl
theorem gR_37_8 (m : xM2) : hp_gR (mk m) 37 3 8 = some 48 := rfl
theorem gI_37_9 (m : xM2) : hp_gI (mk m) 37 3 9 = some (m.2 37 9) := rfl
theorem gI_37_10 (m : xM2) : hp_gI (mk m) 37 3 10 = some (m.2 37 10) := rfl
theorem al_38 (m : xM2) {i : Nat} (h : i < 20) : hp_ald (mk m) 38 (nI i) = some (m.1 38 i) := hp_ald_at (mA_38 m) h (by omega)
theorem as_38 (m : xM2) {i : Nat} {x : Int32} (h : i < 20) : hp_ast (mk m) 38 (nI i) x = some (mk (sA m 38 (upd (m.1 38) i x))) := by rw [hp_ast_at (mA_38 m) h (by omega), mS_38]
theorem al_39 (m : xM2) {i : Nat} (h : i < 20) : hp_ald (mk m) 39 (nI i) = some (m.1 39 i) := hp_ald_at (mA_39 m) h (by omega)
theorem as_39 (m : xM2) {i : Nat} {x : Int32} (h : i < 20) : hp_ast (mk m) 39 (nI i) x = some (mk (sA m 39 (upd (m.1 39) i x))) := by rw [hp_ast_at (mA_39 m) h (by omega), mS_39]
theorem al_40 (m : xM2) {i : Nat} (h : i < 20) : hp_ald (mk m) 40 (nI i) = some (m.1 40 i) := hp_ald_at (mA_40 m) h (by omega)
theorem as_40 (m : xM2) {i : Nat} {x : Int32} (h : i < 20) : hp_ast (mk m) 40 (nI i) x = some (mk (sA m 40 (upd (m.1 40) i x))) := by rw [hp_ast_at (mA_40 m) h (by omega), mS_40]
theorem al_41 (m : xM2) {i : Nat} (h : i < 20) : hp_ald (mk m) 41 (nI i) = some (m.1 41 i) := hp_ald_at (mA_41 m) h (by omega)
theorem as_41 (m : xM2) {i : Nat} {x : Int32} (h : i < 20) : hp_ast (mk m) 41 (nI i) x = some (mk (sA m 41 (upd (m.1 41) i x))) := by rw [hp_ast_at (mA_41 m) h (by omega), mS_41]
theorem al_42 (m : xM2) {i : Nat} (h : i < 31) : hp_ald (mk m) 42 (nI i) = some (m.1 42 i) := hp_ald_at (mA_42 m) h (by omega)
theorem as_42 (m : xM2) {i : Nat} {x : Int32} (h : i < 31) : hp_ast (mk m) 42 (nI i) x = some (mk (sA m 42 (upd (m.1 42) i x))) := by rw [hp_ast_at (mA_42 m) h (by omega), mS_42]
theorem al_43 (m : xM2) {i : Nat} (h : i < 31) : hp_ald (mk m) 43 (nI i) = some (m.1 43 i) := hp_ald_at (mA_43 m) h (by omega)
theorem as_43 (m : xM2) {i : Nat} {x : Int32} (h : i < 31) : hp_ast (mk m) 43 (nI i) x = some (mk (sA m 43 (upd (m.1 43) i x))) := by rw [hp_ast_at (mA_43 m) h (by omega), mS_43]
theorem al_44 (m : xM2) {i : Nat} (h : i < 20) : hp_ald (mk m) 44 (nI i) = some (m.1 44 i) := hp_ald_at (mA_44 m) h (by omega)
theorem as_44 (m : xM2) {i : Nat} {x : Int32} (h : i < 20) : hp_ast (mk m) 44 (nI i) x = some (mk (sA m 44 (upd (m.1 44) i x))) := by rw [hp_ast_at (mA_44 m) h (by omega), mS_44]
theorem his_45 (m : xM2) : hp_is (mk m) 45 1 = true := rfl
theorem gR_45_0 (m : xM2) : hp_gR (mk m) 45 1 0 = some 46 := rfl
theorem gR_45_1 (m : xM2) : hp_gR (mk m) 45 1 1 = some 47 := rfl
theorem gI_45_2 (m : xM2) : hp_gI (mk m) 45 1 2 = some (m.2 45 2) := rfl
theorem al_46 (m : xM2) {i : Nat} (h : i < 60) : hp_ald (mk m) 46 (nI i) = some (m.1 46 i) := hp_ald_at (mA_46 m) h (by omega)
theorem as_46 (m : xM2) {i : Nat} {x : Int32} (h : i < 60) : hp_ast (mk m) 46 (nI i) x = some (mk (sA m 46 (upd (m.1 46) i x))) := by rw [hp_ast_at (mA_46 m) h (by omega), mS_46]
theorem al_47 (m : xM2) {i : Nat} (h : i < 60) : hp_ald (mk m) 47 (nI i) = some (m.1 47 i) := hp_ald_at (mA_47 m) h (by omega)
theorem as_47 (m : xM2) {i : Nat} {x : Int32} (h : i < 60) : hp_ast (mk m) 47 (nI i) x = some (mk (sA m 47 (upd (m.1 47) i x))) := by rw [hp_ast_at (mA_47 m) h (by omega), mS_47]
theorem his_48 (m : xM2) : hp_is (mk m) 48 1 = true := rfl
theorem gR_48_0 (m : xM2) : hp_gR (mk m) 48 1 0 = some 49 := rfl
theorem gR_48_1 (m : xM2) : hp_gR (mk m) 48 1 1 = some 50 := rfl
theorem gI_48_2 (m : xM2) : hp_gI (mk m) 48 1 2 = some (m.2 48 2) := rfl
theorem al_49 (m : xM2) {i : Nat} (h : i < 60) : hp_ald (mk m) 49 (nI i) = some (m.1 49 i) := hp_ald_at (mA_49 m) h (by omega)
theorem as_49 (m : xM2) {i : Nat} {x : Int32} (h : i < 60) : hp_ast (mk m) 49 (nI i) x = some (mk (sA m 49 (upd (m.1 49) i x))) := by rw [hp_ast_at (mA_49 m) h (by omega), mS_49]
theorem al_50 (m : xM2) {i : Nat} (h : i < 60) : hp_ald (mk m) 50 (nI i) = some (m.1 50 i) := hp_ald_at (mA_50 m) h (by omega)
theorem as_50 (m : xM2) {i : Nat} {x : Int32} (h : i < 60) : hp_ast (mk m) 50 (nI i) x = some (mk (sA m 50 (upd (m.1 50) i x))) := by rw [hp_ast_at (mA_50 m) h (by omega), mS_50]
theorem his_51 (m : xM2) : hp_is (mk m) 51 3 = true := rfl
theorem gR_51_0 (m : xM2) : hp_gR (mk m) 51 3 0 = some 52 := rfl
theorem gR_51_1 (m : xM2) : hp_gR (mk m) 51 3 1 = some 53 := rfl
theorem gR_51_2 (m : xM2) : hp_gR (mk m) 51 3 2 = some 54 := rfl
theorem gR_51_3 (m : xM2) : hp_gR (mk m) 51 3 3 = some 55 := rfl
theorem gR_51_4 (m : xM2) : hp_gR (mk m) 51 3 4 = some 56 := rfl
theorem gR_51_5 (m : xM2) : hp_gR (mk m) 51 3 5 = some 57 := rfl
theorem gR_51_6 (m : xM2) : hp_gR (mk m) 51 3 6 = some 58 := rfl
theorem gR_51_7 (m : xM2) : hp_gR (mk m) 51 3 7 = some 59 := rfl
theorem gR_51_8 (m : xM2) : hp_gR (mk m) 51 3 8 = some 62 := rfl
theorem gI_51_9 (m : xM2) : hp_gI (mk m) 51 3 9 = some (m.2 51 9) := rfl
theorem gI_51_10 (m : xM2) : hp_gI (mk m) 51 3 10 = some (m.2 51 10) := rfl
theorem al_52 (m : xM2) {i : Nat} (h : i < 20) : hp_ald (mk m) 52 (nI i) = some (m.1 52 i) := hp_ald_at (mA_52 m) h (by omega)
theorem as_52 (m : xM2) {i : Nat} {x : Int32} (h : i < 20) : hp_ast (mk m) 52 (nI i) x = some (mk (sA m 52 (upd (m.1 52) i x))) := by rw [hp_ast_at (mA_52 m) h (by omega), mS_52]
theorem al_53 (m : xM2) {i : Nat} (h : i < 20) : hp_ald (mk m) 53 (nI i) = some (m.1 53 i) := hp_ald_at (mA_53 m) h (by omega)
theorem as_53 (m : xM2) {i : Nat} {x : Int32} (h : i < 20) : hp_ast (mk m) 53 (nI i) x = some (mk (sA m 53 (upd (m.1 53) i x))) := by rw [hp_ast_at (mA_53 m) h (by omega), mS_53]
theorem al_54 (m : xM2) {i : Nat} (h : i < 20) : hp_ald (mk m) 54 (nI i) = some (m.1 54 i) := hp_ald_at (mA_54 m) h (by omega)
theorem as_54 (m : xM2) {i : Nat} {x : Int32} (h : i < 20) : hp_ast (mk m) 54 (nI i) x = some (mk (sA m 54 (upd (m.1 54) i x))) := by rw [hp_ast_at (mA_54 m) h (by omega), mS_54]
theorem al_55 (m : xM2) {i : Nat} (h : i < 20) : hp_ald (mk m) 55 (nI i) = some (m.1 55 i) := hp_ald_at (mA_55 m) h (by omega)
theorem as_55 (m : xM2) {i : Nat} {x : Int32} (h : i < 20) : hp_ast (mk m) 55 (nI i) x = some (mk (sA m 55 (upd (m.1 55) i x))) := by rw [hp_ast_at (mA_55 m) h (by omega), mS_55]
theorem al_56 (m : xM2) {i : Nat} (h : i < 31) : hp_ald (mk m) 56 (nI i) = some (m.1 56 i) := hp_ald_at (mA_56 m) h (by omega)
theorem as_56 (m : xM2) {i : Nat} {x : Int32} (h : i < 31) : hp_ast (mk m) 56 (nI i) x = some (mk (sA m 56 (upd (m.1 56) i x))) := by rw [hp_ast_at (mA_56 m) h (by omega), mS_56]
theorem al_57 (m : xM2) {i : Nat} (h : i < 31) : hp_ald (mk m) 57 (nI i) = some (m.1 57 i) := hp_ald_at (mA_57 m) h (by omega)
theorem as_57 (m : xM2) {i : Nat} {x : Int32} (h : i < 31) : hp_ast (mk m) 57 (nI i) x = some (mk (sA m 57 (upd (m.1 57) i x))) := by rw [hp_ast_at (mA_57 m) h (by omega), mS_57]
theorem al_58 (m : xM2) {i : Nat} (h : i < 20) : hp_ald (mk m) 58 (nI i) = some (m.1 58 i) := hp_ald_at (mA_58 m) h (by omega)
theorem as_58 (m : xM2) {i : Nat} {x : Int32} (h : i < 20) : hp_ast (mk m) 58 (nI i) x = some (mk (sA m 58 (upd (m.1 58) i x))) := by rw [hp_ast_at (mA_58 m) h (by omega), mS_58]
theorem his_59 (m : xM2) : hp_is (mk m) 59 1 = true := rfl
theorem gR_59_0 (m : xM2) : hp_gR (mk m) 59 1 0 = some 60 := rfl
theorem gR_59_1 (m : xM2) : hp_gR (mk m) 59 1 1 = some 61 := rfl
theorem gI_59_2 (m : xM2) : hp_gI (mk m) 59 1 2 = some (m.2 59 2) := rfl
theorem al_60 (m : xM2) {i : Nat} (h : i < 60) : hp_ald (mk m) 60 (nI i) = some (m.1 60 i) := hp_ald_at (mA_60 m) h (by omega)
theorem as_60 (m : xM2) {i : Nat} {x : Int32} (h : i < 60) : hp_ast (mk m) 60 (nI i) x = some (mk (sA m 60 (upd (m.1 60) i x))) := by rw [hp_ast_at (mA_60 m) h (by omega), mS_60]
theorem al_61 (m : xM2) {i : Nat} (h : i < 60) : hp_ald (mk m) 61 (nI i) = some (m.1 61 i) := hp_ald_at (mA_61 m) h (by omega)
theorem as_61 (m : xM2) {i : Nat} {x : Int32} (h : i < 60) : hp_ast (mk m) 61 (nI i) x = some (mk (sA m 61 (upd (m.1 61) i x))) := by rw [hp_ast_at (mA_61 m) h (by omega), mS_61]
theorem his_62 (m : xM2) : hp_is (mk m) 62 1 = true := rfl
theorem gR_62_0 (m : xM2) : hp_gR (mk m) 62 1 0 = some 63 := rfl
theorem gR_62_1 (m : xM2) : hp_gR (mk m) 62 1 1 = some 64 := rfl
theorem gI_62_2 (m : xM2) : hp_gI (mk m) 62 1 2 = some (m.2 62 2) := rfl
theorem al_63 (m : xM2) {i : Nat} (h : i < 60) : hp_ald (mk m) 63 (nI i) = some (m.1 63 i) := hp_ald_at (mA_63 m) h (by omega)
theorem as_63 (m : xM2) {i : Nat} {x : Int32} (h : i < 60) : hp_ast (mk m) 63 (nI i) x = some (mk (sA m 63 (upd (m.1 63) i x))) := by rw [hp_ast_at (mA_63 m) h (by omega), mS_63]
theorem al_64 (m : xM2) {i : Nat} (h : i < 60) : hp_ald (mk m) 64 (nI i) = some (m.1 64 i) := hp_ald_at (mA_64 m) h (by omega)
theorem as_64 (m : xM2) {i : Nat} {x : Int32} (h : i < 60) : hp_ast (mk m) 64 (nI i) x = some (mk (sA m 64 (upd (m.1 64) i x))) := by rw [hp_ast_at (mA_64 m) h (by omega), mS_64]
theorem his_65 (m : xM2) : hp_is (mk m) 65 6 = true := rfl
theorem gR_65_0 (m : xM2) : hp_gR (mk m) 65 6 0 = some 66 := rfl
theorem gR_65_1 (m : xM2) : hp_gR (mk m) 65 6 1 = some 69 := rfl
theorem gI_65_2 (m : xM2) : hp_gI (mk m) 65 6 2 = some (m.2 65 2) := rfl
theorem gI_65_3 (m : xM2) : hp_gI (mk m) 65 6 3 = some (m.2 65 3) := rfl
theorem gI_65_4 (m : xM2) : hp_gI (mk m) 65 6 4 = some (m.2 65 4) := rfl
theorem his_66 (m : xM2) : hp_is (mk m) 66 1 = true := rfl
theorem gR_66_0 (m : xM2) : hp_gR (mk m) 66 1 0 = some 67 := rfl
theorem gR_66_1 (m : xM2) : hp_gR (mk m) 66 1 1 = some 68 := rfl
theorem gI_66_2 (m : xM2) : hp_gI (mk m) 66 1 2 = some (m.2 66 2) := rfl
theorem al_67 (m : xM2) {i : Nat} (h : i < 60) : hp_ald (mk m) 67 (nI i) = some (m.1 67 i) := hp_ald_at (mA_67 m) h (by omega)
theorem as_67 (m : xM2) {i : Nat} {x : Int32} (h : i < 60) : hp_ast (mk m) 67 (nI i) x = some (mk (sA m 67 (upd (m.1 67) i x))) := by rw [hp_ast_at (mA_67 m) h (by omega), mS_67]
theorem al_68 (m : xM2) {i : Nat} (h : i < 60) : hp_ald (mk m) 68 (nI i) = some (m.1 68 i) := hp_ald_at (mA_68 m) h (by omega)
theorem as_68 (m : xM2) {i : Nat} {x : Int32} (h : i < 60) : hp_ast (mk m) 68 (nI i) x = some (mk (sA m 68 (upd (m.1 68) i x))) := by rw [hp_ast_at (mA_68 m) h (by omega), mS_68]
theorem al_69 (m : xM2) {i : Nat} (h : i < 60) : hp_ald (mk m) 69 (nI i) = some (m.1 69 i) := hp_ald_at (mA_69 m) h (by omega)
theorem as_69 (m : xM2) {i : Nat} {x : Int32} (h : i < 60) : hp_ast (mk m) 69 (nI i) x = some (mk (sA m 69 (upd (m.1 69) i x))) := by rw [hp_ast_at (mA_69 m) h (by omega), mS_69]
theorem his_70 (m : xM2) : hp_is (mk m) 70 2 = true := rfl
theorem gR_70_0 (m : xM2) : hp_gR (mk m) 70 2 0 = some 71 := rfl
theorem al_71 (m : xM2) {i : Nat} (h : i < 3) : hp_ald (mk m) 71 (nI i) = some (m.1 71 i) := hp_ald_at (mA_71 m) h (by omega)
theorem as_71 (m : xM2) {i : Nat} {x : Int32} (h : i < 3) : hp_ast (mk m) 71 (nI i) x = some (mk (sA m 71 (upd (m.1 71) i x))) := by rw [hp_ast_at (mA_71 m) h (by omega), mS_71]
theorem his_72 (m : xM2) : hp_is (mk m) 72 0 = true := rfl
theorem gR_72_0 (m : xM2) : hp_gR (mk m) 72 0 0 = some 73 := rfl
theorem gR_72_1 (m : xM2) : hp_gR (mk m) 72 0 1 = some 74 := rfl
theorem gR_72_2 (m : xM2) : hp_gR (mk m) 72 0 2 = some 75 := rfl
theorem gR_72_3 (m : xM2) : hp_gR (mk m) 72 0 3 = some 76 := rfl
theorem gI_72_4 (m : xM2) : hp_gI (mk m) 72 0 4 = some (m.2 72 4) := rfl
theorem al_73 (m : xM2) {i : Nat} (h : i < 6) : hp_ald (mk m) 73 (nI i) = some (m.1 73 i) := hp_ald_at (mA_73 m) h (by omega)
theorem as_73 (m : xM2) {i : Nat} {x : Int32} (h : i < 6) : hp_ast (mk m) 73 (nI i) x = some (mk (sA m 73 (upd (m.1 73) i x))) := by rw [hp_ast_at (mA_73 m) h (by omega), mS_73]
theorem al_74 (m : xM2) {i : Nat} (h : i < 6) : hp_ald (mk m) 74 (nI i) = some (m.1 74 i) := hp_ald_at (mA_74 m) h (by omega)
theorem as_74 (m : xM2) {i : Nat} {x : Int32} (h : i < 6) : hp_ast (mk m) 74 (nI i) x = some (mk (sA m 74 (upd (m.1 74) i x))) := by rw [hp_ast_at (mA_74 m) h (by omega), mS_74]
theorem al_75 (m : xM2) {i : Nat} (h : i < 6) : hp_ald (mk m) 75 (nI i) = some (m.1 75 i) := hp_ald_at (mA_75 m) h (by omega)
theorem as_75 (m : xM2) {i : Nat} {x : Int32} (h : i < 6) : hp_ast (mk m) 75 (nI i) x = some (mk (sA m 75 (upd (m.1 75) i x))) := by rw [hp_ast_at (mA_75 m) h (by omega), mS_75]
theorem al_76 (m : xM2) {i : Nat} (h : i < 3) : hp_ald (mk m) 76 (nI i) = some (m.1 76 i) := hp_ald_at (mA_76 m) h (by omega)
theorem as_76 (m : xM2) {i : Nat} {x : Int32} (h : i < 3) : hp_ast (mk m) 76 (nI i) x = some (mk (sA m 76 (upd (m.1 76) i x))) := by rw [hp_ast_at (mA_76 m) h (by omega), mS_76]
theorem his_77 (m : xM2) : hp_is (mk m) 77 7 = true := rfl
theorem gR_77_0 (m : xM2) : hp_gR (mk m) 77 7 0 = some 78 := rfl
theorem gI_77_1 (m : xM2) : hp_gI (mk m) 77 7 1 = some (m.2 77 1) := rfl
theorem gI_77_2 (m : xM2) : hp_gI (mk m) 77 7 2 = some (m.2 77 2) := rfl
theorem gI_77_3 (m : xM2) : hp_gI (mk m) 77 7 3 = some (m.2 77 3) := rfl
theorem gI_77_4 (m : xM2) : hp_gI (mk m) 77 7 4 = some (m.2 77 4) := rfl
theorem gI_77_5 (m : xM2) : hp_gI (mk m) 77 7 5 = some (m.2 77 5) := rfl
theorem al_78 (m : xM2) {i : Nat} (h : i < 30) : hp_ald (mk m) 78 (nI i) = some (m.1 78 i) := hp_ald_at (mA_78 m) h (by omega)
theorem as_78 (m : xM2) {i : Nat} {x : Int32} (h : i < 30) : hp_ast (mk m) 78 (nI i) x = some (mk (sA m 78 (upd (m.1 78) i x))) := by rw [hp_ast_at (mA_78 m) h (by omega), mS_78]
theorem al_80 (m : xM2) {i : Nat} (h : i < 7) : hp_ald (mk m) 80 (nI i) = some (m.1 80 i) := hp_ald_at (mA_80 m) h (by omega)
theorem as_80 (m : xM2) {i : Nat} {x : Int32} (h : i < 7) : hp_ast (mk m) 80 (nI i) x = some (mk (sA m 80 (upd (m.1 80) i x))) := by rw [hp_ast_at (mA_80 m) h (by omega), mS_80]
theorem his_81 (m : xM2) : hp_is (mk m) 81 5 = true := rfl
theorem gR_81_0 (m : xM2) : hp_gR (mk m) 81 5 0 = some 82 := rfl
theorem gI_81_1 (m : xM2) : hp_gI (mk m) 81 5 1 = some (m.2 81 1) := rfl
theorem gI_81_2 (m : xM2) : hp_gI (mk m) 81 5 2 = some (m.2 81 2) := rfl
theorem al_82 (m : xM2) {i : Nat} (h : i < 40) : hp_ald (mk m) 82 (nI i) = some (m.1 82 i) := hp_ald_at (mA_82 m) h (by omega)
theorem as_82 (m : xM2) {i : Nat} {x : Int32} (h : i < 40) : hp_ast (mk m) 82 (nI i) x = some (mk (sA m 82 (upd (m.1 82) i x))) := by rw [hp_ast_at (mA_82 m) h (by omega), mS_82]
theorem his_83 (m : xM2) : hp_is (mk m) 83 5 = true := rfl
theorem gR_83_0 (m : xM2) : hp_gR (mk m) 83 5 0 = some 84 := rfl
theorem gI_83_1 (m : xM2) : hp_gI (mk m) 83 5 1 = some (m.2 83 1) := rfl
theorem gI_83_2 (m : xM2) : hp_gI (mk m) 83 5 2 = some (m.2 83 2) := rfl
theorem al_84 (m : xM2) {i : Nat} (h : i < 40) : hp_ald (mk m) 84 (nI i) = some (m.1 84 i) := hp_ald_at (mA_84 m) h (by omega)
theorem as_84 (m : xM2) {i : Nat} {x : Int32} (h : i < 40) : hp_ast (mk m) 84 (nI i) x = some (mk (sA m 84 (upd (m.1 84) i x))) := by rw [hp_ast_at (mA_84 m) h (by omega), mS_84]
theorem his_85 (m : xM2) : hp_is (mk m) 85 5 = true := rfl
theorem gR_85_0 (m : xM2) : hp_gR (mk m) 85 5 0 = some 86 := rfl
theorem gI_85_1 (m : xM2) : hp_gI (mk m) 85 5 1 = some (m.2 85 1) := rfl
theorem gI_85_2 (m : xM2) : hp_gI (mk m) 85 5 2 = some (m.2 85 2) := rfl
theorem al_86 (m : xM2) {i : Nat} (h : i < 40) : hp_ald (mk m) 86 (nI i) = some (m.1 86 i) := hp_ald_at (mA_86 m) h (by omega)
theorem as_86 (m : xM2) {i : Nat} {x : Int32} (h : i < 40) : hp_ast (mk m) 86 (nI i) x = some (mk (sA m 86 (upd (m.1 86) i x))) := by rw [hp_ast_at (mA_86 m) h (by omega), mS_86]
theorem his_87 (m : xM2) : hp_is (mk m) 87 5 = true := rfl
theorem gR_87_0 (m : xM2) : hp_gR (mk m) 87 5 0 = some 88 := rfl
theorem gI_87_1 (m : xM2) : hp_gI (mk m) 87 5 1 = some (m.2 87 1) := rfl
theorem gI_87_2 (m : xM2) : hp_gI (mk m) 87 5 2 = some (m.2 87 2) := rfl
theorem al_88 (m : xM2) {i : Nat} (h : i < 40) : hp_ald (mk m) 88 (nI i) = some (m.1 88 i) := hp_ald_at (mA_88 m) h (by omega)
theorem as_88 (m : xM2) {i : Nat} {x : Int32} (h : i < 40) : hp_ast (mk m) 88 (nI i) x = some (mk (sA m 88 (upd (m.1 88) i x))) := by rw [hp_ast_at (mA_88 m) h (by omega), mS_88]
theorem his_89 (m : xM2) : hp_is (mk m) 89 9 = true := rfl
theorem gR_89_0 (m : xM2) : hp_gR (mk m) 89 9 0 = some 90 := rfl
theorem gR_89_1 (m : xM2) : hp_gR (mk m) 89 9 1 = some 91 := rfl
theorem gR_89_2 (m : xM2) : hp_gR (mk m) 89 9 2 = some 92 := rfl
theorem gI_89_3 (m : xM2) : hp_gI (mk m) 89 9 3 = some (m.2 89 3) := rfl
theorem gR_89_4 (m : xM2) : hp_gR (mk m) 89 9 4 = some 93 := rfl
theorem gI_89_5 (m : xM2) : hp_gI (mk m) 89 9 5 = some (m.2 89 5) := rfl
theorem gI_89_6 (m : xM2) : hp_gI (mk m) 89 9 6 = some (m.2 89 6) := rfl
theorem gI_89_7 (m : xM2) : hp_gI (mk m) 89 9 7 = some (m.2 89 7) := rfl
theorem gI_89_8 (m : xM2) : hp_gI (mk m) 89 9 8 = some (m.2 89 8) := rfl
theorem gR_89_9 (m : xM2) : hp_gR (mk m) 89 9 9 = some 94 := rfl
theorem gR_89_10 (m : xM2) : hp_gR (mk m) 89 9 10 = some 95 := rfl
theorem gR_89_11 (m : xM2) : hp_gR (mk m) 89 9 11 = some 96 := rfl
theorem gR_89_12 (m : xM2) : hp_gR (mk m) 89 9 12 = some 97 := rfl
theorem gR_89_13 (m : xM2) : hp_gR (mk m) 89 9 13 = some 98 := rfl
theorem gR_89_14 (m : xM2) : hp_gR (mk m) 89 9 14 = some 99 := rfl
theorem gR_89_15 (m : xM2) : hp_gR (mk m) 89 9 15 = some 100 := rfl
theorem gI_89_16 (m : xM2) : hp_gI (mk m) 89 9 16 = some (m.2 89 16) := rfl
theorem gI_89_17 (m : xM2) : hp_gI (mk m) 89 9 17 = some (m.2 89 17) := rfl
theorem gI_89_18 (m : xM2) : hp_gI (mk m) 89 9 18 = some (m.2 89 18) := rfl
theorem gR_89_19 (m : xM2) : hp_gR (mk m) 89 9 19 = some 101 := rfl
theorem gR_89_20 (m : xM2) : hp_gR (mk m) 89 9 20 = some 102 := rfl
theorem gR_89_21 (m : xM2) : hp_gR (mk m) 89 9 21 = some 103 := rfl
theorem gR_89_22 (m : xM2) : hp_gR (mk m) 89 9 22 = some 104 := rfl
theorem al_90 (m : xM2) {i : Nat} (h : i < 515) : hp_ald (mk m) 90 (nI i) = some (m.1 90 i) := hp_ald_at (mA_90 m) h (by omega)
theorem as_90 (m : xM2) {i : Nat} {x : Int32} (h : i < 515) : hp_ast (mk m) 90 (nI i) x = some (mk (sA m 90 (upd (m.1 90) i x))) := by rw [hp_ast_at (mA_90 m) h (by omega), mS_90]
theorem al_91 (m : xM2) {i : Nat} (h : i < 515) : hp_ald (mk m) 91 (nI i) = some (m.1 91 i) := hp_ald_at (mA_91 m) h (by omega)
theorem as_91 (m : xM2) {i : Nat} {x : Int32} (h : i < 515) : hp_ast (mk m) 91 (nI i) x = some (mk (sA m 91 (upd (m.1 91) i x))) := by rw [hp_ast_at (mA_91 m) h (by omega), mS_91]
theorem al_92 (m : xM2) {i : Nat} (h : i < 181) : hp_ald (mk m) 92 (nI i) = some (m.1 92 i) := hp_ald_at (mA_92 m) h (by omega)
theorem as_92 (m : xM2) {i : Nat} {x : Int32} (h : i < 181) : hp_ast (mk m) 92 (nI i) x = some (mk (sA m 92 (upd (m.1 92) i x))) := by rw [hp_ast_at (mA_92 m) h (by omega), mS_92]
theorem al_93 (m : xM2) {i : Nat} (h : i < 7) : hp_ald (mk m) 93 (nI i) = some (m.1 93 i) := hp_ald_at (mA_93 m) h (by omega)
theorem as_93 (m : xM2) {i : Nat} {x : Int32} (h : i < 7) : hp_ast (mk m) 93 (nI i) x = some (mk (sA m 93 (upd (m.1 93) i x))) := by rw [hp_ast_at (mA_93 m) h (by omega), mS_93]
theorem al_94 (m : xM2) {i : Nat} (h : i < 124) : hp_ald (mk m) 94 (nI i) = some (m.1 94 i) := hp_ald_at (mA_94 m) h (by omega)
theorem as_94 (m : xM2) {i : Nat} {x : Int32} (h : i < 124) : hp_ast (mk m) 94 (nI i) x = some (mk (sA m 94 (upd (m.1 94) i x))) := by rw [hp_ast_at (mA_94 m) h (by omega), mS_94]
theorem al_95 (m : xM2) {i : Nat} (h : i < 128) : hp_ald (mk m) 95 (nI i) = some (m.1 95 i) := hp_ald_at (mA_95 m) h (by omega)
theorem as_95 (m : xM2) {i : Nat} {x : Int32} (h : i < 128) : hp_ast (mk m) 95 (nI i) x = some (mk (sA m 95 (upd (m.1 95) i x))) := by rw [hp_ast_at (mA_95 m) h (by omega), mS_95]
theorem al_96 (m : xM2) {i : Nat} (h : i < 64) : hp_ald (mk m) 96 (nI i) = some (m.1 96 i) := hp_ald_at (mA_96 m) h (by omega)
theorem as_96 (m : xM2) {i : Nat} {x : Int32} (h : i < 64) : hp_ast (mk m) 96 (nI i) x = some (mk (sA m 96 (upd (m.1 96) i x))) := by rw [hp_ast_at (mA_96 m) h (by omega), mS_96]
theorem al_97 (m : xM2) {i : Nat} (h : i < 3) : hp_ald (mk m) 97 (nI i) = some (m.1 97 i) := hp_ald_at (mA_97 m) h (by omega)
theorem as_97 (m : xM2) {i : Nat} {x : Int32} (h : i < 3) : hp_ast (mk m) 97 (nI i) x = some (mk (sA m 97 (upd (m.1 97) i x))) := by rw [hp_ast_at (mA_97 m) h (by omega), mS_97]
theorem al_98 (m : xM2) {i : Nat} (h : i < 31) : hp_ald (mk m) 98 (nI i) = some (m.1 98 i) := hp_ald_at (mA_98 m) h (by omega)
theorem as_98 (m : xM2) {i : Nat} {x : Int32} (h : i < 31) : hp_ast (mk m) 98 (nI i) x = some (mk (sA m 98 (upd (m.1 98) i x))) := by rw [hp_ast_at (mA_98 m) h (by omega), mS_98]
theorem al_99 (m : xM2) {i : Nat} (h : i < 3) : hp_ald (mk m) 99 (nI i) = some (m.1 99 i) := hp_ald_at (mA_99 m) h (by omega)
theorem as_99 (m : xM2) {i : Nat} {x : Int32} (h : i < 3) : hp_ast (mk m) 99 (nI i) x = some (mk (sA m 99 (upd (m.1 99) i x))) := by rw [hp_ast_at (mA_99 m) h (by omega), mS_99]
theorem al_100 (m : xM2) {i : Nat} (h : i < 30) : hp_ald (mk m) 100 (nI i) = some (m.1 100 i) := hp_ald_at (mA_100 m) h (by omega)
theorem as_100 (m : xM2) {i : Nat} {x : Int32} (h : i < 30) : hp_ast (mk m) 100 (nI i) x = some (mk (sA m 100 (upd (m.1 100) i x))) := by rw [hp_ast_at (mA_100 m) h (by omega), mS_100]
theorem al_101 (m : xM2) {i : Nat} (h : i < 4) : hp_ald (mk m) 101 (nI i) = some (m.1 101 i) := hp_ald_at (mA_101 m) h (by omega)
theorem as_101 (m : xM2) {i : Nat} {x : Int32} (h : i < 4) : hp_ast (mk m) 101 (nI i) x = some (mk (sA m 101 (upd (m.1 101) i x))) := by rw [hp_ast_at (mA_101 m) h (by omega), mS_101]
theorem al_102 (m : xM2) {i : Nat} (h : i < 4) : hp_ald (mk m) 102 (nI i) = some (m.1 102 i) := hp_ald_at (mA_102 m) h (by omega)
theorem as_102 (m : xM2) {i : Nat} {x : Int32} (h : i < 4) : hp_ast (mk m) 102 (nI i) x = some (mk (sA m 102 (upd (m.1 102) i x))) := by rw [hp_ast_at (mA_102 m) h (by omega), mS_102]
theorem al_103 (m : xM2) {i : Nat} (h : i < 160) : hp_ald (mk m) 103 (nI i) = some (m.1 103 i) := hp_ald_at (mA_103 m) h (by omega)
theorem as_103 (m : xM2) {i : Nat} {x : Int32} (h : i < 160) : hp_ast (mk m) 103 (nI i) x = some (mk (sA m 103 (upd (m.1 103) i x))) := by rw [hp_ast_at (mA_103 m) h (by omega), mS_103]
theorem al_104 (m : xM2) {i : Nat} (h : i < 40) : hp_ald (mk m) 104 (nI i) = some (m.1 104 i) := hp_ald_at (mA_104 m) h (by omega)
theorem as_104 (m : xM2) {i : Nat} {x : Int32} (h : i < 40) : hp_ast (mk m) 104 (nI i) x = some (mk (sA m 104 (upd (m.1 104) i x))) := by rw [hp_ast_at (mA_104 m) h (by omega), mS_104]
def isNet (o : Nat) : Prop := o = 2 ∨ o = 20 ∨ o = 37 ∨ o = 51
def isLaw (o : Nat) : Prop := o = 10 ∨ o = 13 ∨ o = 28 ∨ o = 31 ∨ o = 45 ∨ o = 48 ∨ o = 59 ∨ o = 62 ∨ o = 66
def isQuay (o : Nat) : Prop := o = 1 ∨ o = 19
def isSheet (o : Nat) : Prop := o = 81 ∨ o = 83 ∨ o = 85 ∨ o = 87
theorem ntH {o : Nat} (h : isNet o) (m : xM2) : hp_is (mk m) o 3 = true := by rcases h with rfl | rfl | rfl | rfl <;> rfl
theorem ntR0 {o : Nat} (h : isNet o) (m : xM2) : hp_gR (mk m) o 3 0 = some (o + 1) := by rcases h with rfl | rfl | rfl | rfl <;> rfl
theorem ntA1 {o : Nat} (h : isNet o) (m : xM2) {i : Nat} (hi : i < 20) : hp_ald (mk m) (o + 1) (nI i) = some (m.1 (o + 1) i) := by
  rcases h with rfl | rfl | rfl | rfl
  · exact al_3 m hi
  · exact al_21 m hi
  · exact al_38 m hi
  · exact al_52 m hi
theorem ntS1 {o : Nat} (h : isNet o) (m : xM2) {i : Nat} {x : Int32} (hi : i < 20) : hp_ast (mk m) (o + 1) (nI i) x = some (mk (sA m (o + 1) (upd (m.1 (o + 1)) i x))) := by
  rcases h with rfl | rfl | rfl | rfl
  · exact as_3 m hi
  · exact as_21 m hi
  · exact as_38 m hi
  · exact as_52 m hi
theorem ntR1 {o : Nat} (h : isNet o) (m : xM2) : hp_gR (mk m) o 3 1 = some (o + 2) := by rcases h with rfl | rfl | rfl | rfl <;> rfl
theorem ntA2 {o : Nat} (h : isNet o) (m : xM2) {i : Nat} (hi : i < 20) : hp_ald (mk m) (o + 2) (nI i) = some (m.1 (o + 2) i) := by
  rcases h with rfl | rfl | rfl | rfl
  · exact al_4 m hi
  · exact al_22 m hi
  · exact al_39 m hi
  · exact al_53 m hi
theorem ntS2 {o : Nat} (h : isNet o) (m : xM2) {i : Nat} {x : Int32} (hi : i < 20) : hp_ast (mk m) (o + 2) (nI i) x = some (mk (sA m (o + 2) (upd (m.1 (o + 2)) i x))) := by
  rcases h with rfl | rfl | rfl | rfl
  · exact as_4 m hi
  · exact as_22 m hi
  · exact as_39 m hi
  · exact as_53 m hi
theorem ntR2 {o : Nat} (h : isNet o) (m : xM2) : hp_gR (mk m) o 3 2 = some (o + 3) := by rcases h with rfl | rfl | rfl | rfl <;> rfl
theorem ntA3 {o : Nat} (h : isNet o) (m : xM2) {i : Nat} (hi : i < 20) : hp_ald (mk m) (o + 3) (nI i) = some (m.1 (o + 3) i) := by
  rcases h with rfl | rfl | rfl | rfl
  · exact al_5 m hi
  · exact al_23 m hi
  · exact al_40 m hi
  · exact al_54 m hi
theorem ntS3 {o : Nat} (h : isNet o) (m : xM2) {i : Nat} {x : Int32} (hi : i < 20) : hp_ast (mk m) (o + 3) (nI i) x = some (mk (sA m (o + 3) (upd (m.1 (o + 3)) i x))) := by
  rcases h with rfl | rfl | rfl | rfl
  · exact as_5 m hi
  · exact as_23 m hi
  · exact as_40 m hi
  · exact as_54 m hi
theorem ntR3 {o : Nat} (h : isNet o) (m : xM2) : hp_gR (mk m) o 3 3 = some (o + 4) := by rcases h with rfl | rfl | rfl | rfl <;> rfl
theorem ntA4 {o : Nat} (h : isNet o) (m : xM2) {i : Nat} (hi : i < 20) : hp_ald (mk m) (o + 4) (nI i) = some (m.1 (o + 4) i) := by
  rcases h with rfl | rfl | rfl | rfl
  · exact al_6 m hi
  · exact al_24 m hi
  · exact al_41 m hi
  · exact al_55 m hi
theorem ntS4 {o : Nat} (h : isNet o) (m : xM2) {i : Nat} {x : Int32} (hi : i < 20) : hp_ast (mk m) (o + 4) (nI i) x = some (mk (sA m (o + 4) (upd (m.1 (o + 4)) i x))) := by
  rcases h with rfl | rfl | rfl | rfl
  · exact as_6 m hi
  · exact as_24 m hi
  · exact as_41 m hi
  · exact as_55 m hi
theorem ntR4 {o : Nat} (h : isNet o) (m : xM2) : hp_gR (mk m) o 3 4 = some (o + 5) := by rcases h with rfl | rfl | rfl | rfl <;> rfl
theorem ntA5 {o : Nat} (h : isNet o) (m : xM2) {i : Nat} (hi : i < 31) : hp_ald (mk m) (o + 5) (nI i) = some (m.1 (o + 5) i) := by
  rcases h with rfl | rfl | rfl | rfl
  · exact al_7 m hi
  · exact al_25 m hi
  · exact al_42 m hi
  · exact al_56 m hi
theorem ntS5 {o : Nat} (h : isNet o) (m : xM2) {i : Nat} {x : Int32} (hi : i < 31) : hp_ast (mk m) (o + 5) (nI i) x = some (mk (sA m (o + 5) (upd (m.1 (o + 5)) i x))) := by
  rcases h with rfl | rfl | rfl | rfl
  · exact as_7 m hi
  · exact as_25 m hi
  · exact as_42 m hi
  · exact as_56 m hi
theorem ntR5 {o : Nat} (h : isNet o) (m : xM2) : hp_gR (mk m) o 3 5 = some (o + 6) := by rcases h with rfl | rfl | rfl | rfl <;> rfl
theorem ntA6 {o : Nat} (h : isNet o) (m : xM2) {i : Nat} (hi : i < 31) : hp_ald (mk m) (o + 6) (nI i) = some (m.1 (o + 6) i) := by
  rcases h with rfl | rfl | rfl | rfl
  · exact al_8 m hi
  · exact al_26 m hi
  · exact al_43 m hi
  · exact al_57 m hi
theorem ntS6 {o : Nat} (h : isNet o) (m : xM2) {i : Nat} {x : Int32} (hi : i < 31) : hp_ast (mk m) (o + 6) (nI i) x = some (mk (sA m (o + 6) (upd (m.1 (o + 6)) i x))) := by
  rcases h with rfl | rfl | rfl | rfl
  · exact as_8 m hi
  · exact as_26 m hi
  · exact as_43 m hi
  · exact as_57 m hi
theorem ntR6 {o : Nat} (h : isNet o) (m : xM2) : hp_gR (mk m) o 3 6 = some (o + 7) := by rcases h with rfl | rfl | rfl | rfl <;> rfl
theorem ntA7 {o : Nat} (h : isNet o) (m : xM2) {i : Nat} (hi : i < 20) : hp_ald (mk m) (o + 7) (nI i) = some (m.1 (o + 7) i) := by
  rcases h with rfl | rfl | rfl | rfl
  · exact al_9 m hi
  · exact al_27 m hi
  · exact al_44 m hi
  · exact al_58 m hi
theorem ntS7 {o : Nat} (h : isNet o) (m : xM2) {i : Nat} {x : Int32} (hi : i < 20) : hp_ast (mk m) (o + 7) (nI i) x = some (mk (sA m (o + 7) (upd (m.1 (o + 7)) i x))) := by
  rcases h with rfl | rfl | rfl | rfl
  · exact as_9 m hi
  · exact as_27 m hi
  · exact as_44 m hi
  · exact as_58 m hi
theorem ntR7 {o : Nat} (h : isNet o) (m : xM2) : hp_gR (mk m) o 3 7 = some (o + 8) := by rcases h with rfl | rfl | rfl | rfl <;> rfl
theorem ntR8 {o : Nat} (h : isNet o) (m : xM2) : hp_gR (mk m) o 3 8 = some (o + 11) := by rcases h with rfl | rfl | rfl | rfl <;> rfl
theorem ntI9 {o : Nat} (h : isNet o) (m : xM2) : hp_gI (mk m) o 3 9 = some (m.2 o 9) := by rcases h with rfl | rfl | rfl | rfl <;> rfl
theorem ntP9 {o : Nat} (h : isNet o) (m : xM2) (x : Int32) : hp_put (mk m) o 3 9 (.int x) = some (mk (sF m o 9 x)) := by rcases h with rfl | rfl | rfl | rfl <;> rfl
theorem ntI10 {o : Nat} (h : isNet o) (m : xM2) : hp_gI (mk m) o 3 10 = some (m.2 o 10) := by rcases h with rfl | rfl | rfl | rfl <;> rfl
theorem ntP10 {o : Nat} (h : isNet o) (m : xM2) (x : Int32) : hp_put (mk m) o 3 10 (.int x) = some (mk (sF m o 10 x)) := by rcases h with rfl | rfl | rfl | rfl <;> rfl
theorem lwH {o : Nat} (h : isLaw o) (m : xM2) : hp_is (mk m) o 1 = true := by rcases h with rfl | rfl | rfl | rfl | rfl | rfl | rfl | rfl | rfl <;> rfl
theorem lwR0 {o : Nat} (h : isLaw o) (m : xM2) : hp_gR (mk m) o 1 0 = some (o + 1) := by rcases h with rfl | rfl | rfl | rfl | rfl | rfl | rfl | rfl | rfl <;> rfl
theorem lwA1 {o : Nat} (h : isLaw o) (m : xM2) {i : Nat} (hi : i < 60) : hp_ald (mk m) (o + 1) (nI i) = some (m.1 (o + 1) i) := by
  rcases h with rfl | rfl | rfl | rfl | rfl | rfl | rfl | rfl | rfl
  · exact al_11 m hi
  · exact al_14 m hi
  · exact al_29 m hi
  · exact al_32 m hi
  · exact al_46 m hi
  · exact al_49 m hi
  · exact al_60 m hi
  · exact al_63 m hi
  · exact al_67 m hi
theorem lwS1 {o : Nat} (h : isLaw o) (m : xM2) {i : Nat} {x : Int32} (hi : i < 60) : hp_ast (mk m) (o + 1) (nI i) x = some (mk (sA m (o + 1) (upd (m.1 (o + 1)) i x))) := by
  rcases h with rfl | rfl | rfl | rfl | rfl | rfl | rfl | rfl | rfl
  · exact as_11 m hi
  · exact as_14 m hi
  · exact as_29 m hi
  · exact as_32 m hi
  · exact as_46 m hi
  · exact as_49 m hi
  · exact as_60 m hi
  · exact as_63 m hi
  · exact as_67 m hi
theorem lwR1 {o : Nat} (h : isLaw o) (m : xM2) : hp_gR (mk m) o 1 1 = some (o + 2) := by rcases h with rfl | rfl | rfl | rfl | rfl | rfl | rfl | rfl | rfl <;> rfl
theorem lwA2 {o : Nat} (h : isLaw o) (m : xM2) {i : Nat} (hi : i < 60) : hp_ald (mk m) (o + 2) (nI i) = some (m.1 (o + 2) i) := by
  rcases h with rfl | rfl | rfl | rfl | rfl | rfl | rfl | rfl | rfl
  · exact al_12 m hi
  · exact al_15 m hi
  · exact al_30 m hi
  · exact al_33 m hi
  · exact al_47 m hi
  · exact al_50 m hi
  · exact al_61 m hi
  · exact al_64 m hi
  · exact al_68 m hi
theorem lwS2 {o : Nat} (h : isLaw o) (m : xM2) {i : Nat} {x : Int32} (hi : i < 60) : hp_ast (mk m) (o + 2) (nI i) x = some (mk (sA m (o + 2) (upd (m.1 (o + 2)) i x))) := by
  rcases h with rfl | rfl | rfl | rfl | rfl | rfl | rfl | rfl | rfl
  · exact as_12 m hi
  · exact as_15 m hi
  · exact as_30 m hi
  · exact as_33 m hi
  · exact as_47 m hi
  · exact as_50 m hi
  · exact as_61 m hi
  · exact as_64 m hi
  · exact as_68 m hi
theorem lwI2 {o : Nat} (h : isLaw o) (m : xM2) : hp_gI (mk m) o 1 2 = some (m.2 o 2) := by rcases h with rfl | rfl | rfl | rfl | rfl | rfl | rfl | rfl | rfl <;> rfl
theorem lwP2 {o : Nat} (h : isLaw o) (m : xM2) (x : Int32) : hp_put (mk m) o 1 2 (.int x) = some (mk (sF m o 2 x)) := by rcases h with rfl | rfl | rfl | rfl | rfl | rfl | rfl | rfl | rfl <;> rfl
theorem qyH {o : Nat} (h : isQuay o) (m : xM2) : hp_is (mk m) o 4 = true := by rcases h with rfl | rfl <;> rfl
theorem qyR0 {o : Nat} (h : isQuay o) (m : xM2) : hp_gR (mk m) o 4 0 = some (o + 1) := by rcases h with rfl | rfl <;> rfl
theorem qyR1 {o : Nat} (h : isQuay o) (m : xM2) : hp_gR (mk m) o 4 1 = some (o + 15) := by rcases h with rfl | rfl <;> rfl
theorem qyA15 {o : Nat} (h : isQuay o) (m : xM2) {i : Nat} (hi : i < 3) : hp_ald (mk m) (o + 15) (nI i) = some (m.1 (o + 15) i) := by
  rcases h with rfl | rfl
  · exact al_16 m hi
  · exact al_34 m hi
theorem qyS15 {o : Nat} (h : isQuay o) (m : xM2) {i : Nat} {x : Int32} (hi : i < 3) : hp_ast (mk m) (o + 15) (nI i) x = some (mk (sA m (o + 15) (upd (m.1 (o + 15)) i x))) := by
  rcases h with rfl | rfl
  · exact as_16 m hi
  · exact as_34 m hi
theorem qyR2 {o : Nat} (h : isQuay o) (m : xM2) : hp_gR (mk m) o 4 2 = some (o + 16) := by rcases h with rfl | rfl <;> rfl
theorem qyA16 {o : Nat} (h : isQuay o) (m : xM2) {i : Nat} (hi : i < 60) : hp_ald (mk m) (o + 16) (nI i) = some (m.1 (o + 16) i) := by
  rcases h with rfl | rfl
  · exact al_17 m hi
  · exact al_35 m hi
theorem qyS16 {o : Nat} (h : isQuay o) (m : xM2) {i : Nat} {x : Int32} (hi : i < 60) : hp_ast (mk m) (o + 16) (nI i) x = some (mk (sA m (o + 16) (upd (m.1 (o + 16)) i x))) := by
  rcases h with rfl | rfl
  · exact as_17 m hi
  · exact as_35 m hi
theorem qyR3 {o : Nat} (h : isQuay o) (m : xM2) : hp_gR (mk m) o 4 3 = some (o + 17) := by rcases h with rfl | rfl <;> rfl
theorem qyA17 {o : Nat} (h : isQuay o) (m : xM2) {i : Nat} (hi : i < 24) : hp_ald (mk m) (o + 17) (nI i) = some (m.1 (o + 17) i) := by
  rcases h with rfl | rfl
  · exact al_18 m hi
  · exact al_36 m hi
theorem qyS17 {o : Nat} (h : isQuay o) (m : xM2) {i : Nat} {x : Int32} (hi : i < 24) : hp_ast (mk m) (o + 17) (nI i) x = some (mk (sA m (o + 17) (upd (m.1 (o + 17)) i x))) := by
  rcases h with rfl | rfl
  · exact as_18 m hi
  · exact as_36 m hi
theorem qyI4 {o : Nat} (h : isQuay o) (m : xM2) : hp_gI (mk m) o 4 4 = some (m.2 o 4) := by rcases h with rfl | rfl <;> rfl
theorem qyP4 {o : Nat} (h : isQuay o) (m : xM2) (x : Int32) : hp_put (mk m) o 4 4 (.int x) = some (mk (sF m o 4 x)) := by rcases h with rfl | rfl <;> rfl
theorem qyI5 {o : Nat} (h : isQuay o) (m : xM2) : hp_gI (mk m) o 4 5 = some (m.2 o 5) := by rcases h with rfl | rfl <;> rfl
theorem qyP5 {o : Nat} (h : isQuay o) (m : xM2) (x : Int32) : hp_put (mk m) o 4 5 (.int x) = some (mk (sF m o 5 x)) := by rcases h with rfl | rfl <;> rfl
theorem qyI6 {o : Nat} (h : isQuay o) (m : xM2) : hp_gI (mk m) o 4 6 = some (m.2 o 6) := by rcases h with rfl | rfl <;> rfl
theorem qyP6 {o : Nat} (h : isQuay o) (m : xM2) (x : Int32) : hp_put (mk m) o 4 6 (.int x) = some (mk (sF m o 6 x)) := by rcases h with rfl | rfl <;> rfl
theorem qyI7 {o : Nat} (h : isQuay o) (m : xM2) : hp_gI (mk m) o 4 7 = some (m.2 o 7) := by rcases h with rfl | rfl <;> rfl
theorem qyP7 {o : Nat} (h : isQuay o) (m : xM2) (x : Int32) : hp_put (mk m) o 4 7 (.int x) = some (mk (sF m o 7 x)) := by rcases h with rfl | rfl <;> rfl
theorem stH {o : Nat} (h : isSheet o) (m : xM2) : hp_is (mk m) o 5 = true := by rcases h with rfl | rfl | rfl | rfl <;> rfl
theorem stR0 {o : Nat} (h : isSheet o) (m : xM2) : hp_gR (mk m) o 5 0 = some (o + 1) := by rcases h with rfl | rfl | rfl | rfl <;> rfl
theorem stA1 {o : Nat} (h : isSheet o) (m : xM2) {i : Nat} (hi : i < 40) : hp_ald (mk m) (o + 1) (nI i) = some (m.1 (o + 1) i) := by
  rcases h with rfl | rfl | rfl | rfl
  · exact al_82 m hi
  · exact al_84 m hi
  · exact al_86 m hi
  · exact al_88 m hi
theorem stS1 {o : Nat} (h : isSheet o) (m : xM2) {i : Nat} {x : Int32} (hi : i < 40) : hp_ast (mk m) (o + 1) (nI i) x = some (mk (sA m (o + 1) (upd (m.1 (o + 1)) i x))) := by
  rcases h with rfl | rfl | rfl | rfl
  · exact as_82 m hi
  · exact as_84 m hi
  · exact as_86 m hi
  · exact as_88 m hi
theorem stI1 {o : Nat} (h : isSheet o) (m : xM2) : hp_gI (mk m) o 5 1 = some (m.2 o 1) := by rcases h with rfl | rfl | rfl | rfl <;> rfl
theorem stP1 {o : Nat} (h : isSheet o) (m : xM2) (x : Int32) : hp_put (mk m) o 5 1 (.int x) = some (mk (sF m o 1 x)) := by rcases h with rfl | rfl | rfl | rfl <;> rfl
theorem stI2 {o : Nat} (h : isSheet o) (m : xM2) : hp_gI (mk m) o 5 2 = some (m.2 o 2) := by rcases h with rfl | rfl | rfl | rfl <;> rfl
theorem stP2 {o : Nat} (h : isSheet o) (m : xM2) (x : Int32) : hp_put (mk m) o 5 2 (.int x) = some (mk (sF m o 2 x)) := by rcases h with rfl | rfl | rfl | rfl <;> rfl
theorem nt_law0 {o : Nat} (h : isNet o) : isLaw (o + 8) := by
  rcases h with rfl | rfl | rfl | rfl
  · unfold isLaw; omega
  · unfold isLaw; omega
  · unfold isLaw; omega
  · unfold isLaw; omega
theorem nt_law1 {o : Nat} (h : isNet o) : isLaw (o + 11) := by
  rcases h with rfl | rfl | rfl | rfl
  · unfold isLaw; omega
  · unfold isLaw; omega
  · unfold isLaw; omega
  · unfold isLaw; omega
theorem qy_net {o : Nat} (h : isQuay o) : isNet (o + 1) := by
  rcases h with rfl | rfl
  · unfold isNet; omega
  · unfold isNet; omega
