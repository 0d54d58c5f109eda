def fm_X0_lesserKnot (a0 : Int32) : Int32 := if 16 ≤ a0 then (a0 - 16) else (((a0 / 4) * 5) + (ji_rem a0 4))
theorem tb_X0_lesserKnot_0 {st : xT} {d : Nat} {R : Option Value → qx_H → Prop} (hd : 0 ≤ d) {r : Int32} {H : qx_H} (hR : R (some (.int r)) H) (a0 : Int32) (h : fm_X0_lesserKnot a0 = r) : qx_V (xE st d) R (xc0 st) (0, [some (.int a0)], [], H) := by
  unfold fm_X0_lesserKnot at h
  refine qv_br (c := 16 ≤ a0) (a := (18, [some (.int a0)], [], H)) (b := (6, [some (.int a0)], [], H)) 3 rfl (fun c3 => ?_) (fun c3 => ?_)
  · replace h := qv_pos c3 h
    refine qv_run 3 (σ := (22, [some (.int a0)], [.int (a0 - 16)], H)) rfl ?_
    subst h
    exact qv_reti rfl hR
  · replace h := qv_neg c3 h
    refine qv_run 2 (σ := (8, [some (.int a0)], [.int 4, .int a0], H)) rfl ?_
    refine qv_div rfl (by decide) ?_
    refine qv_run 4 (σ := (13, [some (.int a0)], [.int 4, .int a0, .int ((a0 / 4) * 5)], H)) rfl ?_
    refine qv_div rfl (by decide) ?_
    refine qv_run 2 (σ := (22, [some (.int a0)], [.int (((a0 / 4) * 5) + (ji_rem a0 4))], H)) rfl ?_
    subst h
    exact qv_reti rfl hR
theorem th_X0_lesserKnot {st : xT} {d : Nat} (hd : 1 ≤ d) {a0 : Int32} {r : Int32} {H : qx_H} (h : fm_X0_lesserKnot a0 = r) : xE st d 0 [.int a0] H (some (.int r)) H := by
  obtain ⟨d, rfl⟩ : ∃ d', d = d' + 1 := ⟨d - 1, by omega⟩
  exact xE_of (xe0 st) xl0 (Nat.le_of_ble_eq_true rfl) (ls := [some (.int a0)]) rfl (tb_X0_lesserKnot_0 (by omega) ⟨rfl, rfl⟩ a0 h)
def fm_X0_greaterKnot (a0 : Int32) : Int32 := (fm_X0_lesserKnot a0) + (if 16 ≤ a0 then 5 else 1)
theorem tb_X0_greaterKnot_0 {st : xT} {d : Nat} {R : Option Value → qx_H → Prop} (hd : 1 ≤ d) {r : Int32} {H : qx_H} (hR : R (some (.int r)) H) (a0 : Int32) (h : fm_X0_greaterKnot a0 = r) : qx_V (xE st d) R (xc1 st) (0, [some (.int a0)], [], H) := by
  unfold fm_X0_greaterKnot at h
  refine qv_run 1 (σ := (1, [some (.int a0)], [.int a0], H)) rfl ?_
  refine qv_call [.int a0] rfl rfl rfl (Nat.le_of_ble_eq_true rfl) (th_X0_lesserKnot (by omega) rfl) rfl ?_
  refine qv_dia (c := 16 ≤ a0) (a := (14, [some (.int a0)], [.int (fm_X0_lesserKnot a0)], H)) (b := (10, [some (.int a0)], [.int (fm_X0_lesserKnot a0)], H)) (σ' := (15, [some (.int a0)], [.int (if 16 ≤ a0 then 5 else 1), .int (fm_X0_lesserKnot a0)], H)) 3 rfl ?_ (fun c7 kk => qv_run 1 (σ := (15, [some (.int a0)], [.int 5, .int (fm_X0_lesserKnot a0)], H)) rfl (qv_eq (by simp only [if_pos c7]) kk)) (fun c7 kk => qv_run 2 (σ := (15, [some (.int a0)], [.int 1, .int (fm_X0_lesserKnot a0)], H)) rfl (qv_eq (by simp only [if_neg c7]) kk))
  refine qv_run 1 (σ := (16, [some (.int a0)], [.int ((fm_X0_lesserKnot a0) + (if 16 ≤ a0 then 5 else 1))], H)) rfl ?_
  subst h
  exact qv_reti rfl hR
theorem th_X0_greaterKnot {st : xT} {d : Nat} (hd : 2 ≤ d) {a0 : Int32} {r : Int32} {H : qx_H} (h : fm_X0_greaterKnot a0 = r) : xE st d 1 [.int a0] H (some (.int r)) H := by
  obtain ⟨d, rfl⟩ : ∃ d', d = d' + 1 := ⟨d - 1, by omega⟩
  exact xE_of (xe1 st) xl1 (Nat.le_of_ble_eq_true rfl) (ls := [some (.int a0)]) rfl (tb_X0_greaterKnot_0 (by omega) ⟨rfl, rfl⟩ a0 h)
def fm_X0_endsOf (a0 : Int32) : Int32 := ji_shl (if 16 ≤ a0 then 33 else 3) (fm_X0_lesserKnot a0)
theorem tb_X0_endsOf_0 {st : xT} {d : Nat} {R : Option Value → qx_H → Prop} (hd : 1 ≤ d) {r : Int32} {H : qx_H} (hR : R (some (.int r)) H) (a0 : Int32) (h : fm_X0_endsOf a0 = r) : qx_V (xE st d) R (xc2 st) (0, [some (.int a0), none], [], H) := by
  unfold fm_X0_endsOf at h
  refine qv_dia (c := 16 ≤ a0) (a := (10, [some (.int a0), none], [], H)) (b := (6, [some (.int a0), none], [], H)) (σ' := (12, [some (.int a0), none], [.int (if 16 ≤ a0 then 33 else 3)], H)) 3 rfl ?_ (fun c3 kk => qv_run 1 (σ := (12, [some (.int a0), none], [.int 33], H)) rfl (qv_eq (by simp only [if_pos c3]) kk)) (fun c3 kk => qv_run 2 (σ := (12, [some (.int a0), none], [.int 3], H)) rfl (qv_eq (by simp only [if_neg c3]) kk))
  refine qv_run 3 (σ := (15, [some (.int a0), some (.int (if 16 ≤ a0 then 33 else 3))], [.int a0, .int (if 16 ≤ a0 then 33 else 3)], H)) rfl ?_
  refine qv_call [.int a0] rfl rfl rfl (Nat.le_of_ble_eq_true rfl) (th_X0_lesserKnot (by omega) rfl) rfl ?_
  refine qv_run 1 (σ := (19, [some (.int a0), some (.int (if 16 ≤ a0 then 33 else 3))], [.int (ji_shl (if 16 ≤ a0 then 33 else 3) (fm_X0_lesserKnot a0))], H)) rfl ?_
  subst h
  exact qv_reti rfl hR
theorem th_X0_endsOf {st : xT} {d : Nat} (hd : 2 ≤ d) {a0 : Int32} {r : Int32} {H : qx_H} (h : fm_X0_endsOf a0 = r) : xE st d 2 [.int a0] H (some (.int r)) H := by
  obtain ⟨d, rfl⟩ : ∃ d', d = d' + 1 := ⟨d - 1, by omega⟩
  exact xE_of (xe2 st) xl2 (Nat.le_of_ble_eq_true rfl) (ls := [some (.int a0), none]) rfl (tb_X0_endsOf_0 (by omega) ⟨rfl, rfl⟩ a0 h)
def fm_X0_between (a0 : Int32) (a1 : Int32) : Int32 := if (ji_min a0 a1) < 0 then ((-1)) else (if (ji_max a0 a1) < 20 then (if ((ji_max a0 a1) - (ji_min a0 a1)) = 5 then (16 + (ji_min a0 a1)) else (if ((ji_max a0 a1) - (ji_min a0 a1)) = 1 then (if 4 ≤ (ji_rem (ji_min a0 a1) 5) then ((-1)) else ((((ji_min a0 a1) / 5) * 4) + (ji_rem (ji_min a0 a1) 5))) else ((-1)))) else ((-1)))
theorem tb_X0_between_0 {st : xT} {d : Nat} {R : Option Value → qx_H → Prop} (hd : 0 ≤ d) {r : Int32} {H : qx_H} (hR : R (some (.int r)) H) (a0 : Int32) (a1 : Int32) (h : fm_X0_between a0 a1 = r) : qx_V (xE st d) R (xc3 st) (0, [some (.int a0), some (.int a1), none, none], [], H) := by
  unfold fm_X0_between at h
  refine qv_br (c := (ji_min a0 a1) < 0) (a := (22, [some (.int a0), some (.int a1), some (.int (ji_min a0 a1)), some (.int (ji_max a0 a1))], [], H)) (b := (16, [some (.int a0), some (.int a1), some (.int (ji_min a0 a1)), some (.int (ji_max a0 a1))], [], H)) 10 rfl (fun c13 => ?_) (fun c13 => ?_)
  · replace h := qv_pos c13 h
    refine qv_run 1 (σ := (23, [some (.int a0), some (.int a1), some (.int (ji_min a0 a1)), some (.int (ji_max a0 a1))], [.int (-1)], H)) rfl ?_
    subst h
    exact qv_reti rfl hR
  · replace h := qv_neg c13 h
    refine qv_br (c := (ji_max a0 a1) < 20) (a := (24, [some (.int a0), some (.int a1), some (.int (ji_min a0 a1)), some (.int (ji_max a0 a1))], [], H)) (b := (22, [some (.int a0), some (.int a1), some (.int (ji_min a0 a1)), some (.int (ji_max a0 a1))], [], H)) 3 rfl (fun c19 => ?_) (fun c19 => ?_)
    · replace h := qv_pos c19 h
      refine qv_br (c := ((ji_max a0 a1) - (ji_min a0 a1)) = 5) (a := (31, [some (.int a0), some (.int a1), some (.int (ji_min a0 a1)), some (.int (ji_max a0 a1))], [], H)) (b := (36, [some (.int a0), some (.int a1), some (.int (ji_min a0 a1)), some (.int (ji_max a0 a1))], [], H)) 5 rfl (fun c28 => ?_) (fun c28 => ?_)
      · replace h := qv_pos c28 h
        refine qv_run 3 (σ := (35, [some (.int a0), some (.int a1), some (.int (ji_min a0 a1)), some (.int (ji_max a0 a1))], [.int (16 + (ji_min a0 a1))], H)) rfl ?_
        subst h
        exact qv_reti rfl hR
      · replace h := qv_neg c28 h
        refine qv_br (c := ((ji_max a0 a1) - (ji_min a0 a1)) = 1) (a := (43, [some (.int a0), some (.int a1), some (.int (ji_min a0 a1)), some (.int (ji_max a0 a1))], [], H)) (b := (60, [some (.int a0), some (.int a1), some (.int (ji_min a0 a1)), some (.int (ji_max a0 a1))], [], H)) 5 rfl (fun c40 => ?_) (fun c40 => ?_)
        · replace h := qv_pos c40 h
          refine qv_run 2 (σ := (45, [some (.int a0), some (.int a1), some (.int (ji_min a0 a1)), some (.int (ji_max a0 a1))], [.int 5, .int (ji_min a0 a1)], H)) rfl ?_
          refine qv_div rfl (by decide) ?_
          refine qv_br (c := 4 ≤ (ji_rem (ji_min a0 a1) 5)) (a := (60, [some (.int a0), some (.int a1), some (.int (ji_min a0 a1)), some (.int (ji_max a0 a1))], [], H)) (b := (50, [some (.int a0), some (.int a1), some (.int (ji_min a0 a1)), some (.int (ji_max a0 a1))], [], H)) 2 rfl (fun c47 => ?_) (fun c47 => ?_)
          · replace h := qv_pos c47 h
            refine qv_run 1 (σ := (61, [some (.int a0), some (.int a1), some (.int (ji_min a0 a1)), some (.int (ji_max a0 a1))], [.int (-1)], H)) rfl ?_
            subst h
            exact qv_reti rfl hR
          · replace h := qv_neg c47 h
            refine qv_run 2 (σ := (52, [some (.int a0), some (.int a1), some (.int (ji_min a0 a1)), some (.int (ji_max a0 a1))], [.int 5, .int (ji_min a0 a1)], H)) rfl ?_
            refine qv_div rfl (by decide) ?_
            refine qv_run 4 (σ := (57, [some (.int a0), some (.int a1), some (.int (ji_min a0 a1)), some (.int (ji_max a0 a1))], [.int 5, .int (ji_min a0 a1), .int (((ji_min a0 a1) / 5) * 4)], H)) rfl ?_
            refine qv_div rfl (by decide) ?_
            refine qv_run 1 (σ := (59, [some (.int a0), some (.int a1), some (.int (ji_min a0 a1)), some (.int (ji_max a0 a1))], [.int ((((ji_min a0 a1) / 5) * 4) + (ji_rem (ji_min a0 a1) 5))], H)) rfl ?_
            subst h
            exact qv_reti rfl hR
        · replace h := qv_neg c40 h
          refine qv_run 1 (σ := (61, [some (.int a0), some (.int a1), some (.int (ji_min a0 a1)), some (.int (ji_max a0 a1))], [.int (-1)], H)) rfl ?_
          subst h
          exact qv_reti rfl hR
    · replace h := qv_neg c19 h
      refine qv_run 1 (σ := (23, [some (.int a0), some (.int a1), some (.int (ji_min a0 a1)), some (.int (ji_max a0 a1))], [.int (-1)], H)) rfl ?_
      subst h
      exact qv_reti rfl hR
theorem th_X0_between {st : xT} {d : Nat} (hd : 1 ≤ d) {a0 : Int32} {a1 : Int32} {r : Int32} {H : qx_H} (h : fm_X0_between a0 a1 = r) : xE st d 3 [.int a0, .int a1] H (some (.int r)) H := by
  obtain ⟨d, rfl⟩ : ∃ d', d = d' + 1 := ⟨d - 1, by omega⟩
  exact xE_of (xe3 st) xl3 (Nat.le_of_ble_eq_true rfl) (ls := [some (.int a0), some (.int a1), none, none]) rfl (tb_X0_between_0 (by omega) ⟨rfl, rfl⟩ a0 a1 h)
def fm_X0_meshesBeside (a0 : Int32) : Int32 := if 16 ≤ a0 then ((0 ||| (if 4 ≤ (ji_rem (a0 - 16) 5) then 0 else ji_shl 1 ((4 * ((a0 - 16) / 5)) + (ji_rem (a0 - 16) 5)))) ||| (if (ji_rem (a0 - 16) 5) ≤ 0 then 0 else ji_shl 1 (((4 * ((a0 - 16) / 5)) + (ji_rem (a0 - 16) 5)) - 1))) else ((0 ||| (if 12 ≤ a0 then 0 else ji_shl 1 a0)) ||| (if a0 < 4 then 0 else ji_shl 1 (a0 - 4)))
theorem tb_X0_meshesBeside_0 {st : xT} {d : Nat} {R : Option Value → qx_H → Prop} (hd : 0 ≤ d) {r : Int32} {H : qx_H} (hR : R (some (.int r)) H) (a0 : Int32) (h : fm_X0_meshesBeside a0 = r) : qx_V (xE st d) R (xc4 st) (0, [some (.int a0), none, none, none], [], H) := by
  unfold fm_X0_meshesBeside at h
  refine qv_br (c := 16 ≤ a0) (a := (43, [some (.int a0), some (.int 0), none, none], [], H)) (b := (8, [some (.int a0), some (.int 0), none, none], [], H)) 5 rfl (fun c5 => ?_) (fun c5 => ?_)
  · replace h := qv_pos c5 h
    refine qv_run 4 (σ := (48, [some (.int a0), some (.int 0), none, none], [.int 5, .int (a0 - 16)], H)) rfl ?_
    refine qv_div rfl (by decide) ?_
    refine qv_run 5 (σ := (55, [some (.int a0), some (.int 0), some (.int ((a0 - 16) / 5)), none], [.int 5, .int (a0 - 16)], H)) rfl ?_
    refine qv_div rfl (by decide) ?_
    refine qv_dia (c := 4 ≤ (ji_rem (a0 - 16) 5)) (a := (73, [some (.int a0), some (.int 0), some (.int ((a0 - 16) / 5)), some (.int (ji_rem (a0 - 16) 5))], [.int 0], H)) (b := (63, [some (.int a0), some (.int 0), some (.int ((a0 - 16) / 5)), some (.int (ji_rem (a0 - 16) 5))], [.int 0], H)) (σ' := (74, [some (.int a0), some (.int 0), some (.int ((a0 - 16) / 5)), some (.int (ji_rem (a0 - 16) 5))], [.int (if 4 ≤ (ji_rem (a0 - 16) 5) then 0 else ji_shl 1 ((4 * ((a0 - 16) / 5)) + (ji_rem (a0 - 16) 5))), .int 0], H)) 5 rfl ?_ (fun c60 kk => qv_run 1 (σ := (74, [some (.int a0), some (.int 0), some (.int ((a0 - 16) / 5)), some (.int (ji_rem (a0 - 16) 5))], [.int 0, .int 0], H)) rfl (qv_eq (by simp only [if_pos c60]) kk)) (fun c60 kk => qv_run 8 (σ := (74, [some (.int a0), some (.int 0), some (.int ((a0 - 16) / 5)), some (.int (ji_rem (a0 - 16) 5))], [.int (ji_shl 1 ((4 * ((a0 - 16) / 5)) + (ji_rem (a0 - 16) 5))), .int 0], H)) rfl (qv_eq (by simp only [if_neg c60]) kk))
    refine qv_dia (c := (ji_rem (a0 - 16) 5) ≤ 0) (a := (93, [some (.int a0), some (.int (0 ||| (if 4 ≤ (ji_rem (a0 - 16) 5) then 0 else ji_shl 1 ((4 * ((a0 - 16) / 5)) + (ji_rem (a0 - 16) 5))))), some (.int ((a0 - 16) / 5)), some (.int (ji_rem (a0 - 16) 5))], [.int (0 ||| (if 4 ≤ (ji_rem (a0 - 16) 5) then 0 else ji_shl 1 ((4 * ((a0 - 16) / 5)) + (ji_rem (a0 - 16) 5))))], H)) (b := (81, [some (.int a0), some (.int (0 ||| (if 4 ≤ (ji_rem (a0 - 16) 5) then 0 else ji_shl 1 ((4 * ((a0 - 16) / 5)) + (ji_rem (a0 - 16) 5))))), some (.int ((a0 - 16) / 5)), some (.int (ji_rem (a0 - 16) 5))], [.int (0 ||| (if 4 ≤ (ji_rem (a0 - 16) 5) then 0 else ji_shl 1 ((4 * ((a0 - 16) / 5)) + (ji_rem (a0 - 16) 5))))], H)) (σ' := (94, [some (.int a0), some (.int (0 ||| (if 4 ≤ (ji_rem (a0 - 16) 5) then 0 else ji_shl 1 ((4 * ((a0 - 16) / 5)) + (ji_rem (a0 - 16) 5))))), some (.int ((a0 - 16) / 5)), some (.int (ji_rem (a0 - 16) 5))], [.int (if (ji_rem (a0 - 16) 5) ≤ 0 then 0 else ji_shl 1 (((4 * ((a0 - 16) / 5)) + (ji_rem (a0 - 16) 5)) - 1)), .int (0 ||| (if 4 ≤ (ji_rem (a0 - 16) 5) then 0 else ji_shl 1 ((4 * ((a0 - 16) / 5)) + (ji_rem (a0 - 16) 5))))], H)) 5 rfl ?_ (fun c78 kk => qv_run 1 (σ := (94, [some (.int a0), some (.int (0 ||| (if 4 ≤ (ji_rem (a0 - 16) 5) then 0 else ji_shl 1 ((4 * ((a0 - 16) / 5)) + (ji_rem (a0 - 16) 5))))), some (.int ((a0 - 16) / 5)), some (.int (ji_rem (a0 - 16) 5))], [.int 0, .int (0 ||| (if 4 ≤ (ji_rem (a0 - 16) 5) then 0 else ji_shl 1 ((4 * ((a0 - 16) / 5)) + (ji_rem (a0 - 16) 5))))], H)) rfl (qv_eq (by simp only [if_pos c78]) kk)) (fun c78 kk => qv_run 10 (σ := (94, [some (.int a0), some (.int (0 ||| (if 4 ≤ (ji_rem (a0 - 16) 5) then 0 else ji_shl 1 ((4 * ((a0 - 16) / 5)) + (ji_rem (a0 - 16) 5))))), some (.int ((a0 - 16) / 5)), some (.int (ji_rem (a0 - 16) 5))], [.int (ji_shl 1 (((4 * ((a0 - 16) / 5)) + (ji_rem (a0 - 16) 5)) - 1)), .int (0 ||| (if 4 ≤ (ji_rem (a0 - 16) 5) then 0 else ji_shl 1 ((4 * ((a0 - 16) / 5)) + (ji_rem (a0 - 16) 5))))], H)) rfl (qv_eq (by simp only [if_neg c78]) kk))
    refine qv_run 3 (σ := (97, [some (.int a0), some (.int ((0 ||| (if 4 ≤ (ji_rem (a0 - 16) 5) then 0 else ji_shl 1 ((4 * ((a0 - 16) / 5)) + (ji_rem (a0 - 16) 5)))) ||| (if (ji_rem (a0 - 16) 5) ≤ 0 then 0 else ji_shl 1 (((4 * ((a0 - 16) / 5)) + (ji_rem (a0 - 16) 5)) - 1)))), some (.int ((a0 - 16) / 5)), some (.int (ji_rem (a0 - 16) 5))], [.int ((0 ||| (if 4 ≤ (ji_rem (a0 - 16) 5) then 0 else ji_shl 1 ((4 * ((a0 - 16) / 5)) + (ji_rem (a0 - 16) 5)))) ||| (if (ji_rem (a0 - 16) 5) ≤ 0 then 0 else ji_shl 1 (((4 * ((a0 - 16) / 5)) + (ji_rem (a0 - 16) 5)) - 1)))], H)) rfl ?_
    subst h
    exact qv_reti rfl hR
  · replace h := qv_neg c5 h
    refine qv_dia (c := 12 ≤ a0) (a := (21, [some (.int a0), some (.int 0), none, none], [.int 0], H)) (b := (15, [some (.int a0), some (.int 0), none, none], [.int 0], H)) (σ' := (22, [some (.int a0), some (.int 0), none, none], [.int (if 12 ≤ a0 then 0 else ji_shl 1 a0), .int 0], H)) 4 rfl ?_ (fun c12 kk => qv_run 1 (σ := (22, [some (.int a0), some (.int 0), none, none], [.int 0, .int 0], H)) rfl (qv_eq (by simp only [if_pos c12]) kk)) (fun c12 kk => qv_run 4 (σ := (22, [some (.int a0), some (.int 0), none, none], [.int (ji_shl 1 a0), .int 0], H)) rfl (qv_eq (by simp only [if_neg c12]) kk))
    refine qv_dia (c := a0 < 4) (a := (38, [some (.int a0), some (.int (0 ||| (if 12 ≤ a0 then 0 else ji_shl 1 a0))), none, none], [.int (0 ||| (if 12 ≤ a0 then 0 else ji_shl 1 a0))], H)) (b := (30, [some (.int a0), some (.int (0 ||| (if 12 ≤ a0 then 0 else ji_shl 1 a0))), none, none], [.int (0 ||| (if 12 ≤ a0 then 0 else ji_shl 1 a0))], H)) (σ' := (39, [some (.int a0), some (.int (0 ||| (if 12 ≤ a0 then 0 else ji_shl 1 a0))), none, none], [.int (if a0 < 4 then 0 else ji_shl 1 (a0 - 4)), .int (0 ||| (if 12 ≤ a0 then 0 else ji_shl 1 a0))], H)) 6 rfl ?_ (fun c27 kk => qv_run 1 (σ := (39, [some (.int a0), some (.int (0 ||| (if 12 ≤ a0 then 0 else ji_shl 1 a0))), none, none], [.int 0, .int (0 ||| (if 12 ≤ a0 then 0 else ji_shl 1 a0))], H)) rfl (qv_eq (by simp only [if_pos c27]) kk)) (fun c27 kk => qv_run 6 (σ := (39, [some (.int a0), some (.int (0 ||| (if 12 ≤ a0 then 0 else ji_shl 1 a0))), none, none], [.int (ji_shl 1 (a0 - 4)), .int (0 ||| (if 12 ≤ a0 then 0 else ji_shl 1 a0))], H)) rfl (qv_eq (by simp only [if_neg c27]) kk))
    refine qv_run 3 (σ := (42, [some (.int a0), some (.int ((0 ||| (if 12 ≤ a0 then 0 else ji_shl 1 a0)) ||| (if a0 < 4 then 0 else ji_shl 1 (a0 - 4)))), none, none], [.int ((0 ||| (if 12 ≤ a0 then 0 else ji_shl 1 a0)) ||| (if a0 < 4 then 0 else ji_shl 1 (a0 - 4)))], H)) rfl ?_
    subst h
    exact qv_reti rfl hR
theorem th_X0_meshesBeside {st : xT} {d : Nat} (hd : 1 ≤ d) {a0 : Int32} {r : Int32} {H : qx_H} (h : fm_X0_meshesBeside a0 = r) : xE st d 4 [.int a0] H (some (.int r)) H := by
  obtain ⟨d, rfl⟩ : ∃ d', d = d' + 1 := ⟨d - 1, by omega⟩
  exact xE_of (xe4 st) xl4 (Nat.le_of_ble_eq_true rfl) (ls := [some (.int a0), none, none, none]) rfl (tb_X0_meshesBeside_0 (by omega) ⟨rfl, rfl⟩ a0 h)
def fm_X0_spread_b69 (k5 : Int32 → Int32 → Int32 → Int32 → qx_H → Option Int32) (k18 : Int32 → Int32 → Int32 → Int32 → Int32 → Int32 → qx_H → Option Int32) (l0 : Int32) (l2 : Int32) (l3 : Int32) (l4 : Int32) (l5 : Int32) (l6 : Int32) (H : qx_H) : Option Int32 := k18 l0 l2 l3 l4 l5 (l6 + 1) H
def fm_X0_spread_b51 (k5 : Int32 → Int32 → Int32 → Int32 → qx_H → Option Int32) (k18 : Int32 → Int32 → Int32 → Int32 → Int32 → Int32 → qx_H → Option Int32) (l0 : Int32) (l2 : Int32) (l3 : Int32) (l4 : Int32) (l5 : Int32) (l6 : Int32) (t0 : Int32) (H : qx_H) : Option Int32 := fm_X0_spread_b69 k5 k18 l0 l2 (l3 ||| (if (l3 &&& t0) = 0 then 0 else t0)) l4 l5 l6 H
def fm_X0_spread_b18 (k5 : Int32 → Int32 → Int32 → Int32 → qx_H → Option Int32) : Nat → Int32 → Int32 → Int32 → Int32 → Int32 → Int32 → qx_H → Option Int32
  | 0, _, _, _, _, _, _, _ => none
  | n + 1, l0, l2, l3, l4, l5, l6, H => if 31 ≤ l6 then (if l3 = l5 then (some l3) else (k5 l0 l2 l3 (l4 + 1) H)) else (if ((ji_ushr l0 l6) &&& 1) = 0 then (fm_X0_spread_b69 k5 (fm_X0_spread_b18 k5 n) l0 l2 l3 l4 l5 l6 H) else (if l2 = 0 then (fm_X0_spread_b51 k5 (fm_X0_spread_b18 k5 n) l0 l2 l3 l4 l5 l6 (fm_X0_endsOf l6) H) else (fm_X0_spread_b51 k5 (fm_X0_spread_b18 k5 n) l0 l2 l3 l4 l5 l6 (fm_X0_meshesBeside l6) H)))
def fm_X0_spread_b5 : Nat → Int32 → Int32 → Int32 → Int32 → qx_H → Option Int32
  | 0, _, _, _, _, _ => none
  | n + 1, l0, l2, l3, l4, H => if 31 ≤ l4 then (some l3) else (fm_X0_spread_b18 (fm_X0_spread_b5 n) 5000 l0 l2 l3 l4 l3 0 H)
def fm_X0_spread (a0 : Int32) (a1 : Int32) (a2 : Int32) (H : qx_H) : Option Int32 := fm_X0_spread_b5 5000 a0 a2 a1 0 H
theorem tb_X0_spread_69 {st : xT} {d : Nat} {R : Option Value → qx_H → Prop} (hd : 2 ≤ d) {r : Int32} {H : qx_H} (k5 : Int32 → Int32 → Int32 → Int32 → qx_H → Option Int32) (hk5 : ∀ (l0 : Int32) (l2 : Int32) (l3 : Int32) (l4 : Int32) (z1 : Option Value) (hz1 : qx_ns z1 = true) (z5 : Option Value) (hz5 : qx_ns z5 = true) (z6 : Option Value) (hz6 : qx_ns z6 = true) (z7 : Option Value) (hz7 : qx_ns z7 = true), k5 l0 l2 l3 l4 H = some r → qx_V (xE st d) R (xc5 st) (5, [some (.int l0), z1, some (.int l2), some (.int l3), some (.int l4), z5, z6, z7], [], H)) (k18 : Int32 → Int32 → Int32 → Int32 → Int32 → Int32 → qx_H → Option Int32) (hk18 : ∀ (l0 : Int32) (l2 : Int32) (l3 : Int32) (l4 : Int32) (l5 : Int32) (l6 : Int32) (z1 : Option Value) (hz1 : qx_ns z1 = true) (z7 : Option Value) (hz7 : qx_ns z7 = true), k18 l0 l2 l3 l4 l5 l6 H = some r → qx_V (xE st d) R (xc5 st) (18, [some (.int l0), z1, some (.int l2), some (.int l3), some (.int l4), some (.int l5), some (.int l6), z7], [], H)) (hR : R (some (.int r)) H) (l0 : Int32) (l2 : Int32) (l3 : Int32) (l4 : Int32) (l5 : Int32) (l6 : Int32) (z1 : Option Value) (hz1 : qx_ns z1 = true) (z7 : Option Value) (hz7 : qx_ns z7 = true) (h : fm_X0_spread_b69 k5 k18 l0 l2 l3 l4 l5 l6 H = some r) : qx_V (xE st d) R (xc5 st) (69, [some (.int l0), z1, some (.int l2), some (.int l3), some (.int l4), some (.int l5), some (.int l6), z7], [], H) := by
  unfold fm_X0_spread_b69 at h
  refine qv_run 2 (σ := (18, [some (.int l0), z1, some (.int l2), some (.int l3), some (.int l4), some (.int l5), some (.int (l6 + 1)), z7], [], H)) rfl ?_
  exact hk18 l0 l2 l3 l4 l5 (l6 + 1) z1 hz1 z7 hz7 h
theorem tb_X0_spread_51 {st : xT} {d : Nat} {R : Option Value → qx_H → Prop} (hd : 2 ≤ d) {r : Int32} {H : qx_H} (k5 : Int32 → Int32 → Int32 → Int32 → qx_H → Option Int32) (hk5 : ∀ (l0 : Int32) (l2 : Int32) (l3 : Int32) (l4 : Int32) (z1 : Option Value) (hz1 : qx_ns z1 = true) (z5 : Option Value) (hz5 : qx_ns z5 = true) (z6 : Option Value) (hz6 : qx_ns z6 = true) (z7 : Option Value) (hz7 : qx_ns z7 = true), k5 l0 l2 l3 l4 H = some r → qx_V (xE st d) R (xc5 st) (5, [some (.int l0), z1, some (.int l2), some (.int l3), some (.int l4), z5, z6, z7], [], H)) (k18 : Int32 → Int32 → Int32 → Int32 → Int32 → Int32 → qx_H → Option Int32) (hk18 : ∀ (l0 : Int32) (l2 : Int32) (l3 : Int32) (l4 : Int32) (l5 : Int32) (l6 : Int32) (z1 : Option Value) (hz1 : qx_ns z1 = true) (z7 : Option Value) (hz7 : qx_ns z7 = true), k18 l0 l2 l3 l4 l5 l6 H = some r → qx_V (xE st d) R (xc5 st) (18, [some (.int l0), z1, some (.int l2), some (.int l3), some (.int l4), some (.int l5), some (.int l6), z7], [], H)) (hR : R (some (.int r)) H) (l0 : Int32) (l2 : Int32) (l3 : Int32) (l4 : Int32) (l5 : Int32) (l6 : Int32) (t0 : Int32) (z1 : Option Value) (hz1 : qx_ns z1 = true) (z7 : Option Value) (hz7 : qx_ns z7 = true) (h : fm_X0_spread_b51 k5 k18 l0 l2 l3 l4 l5 l6 t0 H = some r) : qx_V (xE st d) R (xc5 st) (51, [some (.int l0), z1, some (.int l2), some (.int l3), some (.int l4), some (.int l5), some (.int l6), z7], [.int t0], H) := by
  unfold fm_X0_spread_b51 at h
  refine qv_dia (c := (l3 &&& t0) = 0) (a := (66, [some (.int l0), z1, some (.int l2), some (.int l3), some (.int l4), some (.int l5), some (.int l6), some (.int t0)], [.int l3], H)) (b := (61, [some (.int l0), z1, some (.int l2), some (.int l3), some (.int l4), some (.int l5), some (.int l6), some (.int t0)], [.int l3], H)) (σ' := (67, [some (.int l0), z1, some (.int l2), some (.int l3), some (.int l4), some (.int l5), some (.int l6), some (.int t0)], [.int (if (l3 &&& t0) = 0 then 0 else t0), .int l3], H)) 6 rfl ?_ (fun c58 kk => qv_run 1 (σ := (67, [some (.int l0), z1, some (.int l2), some (.int l3), some (.int l4), some (.int l5), some (.int l6), some (.int t0)], [.int 0, .int l3], H)) rfl (qv_eq (by simp only [if_pos c58]) kk)) (fun c58 kk => qv_run 2 (σ := (67, [some (.int l0), z1, some (.int l2), some (.int l3), some (.int l4), some (.int l5), some (.int l6), some (.int t0)], [.int t0, .int l3], H)) rfl (qv_eq (by simp only [if_neg c58]) kk))
  refine qv_run 2 (σ := (69, [some (.int l0), z1, some (.int l2), some (.int (l3 ||| (if (l3 &&& t0) = 0 then 0 else t0))), some (.int l4), some (.int l5), some (.int l6), some (.int t0)], [], H)) rfl ?_
  exact tb_X0_spread_69 hd _ hk5 _ hk18 hR l0 l2 (l3 ||| (if (l3 &&& t0) = 0 then 0 else t0)) l4 l5 l6 z1 hz1 (some (.int t0)) rfl h
theorem tb_X0_spread_18 {st : xT} {d : Nat} {R : Option Value → qx_H → Prop} (hd : 2 ≤ d) {r : Int32} {H : qx_H} (k5 : Int32 → Int32 → Int32 → Int32 → qx_H → Option Int32) (hk5 : ∀ (l0 : Int32) (l2 : Int32) (l3 : Int32) (l4 : Int32) (z1 : Option Value) (hz1 : qx_ns z1 = true) (z5 : Option Value) (hz5 : qx_ns z5 = true) (z6 : Option Value) (hz6 : qx_ns z6 = true) (z7 : Option Value) (hz7 : qx_ns z7 = true), k5 l0 l2 l3 l4 H = some r → qx_V (xE st d) R (xc5 st) (5, [some (.int l0), z1, some (.int l2), some (.int l3), some (.int l4), z5, z6, z7], [], H)) (hR : R (some (.int r)) H) : ∀ (n : Nat) (l0 : Int32) (l2 : Int32) (l3 : Int32) (l4 : Int32) (l5 : Int32) (l6 : Int32) (z1 : Option Value) (hz1 : qx_ns z1 = true) (z7 : Option Value) (hz7 : qx_ns z7 = true) (h : fm_X0_spread_b18 k5 n l0 l2 l3 l4 l5 l6 H = some r), qx_V (xE st d) R (xc5 st) (18, [some (.int l0), z1, some (.int l2), some (.int l3), some (.int l4), some (.int l5), some (.int l6), z7], [], H) := by
  intro n
  induction n with
  | zero => intro l0 l2 l3 l4 l5 l6 z1 hz1 z7 hz7 h; exact nomatch (show (none : Option Int32) = some r from h)
  | succ n ih =>
    intro l0 l2 l3 l4 l5 l6 z1 hz1 z7 hz7 h
    unfold fm_X0_spread_b18 at h
    refine qv_br (c := 31 ≤ l6) (a := (75, [some (.int l0), z1, some (.int l2), some (.int l3), some (.int l4), some (.int l5), some (.int l6), z7], [], H)) (b := (25, [some (.int l0), z1, some (.int l2), some (.int l3), some (.int l4), some (.int l5), some (.int l6), z7], [], H)) 3 rfl (fun c22 => ?_) (fun c22 => ?_)
    · replace h := qv_pos c22 h
      refine qv_br (c := l3 = l5) (a := (81, [some (.int l0), z1, some (.int l2), some (.int l3), some (.int l4), some (.int l5), some (.int l6), z7], [], H)) (b := (83, [some (.int l0), z1, some (.int l2), some (.int l3), some (.int l4), some (.int l5), some (.int l6), z7], [], H)) 3 rfl (fun c78 => ?_) (fun c78 => ?_)
      · replace h := qv_pos c78 h
        refine qv_run 1 (σ := (82, [some (.int l0), z1, some (.int l2), some (.int l3), some (.int l4), some (.int l5), some (.int l6), z7], [.int l3], H)) rfl ?_
        cases h
        exact qv_reti rfl hR
      · replace h := qv_neg c78 h
        refine qv_run 2 (σ := (5, [some (.int l0), z1, some (.int l2), some (.int l3), some (.int (l4 + 1)), some (.int l5), some (.int l6), z7], [], H)) rfl ?_
        exact hk5 l0 l2 l3 (l4 + 1) z1 hz1 (some (.int l5)) rfl (some (.int l6)) rfl z7 hz7 h
    · replace h := qv_neg c22 h
      refine qv_br (c := ((ji_ushr l0 l6) &&& 1) = 0) (a := (69, [some (.int l0), z1, some (.int l2), some (.int l3), some (.int l4), some (.int l5), some (.int l6), z7], [], H)) (b := (34, [some (.int l0), z1, some (.int l2), some (.int l3), some (.int l4), some (.int l5), some (.int l6), z7], [], H)) 6 rfl (fun c31 => ?_) (fun c31 => ?_)
      · replace h := qv_pos c31 h
        exact tb_X0_spread_69 hd _ hk5 _ ih hR l0 l2 l3 l4 l5 l6 z1 hz1 z7 hz7 h
      · replace h := qv_neg c31 h
        refine qv_br (c := l2 = 0) (a := (46, [some (.int l0), z1, some (.int l2), some (.int l3), some (.int l4), some (.int l5), some (.int l6), z7], [], H)) (b := (38, [some (.int l0), z1, some (.int l2), some (.int l3), some (.int l4), some (.int l5), some (.int l6), z7], [], H)) 2 rfl (fun c35 => ?_) (fun c35 => ?_)
        · replace h := qv_pos c35 h
          refine qv_run 1 (σ := (48, [some (.int l0), z1, some (.int l2), some (.int l3), some (.int l4), some (.int l5), some (.int l6), z7], [.int l6], H)) rfl ?_
          refine qv_call [.int l6] rfl rfl rfl (Nat.le_of_ble_eq_true rfl) (th_X0_endsOf (by omega) rfl) rfl ?_
          exact tb_X0_spread_51 hd _ hk5 _ ih hR l0 l2 l3 l4 l5 l6 (fm_X0_endsOf l6) z1 hz1 z7 hz7 h
        · replace h := qv_neg c35 h
          refine qv_run 1 (σ := (40, [some (.int l0), z1, some (.int l2), some (.int l3), some (.int l4), some (.int l5), some (.int l6), z7], [.int l6], H)) rfl ?_
          refine qv_call [.int l6] rfl rfl rfl (Nat.le_of_ble_eq_true rfl) (th_X0_meshesBeside (by omega) rfl) rfl ?_
          refine qv_run 1 (σ := (51, [some (.int l0), z1, some (.int l2), some (.int l3), some (.int l4), some (.int l5), some (.int l6), z7], [.int (fm_X0_meshesBeside l6)], H)) rfl ?_
          exact tb_X0_spread_51 hd _ hk5 _ ih hR l0 l2 l3 l4 l5 l6 (fm_X0_meshesBeside l6) z1 hz1 z7 hz7 h
theorem tb_X0_spread_5 {st : xT} {d : Nat} {R : Option Value → qx_H → Prop} (hd : 2 ≤ d) {r : Int32} {H : qx_H} (hR : R (some (.int r)) H) : ∀ (n : Nat) (l0 : Int32) (l2 : Int32) (l3 : Int32) (l4 : Int32) (z1 : Option Value) (hz1 : qx_ns z1 = true) (z5 : Option Value) (hz5 : qx_ns z5 = true) (z6 : Option Value) (hz6 : qx_ns z6 = true) (z7 : Option Value) (hz7 : qx_ns z7 = true) (h : fm_X0_spread_b5 n l0 l2 l3 l4 H = some r), qx_V (xE st d) R (xc5 st) (5, [some (.int l0), z1, some (.int l2), some (.int l3), some (.int l4), z5, z6, z7], [], H) := by
  intro n
  induction n with
  | zero => intro l0 l2 l3 l4 z1 hz1 z5 hz5 z6 hz6 z7 hz7 h; exact nomatch (show (none : Option Int32) = some r from h)
  | succ n ih =>
    intro l0 l2 l3 l4 z1 hz1 z5 hz5 z6 hz6 z7 hz7 h
    unfold fm_X0_spread_b5 at h
    refine qv_br (c := 31 ≤ l4) (a := (89, [some (.int l0), z1, some (.int l2), some (.int l3), some (.int l4), z5, z6, z7], [], H)) (b := (12, [some (.int l0), z1, some (.int l2), some (.int l3), some (.int l4), z5, z6, z7], [], H)) 3 rfl (fun c9 => ?_) (fun c9 => ?_)
    · replace h := qv_pos c9 h
      refine qv_run 1 (σ := (90, [some (.int l0), z1, some (.int l2), some (.int l3), some (.int l4), z5, z6, z7], [.int l3], H)) rfl ?_
      cases h
      exact qv_reti rfl hR
    · replace h := qv_neg c9 h
      refine qv_run 4 (σ := (18, [some (.int l0), z1, some (.int l2), some (.int l3), some (.int l4), some (.int l3), some (.int 0), z7], [], H)) rfl ?_
      exact tb_X0_spread_18 hd _ ih hR 5000 l0 l2 l3 l4 l3 0 z1 hz1 z7 hz7 h
theorem tb_X0_spread_0 {st : xT} {d : Nat} {R : Option Value → qx_H → Prop} (hd : 2 ≤ d) {r : Int32} {H : qx_H} (hR : R (some (.int r)) H) (a0 : Int32) (a1 : Int32) (a2 : Int32) (h : fm_X0_spread a0 a1 a2 H = some r) : qx_V (xE st d) R (xc5 st) (0, [some (.int a0), some (.int a1), some (.int a2), none, none, none, none, none], [], H) := by
  unfold fm_X0_spread at h
  refine qv_run 4 (σ := (5, [some (.int a0), some (.int a1), some (.int a2), some (.int a1), some (.int 0), none, none, none], [], H)) rfl ?_
  exact tb_X0_spread_5 hd hR 5000 a0 a2 a1 0 (some (.int a1)) rfl none rfl none rfl none rfl h
theorem th_X0_spread {st : xT} {d : Nat} (hd : 3 ≤ d) {a0 : Int32} {a1 : Int32} {a2 : Int32} {r : Int32} {H : qx_H} (h : fm_X0_spread a0 a1 a2 H = some r) : xE st d 5 [.int a0, .int a1, .int a2] H (some (.int r)) H := by
  obtain ⟨d, rfl⟩ : ∃ d', d = d' + 1 := ⟨d - 1, by omega⟩
  exact xE_of (xe5 st) xl5 (Nat.le_of_ble_eq_true rfl) (ls := [some (.int a0), some (.int a1), some (.int a2), none, none, none, none, none]) rfl (tb_X0_spread_0 (by omega) ⟨rfl, rfl⟩ a0 a1 a2 h)
def fm_X0_threadsAt_b33 (k4 : Int32 → Int32 → Int32 → Int32 → qx_H → Option Int32) (l0 : Int32) (l1 : Int32) (l2 : Int32) (l3 : Int32) (H : qx_H) : Option Int32 := k4 l0 l1 l2 (l3 + 1) H
def fm_X0_threadsAt_b4 : Nat → Int32 → Int32 → Int32 → Int32 → qx_H → Option Int32
  | 0, _, _, _, _, _ => none
  | n + 1, l0, l1, l2, l3, H => if 31 ≤ l3 then (some l2) else (if ((ji_ushr l0 l3) &&& 1) = 0 then (fm_X0_threadsAt_b33 (fm_X0_threadsAt_b4 n) l0 l1 l2 l3 H) else (fm_X0_threadsAt_b33 (fm_X0_threadsAt_b4 n) l0 l1 (if ((fm_X0_endsOf l3) &&& l1) = 0 then l2 else l2 ||| (ji_shl 1 l3)) l3 H))
def fm_X0_threadsAt (a0 : Int32) (a1 : Int32) (H : qx_H) : Option Int32 := fm_X0_threadsAt_b4 5000 a0 a1 0 0 H
theorem tb_X0_threadsAt_33 {st : xT} {d : Nat} {R : Option Value → qx_H → Prop} (hd : 2 ≤ d) {r : Int32} {H : qx_H} (k4 : Int32 → Int32 → Int32 → Int32 → qx_H → Option Int32) (hk4 : ∀ (l0 : Int32) (l1 : Int32) (l2 : Int32) (l3 : Int32), k4 l0 l1 l2 l3 H = some r → qx_V (xE st d) R (xc6 st) (4, [some (.int l0), some (.int l1), some (.int l2), some (.int l3)], [], H)) (hR : R (some (.int r)) H) (l0 : Int32) (l1 : Int32) (l2 : Int32) (l3 : Int32) (h : fm_X0_threadsAt_b33 k4 l0 l1 l2 l3 H = some r) : qx_V (xE st d) R (xc6 st) (33, [some (.int l0), some (.int l1), some (.int l2), some (.int l3)], [], H) := by
  unfold fm_X0_threadsAt_b33 at h
  refine qv_run 2 (σ := (4, [some (.int l0), some (.int l1), some (.int l2), some (.int (l3 + 1))], [], H)) rfl ?_
  exact hk4 l0 l1 l2 (l3 + 1) h
theorem tb_X0_threadsAt_4 {st : xT} {d : Nat} {R : Option Value → qx_H → Prop} (hd : 2 ≤ d) {r : Int32} {H : qx_H} (hR : R (some (.int r)) H) : ∀ (n : Nat) (l0 : Int32) (l1 : Int32) (l2 : Int32) (l3 : Int32) (h : fm_X0_threadsAt_b4 n l0 l1 l2 l3 H = some r), qx_V (xE st d) R (xc6 st) (4, [some (.int l0), some (.int l1), some (.int l2), some (.int l3)], [], H) := by
  intro n
  induction n with
  | zero => intro l0 l1 l2 l3 h; exact nomatch (show (none : Option Int32) = some r from h)
  | succ n ih =>
    intro l0 l1 l2 l3 h
    unfold fm_X0_threadsAt_b4 at h
    refine qv_br (c := 31 ≤ l3) (a := (39, [some (.int l0), some (.int l1), some (.int l2), some (.int l3)], [], H)) (b := (10, [some (.int l0), some (.int l1), some (.int l2), some (.int l3)], [], H)) 3 rfl (fun c7 => ?_) (fun c7 => ?_)
    · replace h := qv_pos c7 h
      refine qv_run 1 (σ := (40, [some (.int l0), some (.int l1), some (.int l2), some (.int l3)], [.int l2], H)) rfl ?_
      cases h
      exact qv_reti rfl hR
    · replace h := qv_neg c7 h
      refine qv_br (c := ((ji_ushr l0 l3) &&& 1) = 0) (a := (33, [some (.int l0), some (.int l1), some (.int l2), some (.int l3)], [], H)) (b := (18, [some (.int l0), some (.int l1), some (.int l2), some (.int l3)], [], H)) 6 rfl (fun c15 => ?_) (fun c15 => ?_)
      · replace h := qv_pos c15 h
        exact tb_X0_threadsAt_33 hd _ ih hR l0 l1 l2 l3 h
      · replace h := qv_neg c15 h
        refine qv_run 1 (σ := (19, [some (.int l0), some (.int l1), some (.int l2), some (.int l3)], [.int l3], H)) rfl ?_
        refine qv_call [.int l3] rfl rfl rfl (Nat.le_of_ble_eq_true rfl) (th_X0_endsOf (by omega) rfl) rfl ?_
        refine qv_dia (c := ((fm_X0_endsOf l3) &&& l1) = 0) (a := (33, [some (.int l0), some (.int l1), some (.int l2), some (.int l3)], [], H)) (b := (27, [some (.int l0), some (.int l1), some (.int l2), some (.int l3)], [], H)) (σ' := (33, [some (.int l0), some (.int l1), some (.int (if ((fm_X0_endsOf l3) &&& l1) = 0 then l2 else l2 ||| (ji_shl 1 l3))), some (.int l3)], [], H)) 3 rfl ?_ (fun c24 kk => qv_run 0 (σ := (33, [some (.int l0), some (.int l1), some (.int l2), some (.int l3)], [], H)) rfl (qv_eq (by simp only [if_pos c24]) kk)) (fun c24 kk => qv_run 6 (σ := (33, [some (.int l0), some (.int l1), some (.int (l2 ||| (ji_shl 1 l3))), some (.int l3)], [], H)) rfl (qv_eq (by simp only [if_neg c24]) kk))
        exact tb_X0_threadsAt_33 hd _ ih hR l0 l1 (if ((fm_X0_endsOf l3) &&& l1) = 0 then l2 else l2 ||| (ji_shl 1 l3)) l3 h
theorem tb_X0_threadsAt_0 {st : xT} {d : Nat} {R : Option Value → qx_H → Prop} (hd : 2 ≤ d) {r : Int32} {H : qx_H} (hR : R (some (.int r)) H) (a0 : Int32) (a1 : Int32) (h : fm_X0_threadsAt a0 a1 H = some r) : qx_V (xE st d) R (xc6 st) (0, [some (.int a0), some (.int a1), none, none], [], H) := by
  unfold fm_X0_threadsAt at h
  refine qv_run 4 (σ := (4, [some (.int a0), some (.int a1), some (.int 0), some (.int 0)], [], H)) rfl ?_
  exact tb_X0_threadsAt_4 hd hR 5000 a0 a1 0 0 h
theorem th_X0_threadsAt {st : xT} {d : Nat} (hd : 3 ≤ d) {a0 : Int32} {a1 : Int32} {r : Int32} {H : qx_H} (h : fm_X0_threadsAt a0 a1 H = some r) : xE st d 6 [.int a0, .int a1] H (some (.int r)) H := by
  obtain ⟨d, rfl⟩ : ∃ d', d = d' + 1 := ⟨d - 1, by omega⟩
  exact xE_of (xe6 st) xl6 (Nat.le_of_ble_eq_true rfl) (ls := [some (.int a0), some (.int a1), none, none]) rfl (tb_X0_threadsAt_0 (by omega) ⟨rfl, rfl⟩ a0 a1 h)
def fm_X0_knotsOf_b27 (k4 : Int32 → Int32 → Int32 → qx_H → Option Int32) (l0 : Int32) (l2 : Int32) (t0 : Int32) (t1 : Int32) (H : qx_H) : Option Int32 := k4 l0 (t1 ||| t0) (l2 + 1) H
def fm_X0_knotsOf_b4 : Nat → Int32 → Int32 → Int32 → qx_H → Option Int32
  | 0, _, _, _, _ => none
  | n + 1, l0, l1, l2, H => if 31 ≤ l2 then (some l1) else (if ((ji_ushr l0 l2) &&& 1) = 0 then (fm_X0_knotsOf_b27 (fm_X0_knotsOf_b4 n) l0 l2 0 l1 H) else (fm_X0_knotsOf_b27 (fm_X0_knotsOf_b4 n) l0 l2 (fm_X0_endsOf l2) l1 H))
def fm_X0_knotsOf (a0 : Int32) (H : qx_H) : Option Int32 := fm_X0_knotsOf_b4 5000 a0 0 0 H
theorem tb_X0_knotsOf_27 {st : xT} {d : Nat} {R : Option Value → qx_H → Prop} (hd : 2 ≤ d) {r : Int32} {H : qx_H} (k4 : Int32 → Int32 → Int32 → qx_H → Option Int32) (hk4 : ∀ (l0 : Int32) (l1 : Int32) (l2 : Int32), k4 l0 l1 l2 H = some r → qx_V (xE st d) R (xc7 st) (4, [some (.int l0), some (.int l1), some (.int l2)], [], H)) (hR : R (some (.int r)) H) (l0 : Int32) (l2 : Int32) (t0 : Int32) (t1 : Int32) (z1 : Option Value) (hz1 : qx_ns z1 = true) (h : fm_X0_knotsOf_b27 k4 l0 l2 t0 t1 H = some r) : qx_V (xE st d) R (xc7 st) (27, [some (.int l0), z1, some (.int l2)], [.int t0, .int t1], H) := by
  unfold fm_X0_knotsOf_b27 at h
  refine qv_run 4 (σ := (4, [some (.int l0), some (.int (t1 ||| t0)), some (.int (l2 + 1))], [], H)) rfl ?_
  exact hk4 l0 (t1 ||| t0) (l2 + 1) h
theorem tb_X0_knotsOf_4 {st : xT} {d : Nat} {R : Option Value → qx_H → Prop} (hd : 2 ≤ d) {r : Int32} {H : qx_H} (hR : R (some (.int r)) H) : ∀ (n : Nat) (l0 : Int32) (l1 : Int32) (l2 : Int32) (h : fm_X0_knotsOf_b4 n l0 l1 l2 H = some r), qx_V (xE st d) R (xc7 st) (4, [some (.int l0), some (.int l1), some (.int l2)], [], H) := by
  intro n
  induction n with
  | zero => intro l0 l1 l2 h; exact nomatch (show (none : Option Int32) = some r from h)
  | succ n ih =>
    intro l0 l1 l2 h
    unfold fm_X0_knotsOf_b4 at h
    refine qv_br (c := 31 ≤ l2) (a := (35, [some (.int l0), some (.int l1), some (.int l2)], [], H)) (b := (10, [some (.int l0), some (.int l1), some (.int l2)], [], H)) 3 rfl (fun c7 => ?_) (fun c7 => ?_)
    · replace h := qv_pos c7 h
      refine qv_run 1 (σ := (36, [some (.int l0), some (.int l1), some (.int l2)], [.int l1], H)) rfl ?_
      cases h
      exact qv_reti rfl hR
    · replace h := qv_neg c7 h
      refine qv_br (c := ((ji_ushr l0 l2) &&& 1) = 0) (a := (26, [some (.int l0), some (.int l1), some (.int l2)], [.int l1], H)) (b := (19, [some (.int l0), some (.int l1), some (.int l2)], [.int l1], H)) 7 rfl (fun c16 => ?_) (fun c16 => ?_)
      · replace h := qv_pos c16 h
        refine qv_run 1 (σ := (27, [some (.int l0), some (.int l1), some (.int l2)], [.int 0, .int l1], H)) rfl ?_
        exact tb_X0_knotsOf_27 hd _ ih hR l0 l2 0 l1 (some (.int l1)) rfl h
      · replace h := qv_neg c16 h
        refine qv_run 1 (σ := (20, [some (.int l0), some (.int l1), some (.int l2)], [.int l2, .int l1], H)) rfl ?_
        refine qv_call [.int l2] rfl rfl rfl (Nat.le_of_ble_eq_true rfl) (th_X0_endsOf (by omega) rfl) rfl ?_
        refine qv_run 1 (σ := (27, [some (.int l0), some (.int l1), some (.int l2)], [.int (fm_X0_endsOf l2), .int l1], H)) rfl ?_
        exact tb_X0_knotsOf_27 hd _ ih hR l0 l2 (fm_X0_endsOf l2) l1 (some (.int l1)) rfl h
theorem tb_X0_knotsOf_0 {st : xT} {d : Nat} {R : Option Value → qx_H → Prop} (hd : 2 ≤ d) {r : Int32} {H : qx_H} (hR : R (some (.int r)) H) (a0 : Int32) (h : fm_X0_knotsOf a0 H = some r) : qx_V (xE st d) R (xc7 st) (0, [some (.int a0), none, none], [], H) := by
  unfold fm_X0_knotsOf at h
  refine qv_run 4 (σ := (4, [some (.int a0), some (.int 0), some (.int 0)], [], H)) rfl ?_
  exact tb_X0_knotsOf_4 hd hR 5000 a0 0 0 h
theorem th_X0_knotsOf {st : xT} {d : Nat} (hd : 3 ≤ d) {a0 : Int32} {r : Int32} {H : qx_H} (h : fm_X0_knotsOf a0 H = some r) : xE st d 7 [.int a0] H (some (.int r)) H := by
  obtain ⟨d, rfl⟩ : ∃ d', d = d' + 1 := ⟨d - 1, by omega⟩
  exact xE_of (xe7 st) xl7 (Nat.le_of_ble_eq_true rfl) (ls := [some (.int a0), none, none]) rfl (tb_X0_knotsOf_0 (by omega) ⟨rfl, rfl⟩ a0 h)
def fm_X0_oddKnots_b27 (k4 : Int32 → Int32 → Int32 → qx_H → Option Int32) (l0 : Int32) (l2 : Int32) (t0 : Int32) (t1 : Int32) (H : qx_H) : Option Int32 := k4 l0 (t1 ^^^ t0) (l2 + 1) H
def fm_X0_oddKnots_b4 : Nat → Int32 → Int32 → Int32 → qx_H → Option Int32
  | 0, _, _, _, _ => none
  | n + 1, l0, l1, l2, H => if 31 ≤ l2 then (some l1) else (if ((ji_ushr l0 l2) &&& 1) = 0 then (fm_X0_oddKnots_b27 (fm_X0_oddKnots_b4 n) l0 l2 0 l1 H) else (fm_X0_oddKnots_b27 (fm_X0_oddKnots_b4 n) l0 l2 (fm_X0_endsOf l2) l1 H))
def fm_X0_oddKnots (a0 : Int32) (H : qx_H) : Option Int32 := fm_X0_oddKnots_b4 5000 a0 0 0 H
theorem tb_X0_oddKnots_27 {st : xT} {d : Nat} {R : Option Value → qx_H → Prop} (hd : 2 ≤ d) {r : Int32} {H : qx_H} (k4 : Int32 → Int32 → Int32 → qx_H → Option Int32) (hk4 : ∀ (l0 : Int32) (l1 : Int32) (l2 : Int32), k4 l0 l1 l2 H = some r → qx_V (xE st d) R (xc8 st) (4, [some (.int l0), some (.int l1), some (.int l2)], [], H)) (hR : R (some (.int r)) H) (l0 : Int32) (l2 : Int32) (t0 : Int32) (t1 : Int32) (z1 : Option Value) (hz1 : qx_ns z1 = true) (h : fm_X0_oddKnots_b27 k4 l0 l2 t0 t1 H = some r) : qx_V (xE st d) R (xc8 st) (27, [some (.int l0), z1, some (.int l2)], [.int t0, .int t1], H) := by
  unfold fm_X0_oddKnots_b27 at h
  refine qv_run 4 (σ := (4, [some (.int l0), some (.int (t1 ^^^ t0)), some (.int (l2 + 1))], [], H)) rfl ?_
  exact hk4 l0 (t1 ^^^ t0) (l2 + 1) h
theorem tb_X0_oddKnots_4 {st : xT} {d : Nat} {R : Option Value → qx_H → Prop} (hd : 2 ≤ d) {r : Int32} {H : qx_H} (hR : R (some (.int r)) H) : ∀ (n : Nat) (l0 : Int32) (l1 : Int32) (l2 : Int32) (h : fm_X0_oddKnots_b4 n l0 l1 l2 H = some r), qx_V (xE st d) R (xc8 st) (4, [some (.int l0), some (.int l1), some (.int l2)], [], H) := by
  intro n
  induction n with
  | zero => intro l0 l1 l2 h; exact nomatch (show (none : Option Int32) = some r from h)
  | succ n ih =>
    intro l0 l1 l2 h
    unfold fm_X0_oddKnots_b4 at h
    refine qv_br (c := 31 ≤ l2) (a := (35, [some (.int l0), some (.int l1), some (.int l2)], [], H)) (b := (10, [some (.int l0), some (.int l1), some (.int l2)], [], H)) 3 rfl (fun c7 => ?_) (fun c7 => ?_)
    · replace h := qv_pos c7 h
      refine qv_run 1 (σ := (36, [some (.int l0), some (.int l1), some (.int l2)], [.int l1], H)) rfl ?_
      cases h
      exact qv_reti rfl hR
    · replace h := qv_neg c7 h
      refine qv_br (c := ((ji_ushr l0 l2) &&& 1) = 0) (a := (26, [some (.int l0), some (.int l1), some (.int l2)], [.int l1], H)) (b := (19, [some (.int l0), some (.int l1), some (.int l2)], [.int l1], H)) 7 rfl (fun c16 => ?_) (fun c16 => ?_)
      · replace h := qv_pos c16 h
        refine qv_run 1 (σ := (27, [some (.int l0), some (.int l1), some (.int l2)], [.int 0, .int l1], H)) rfl ?_
        exact tb_X0_oddKnots_27 hd _ ih hR l0 l2 0 l1 (some (.int l1)) rfl h
      · replace h := qv_neg c16 h
        refine qv_run 1 (σ := (20, [some (.int l0), some (.int l1), some (.int l2)], [.int l2, .int l1], H)) rfl ?_
        refine qv_call [.int l2] rfl rfl rfl (Nat.le_of_ble_eq_true rfl) (th_X0_endsOf (by omega) rfl) rfl ?_
        refine qv_run 1 (σ := (27, [some (.int l0), some (.int l1), some (.int l2)], [.int (fm_X0_endsOf l2), .int l1], H)) rfl ?_
        exact tb_X0_oddKnots_27 hd _ ih hR l0 l2 (fm_X0_endsOf l2) l1 (some (.int l1)) rfl h
theorem tb_X0_oddKnots_0 {st : xT} {d : Nat} {R : Option Value → qx_H → Prop} (hd : 2 ≤ d) {r : Int32} {H : qx_H} (hR : R (some (.int r)) H) (a0 : Int32) (h : fm_X0_oddKnots a0 H = some r) : qx_V (xE st d) R (xc8 st) (0, [some (.int a0), none, none], [], H) := by
  unfold fm_X0_oddKnots at h
  refine qv_run 4 (σ := (4, [some (.int a0), some (.int 0), some (.int 0)], [], H)) rfl ?_
  exact tb_X0_oddKnots_4 hd hR 5000 a0 0 0 h
theorem th_X0_oddKnots {st : xT} {d : Nat} (hd : 3 ≤ d) {a0 : Int32} {r : Int32} {H : qx_H} (h : fm_X0_oddKnots a0 H = some r) : xE st d 8 [.int a0] H (some (.int r)) H := by
  obtain ⟨d, rfl⟩ : ∃ d', d = d' + 1 := ⟨d - 1, by omega⟩
  exact xE_of (xe8 st) xl8 (Nat.le_of_ble_eq_true rfl) (ls := [some (.int a0), none, none]) rfl (tb_X0_oddKnots_0 (by omega) ⟨rfl, rfl⟩ a0 h)
def fm_X0_firstOf_b2 : Nat → Int32 → Int32 → qx_H → Option Int32
  | 0, _, _, _ => none
  | n + 1, l0, l1, H => if 31 ≤ l1 then (some (-1)) else (if ((ji_ushr l0 l1) &&& 1) = 0 then (fm_X0_firstOf_b2 n l0 (l1 + 1) H) else (some l1))
def fm_X0_firstOf (a0 : Int32) (H : qx_H) : Option Int32 := fm_X0_firstOf_b2 5000 a0 0 H
theorem tb_X0_firstOf_2 {st : xT} {d : Nat} {R : Option Value → qx_H → Prop} (hd : 0 ≤ d) {r : Int32} {H : qx_H} (hR : R (some (.int r)) H) : ∀ (n : Nat) (l0 : Int32) (l1 : Int32) (h : fm_X0_firstOf_b2 n l0 l1 H = some r), qx_V (xE st d) R (xc9 st) (2, [some (.int l0), some (.int l1)], [], H) := by
  intro n
  induction n with
  | zero => intro l0 l1 h; exact nomatch (show (none : Option Int32) = some r from h)
  | succ n ih =>
    intro l0 l1 h
    unfold fm_X0_firstOf_b2 at h
    refine qv_br (c := 31 ≤ l1) (a := (24, [some (.int l0), some (.int l1)], [], H)) (b := (8, [some (.int l0), some (.int l1)], [], H)) 3 rfl (fun c5 => ?_) (fun c5 => ?_)
    · replace h := qv_pos c5 h
      refine qv_run 1 (σ := (25, [some (.int l0), some (.int l1)], [.int (-1)], H)) rfl ?_
      cases h
      exact qv_reti rfl hR
    · replace h := qv_neg c5 h
      refine qv_br (c := ((ji_ushr l0 l1) &&& 1) = 0) (a := (18, [some (.int l0), some (.int l1)], [], H)) (b := (16, [some (.int l0), some (.int l1)], [], H)) 6 rfl (fun c13 => ?_) (fun c13 => ?_)
      · replace h := qv_pos c13 h
        refine qv_run 2 (σ := (2, [some (.int l0), some (.int (l1 + 1))], [], H)) rfl ?_
        exact ih l0 (l1 + 1) h
      · replace h := qv_neg c13 h
        refine qv_run 1 (σ := (17, [some (.int l0), some (.int l1)], [.int l1], H)) rfl ?_
        cases h
        exact qv_reti rfl hR
theorem tb_X0_firstOf_0 {st : xT} {d : Nat} {R : Option Value → qx_H → Prop} (hd : 0 ≤ d) {r : Int32} {H : qx_H} (hR : R (some (.int r)) H) (a0 : Int32) (h : fm_X0_firstOf a0 H = some r) : qx_V (xE st d) R (xc9 st) (0, [some (.int a0), none], [], H) := by
  unfold fm_X0_firstOf at h
  refine qv_run 2 (σ := (2, [some (.int a0), some (.int 0)], [], H)) rfl ?_
  exact tb_X0_firstOf_2 hd hR 5000 a0 0 h
theorem th_X0_firstOf {st : xT} {d : Nat} (hd : 1 ≤ d) {a0 : Int32} {r : Int32} {H : qx_H} (h : fm_X0_firstOf a0 H = some r) : xE st d 9 [.int a0] H (some (.int r)) H := by
  obtain ⟨d, rfl⟩ : ∃ d', d = d' + 1 := ⟨d - 1, by omega⟩
  exact xE_of (xe9 st) xl9 (Nat.le_of_ble_eq_true rfl) (ls := [some (.int a0), none]) rfl (tb_X0_firstOf_0 (by omega) ⟨rfl, rfl⟩ a0 h)
def fm_X0_firstHole (a0 : Int32) (H : qx_H) : Option Int32 := (fm_X0_firstOf a0 H).bind fun v1 => if 0 ≤ v1 then ((fm_X0_spread a0 (fm_X0_endsOf v1) 0 H).bind fun v20 => (fm_X0_threadsAt a0 v20 H).bind fun v23 => some v23) else (some 0)
theorem tb_X0_firstHole_0 {st : xT} {d : Nat} {R : Option Value → qx_H → Prop} (hd : 3 ≤ d) {r : Int32} {H : qx_H} (hR : R (some (.int r)) H) (a0 : Int32) (h : fm_X0_firstHole a0 H = some r) : qx_V (xE st d) R (xc10 st) (0, [some (.int a0), none], [], H) := by
  unfold fm_X0_firstHole at h
  refine qv_run 1 (σ := (1, [some (.int a0), none], [.int a0], H)) rfl ?_
  obtain ⟨v1, e1, h⟩ := qv_bind h
  refine qv_call [.int a0] rfl rfl rfl (Nat.le_of_ble_eq_true rfl) (th_X0_firstOf (by omega) e1) rfl ?_
  refine qv_br (c := 0 ≤ v1) (a := (13, [some (.int a0), some (.int v1)], [], H)) (b := (9, [some (.int a0), some (.int v1)], [], H)) 3 rfl (fun c6 => ?_) (fun c6 => ?_)
  · replace h := qv_pos c6 h
    refine qv_run 3 (σ := (16, [some (.int a0), some (.int v1)], [.int v1, .int a0, .int a0], H)) rfl ?_
    refine qv_call [.int v1] rfl rfl rfl (Nat.le_of_ble_eq_true rfl) (th_X0_endsOf (by omega) rfl) rfl ?_
    refine qv_run 1 (σ := (20, [some (.int a0), some (.int v1)], [.int 0, .int (fm_X0_endsOf v1), .int a0, .int a0], H)) rfl ?_
    obtain ⟨v20, e20, h⟩ := qv_bind h
    refine qv_call [.int a0, .int (fm_X0_endsOf v1), .int 0] rfl rfl rfl (Nat.le_of_ble_eq_true rfl) (th_X0_spread (by omega) e20) rfl ?_
    obtain ⟨v23, e23, h⟩ := qv_bind h
    refine qv_call [.int a0, .int v20] rfl rfl rfl (Nat.le_of_ble_eq_true rfl) (th_X0_threadsAt (by omega) e23) rfl ?_
    cases h
    exact qv_reti rfl hR
  · replace h := qv_neg c6 h
    refine qv_run 2 (σ := (26, [some (.int a0), some (.int v1)], [.int 0], H)) rfl ?_
    cases h
    exact qv_reti rfl hR
theorem th_X0_firstHole {st : xT} {d : Nat} (hd : 4 ≤ d) {a0 : Int32} {r : Int32} {H : qx_H} (h : fm_X0_firstHole a0 H = some r) : xE st d 10 [.int a0] H (some (.int r)) H := by
  obtain ⟨d, rfl⟩ : ∃ d', d = d' + 1 := ⟨d - 1, by omega⟩
  exact xE_of (xe10 st) xl10 (Nat.le_of_ble_eq_true rfl) (ls := [some (.int a0), none]) rfl (tb_X0_firstHole_0 (by omega) ⟨rfl, rfl⟩ a0 h)
def fm_X0_holesIn_b6 : Nat → Int32 → Int32 → Int32 → qx_H → Option Int32
  | 0, _, _, _, _ => none
  | n + 1, l1, l2, l3, H => if 31 ≤ l3 then (some l1) else (if l2 = 0 then (some l1) else ((fm_X0_firstHole l2 H).bind fun v18 => fm_X0_holesIn_b6 n (l1 + 1) (l2 &&& (v18 ^^^ (-1))) (l3 + 1) H))
def fm_X0_holesIn (a0 : Int32) (H : qx_H) : Option Int32 := fm_X0_holesIn_b6 5000 0 a0 0 H
theorem tb_X0_holesIn_6 {st : xT} {d : Nat} {R : Option Value → qx_H → Prop} (hd : 4 ≤ d) {r : Int32} {H : qx_H} (hR : R (some (.int r)) H) : ∀ (n : Nat) (l1 : Int32) (l2 : Int32) (l3 : Int32) (z0 : Option Value) (hz0 : qx_ns z0 = true) (h : fm_X0_holesIn_b6 n l1 l2 l3 H = some r), qx_V (xE st d) R (xc11 st) (6, [z0, some (.int l1), some (.int l2), some (.int l3)], [], H) := by
  intro n
  induction n with
  | zero => intro l1 l2 l3 z0 hz0 h; exact nomatch (show (none : Option Int32) = some r from h)
  | succ n ih =>
    intro l1 l2 l3 z0 hz0 h
    unfold fm_X0_holesIn_b6 at h
    refine qv_br (c := 31 ≤ l3) (a := (34, [z0, some (.int l1), some (.int l2), some (.int l3)], [], H)) (b := (12, [z0, some (.int l1), some (.int l2), some (.int l3)], [], H)) 3 rfl (fun c9 => ?_) (fun c9 => ?_)
    · replace h := qv_pos c9 h
      refine qv_run 1 (σ := (35, [z0, some (.int l1), some (.int l2), some (.int l3)], [.int l1], H)) rfl ?_
      cases h
      exact qv_reti rfl hR
    · replace h := qv_neg c9 h
      refine qv_br (c := l2 = 0) (a := (34, [z0, some (.int l1), some (.int l2), some (.int l3)], [], H)) (b := (16, [z0, some (.int l1), some (.int l2), some (.int l3)], [], H)) 2 rfl (fun c13 => ?_) (fun c13 => ?_)
      · replace h := qv_pos c13 h
        refine qv_run 1 (σ := (35, [z0, some (.int l1), some (.int l2), some (.int l3)], [.int l1], H)) rfl ?_
        cases h
        exact qv_reti rfl hR
      · replace h := qv_neg c13 h
        refine qv_run 2 (σ := (18, [z0, some (.int l1), some (.int l2), some (.int l3)], [.int l2, .int l2], H)) rfl ?_
        obtain ⟨v18, e18, h⟩ := qv_bind h
        refine qv_call [.int l2] rfl rfl rfl (Nat.le_of_ble_eq_true rfl) (th_X0_firstHole (by omega) e18) rfl ?_
        refine qv_run 4 (σ := (25, [z0, some (.int l1), some (.int (l2 &&& (v18 ^^^ (-1)))), some (.int l3)], [], H)) rfl ?_
        refine qv_incN (ls' := [z0, some (.int (l1 + 1)), some (.int (l2 &&& (v18 ^^^ (-1)))), some (.int l3)]) rfl rfl (qx_kl_ns rfl hz0) rfl ?_
        refine qv_run 2 (σ := (6, [z0, some (.int (l1 + 1)), some (.int (l2 &&& (v18 ^^^ (-1)))), some (.int (l3 + 1))], [], H)) rfl ?_
        exact ih (l1 + 1) (l2 &&& (v18 ^^^ (-1))) (l3 + 1) z0 hz0 h
theorem tb_X0_holesIn_0 {st : xT} {d : Nat} {R : Option Value → qx_H → Prop} (hd : 4 ≤ d) {r : Int32} {H : qx_H} (hR : R (some (.int r)) H) (a0 : Int32) (h : fm_X0_holesIn a0 H = some r) : qx_V (xE st d) R (xc11 st) (0, [some (.int a0), none, none, none], [], H) := by
  unfold fm_X0_holesIn at h
  refine qv_run 6 (σ := (6, [some (.int a0), some (.int 0), some (.int a0), some (.int 0)], [], H)) rfl ?_
  exact tb_X0_holesIn_6 hd hR 5000 0 a0 0 (some (.int a0)) rfl h
theorem th_X0_holesIn {st : xT} {d : Nat} (hd : 5 ≤ d) {a0 : Int32} {r : Int32} {H : qx_H} (h : fm_X0_holesIn a0 H = some r) : xE st d 11 [.int a0] H (some (.int r)) H := by
  obtain ⟨d, rfl⟩ : ∃ d', d = d' + 1 := ⟨d - 1, by omega⟩
  exact xE_of (xe11 st) xl11 (Nat.le_of_ble_eq_true rfl) (ls := [some (.int a0), none, none, none]) rfl (tb_X0_holesIn_0 (by omega) ⟨rfl, rfl⟩ a0 h)
def fm_X0_holeAt_b28 (l2 : Int32) (H : qx_H) : Option Int32 := (fm_X0_firstHole l2 H).bind fun v29 => some v29
def fm_X0_holeAt_b4 : Nat → Int32 → Int32 → Int32 → qx_H → Option Int32
  | 0, _, _, _, _ => none
  | n + 1, l1, l2, l3, H => if l1 ≤ l3 then (fm_X0_holeAt_b28 l2 H) else (if l2 = 0 then (fm_X0_holeAt_b28 l2 H) else ((fm_X0_firstHole l2 H).bind fun v15 => fm_X0_holeAt_b4 n l1 (l2 &&& (v15 ^^^ (-1))) (l3 + 1) H))
def fm_X0_holeAt (a0 : Int32) (a1 : Int32) (H : qx_H) : Option Int32 := fm_X0_holeAt_b4 5000 a1 a0 0 H
theorem tb_X0_holeAt_28 {st : xT} {d : Nat} {R : Option Value → qx_H → Prop} (hd : 4 ≤ d) {r : Int32} {H : qx_H} (hR : R (some (.int r)) H) (l2 : Int32) (z0 : Option Value) (hz0 : qx_ns z0 = true) (z1 : Option Value) (hz1 : qx_ns z1 = true) (z3 : Option Value) (hz3 : qx_ns z3 = true) (h : fm_X0_holeAt_b28 l2 H = some r) : qx_V (xE st d) R (xc12 st) (28, [z0, z1, some (.int l2), z3], [], H) := by
  unfold fm_X0_holeAt_b28 at h
  refine qv_run 1 (σ := (29, [z0, z1, some (.int l2), z3], [.int l2], H)) rfl ?_
  obtain ⟨v29, e29, h⟩ := qv_bind h
  refine qv_call [.int l2] rfl rfl rfl (Nat.le_of_ble_eq_true rfl) (th_X0_firstHole (by omega) e29) rfl ?_
  cases h
  exact qv_reti rfl hR
theorem tb_X0_holeAt_4 {st : xT} {d : Nat} {R : Option Value → qx_H → Prop} (hd : 4 ≤ d) {r : Int32} {H : qx_H} (hR : R (some (.int r)) H) : ∀ (n : Nat) (l1 : Int32) (l2 : Int32) (l3 : Int32) (z0 : Option Value) (hz0 : qx_ns z0 = true) (h : fm_X0_holeAt_b4 n l1 l2 l3 H = some r), qx_V (xE st d) R (xc12 st) (4, [z0, some (.int l1), some (.int l2), some (.int l3)], [], H) := by
  intro n
  induction n with
  | zero => intro l1 l2 l3 z0 hz0 h; exact nomatch (show (none : Option Int32) = some r from h)
  | succ n ih =>
    intro l1 l2 l3 z0 hz0 h
    unfold fm_X0_holeAt_b4 at h
    refine qv_br (c := l1 ≤ l3) (a := (28, [z0, some (.int l1), some (.int l2), some (.int l3)], [], H)) (b := (9, [z0, some (.int l1), some (.int l2), some (.int l3)], [], H)) 3 rfl (fun c6 => ?_) (fun c6 => ?_)
    · replace h := qv_pos c6 h
      exact tb_X0_holeAt_28 hd hR l2 z0 hz0 (some (.int l1)) rfl (some (.int l3)) rfl h
    · replace h := qv_neg c6 h
      refine qv_br (c := l2 = 0) (a := (28, [z0, some (.int l1), some (.int l2), some (.int l3)], [], H)) (b := (13, [z0, some (.int l1), some (.int l2), some (.int l3)], [], H)) 2 rfl (fun c10 => ?_) (fun c10 => ?_)
      · replace h := qv_pos c10 h
        exact tb_X0_holeAt_28 hd hR l2 z0 hz0 (some (.int l1)) rfl (some (.int l3)) rfl h
      · replace h := qv_neg c10 h
        refine qv_run 2 (σ := (15, [z0, some (.int l1), some (.int l2), some (.int l3)], [.int l2, .int l2], H)) rfl ?_
        obtain ⟨v15, e15, h⟩ := qv_bind h
        refine qv_call [.int l2] rfl rfl rfl (Nat.le_of_ble_eq_true rfl) (th_X0_firstHole (by omega) e15) rfl ?_
        refine qv_run 6 (σ := (4, [z0, some (.int l1), some (.int (l2 &&& (v15 ^^^ (-1)))), some (.int (l3 + 1))], [], H)) rfl ?_
        exact ih l1 (l2 &&& (v15 ^^^ (-1))) (l3 + 1) z0 hz0 h
theorem tb_X0_holeAt_0 {st : xT} {d : Nat} {R : Option Value → qx_H → Prop} (hd : 4 ≤ d) {r : Int32} {H : qx_H} (hR : R (some (.int r)) H) (a0 : Int32) (a1 : Int32) (h : fm_X0_holeAt a0 a1 H = some r) : qx_V (xE st d) R (xc12 st) (0, [some (.int a0), some (.int a1), none, none], [], H) := by
  unfold fm_X0_holeAt at h
  refine qv_run 4 (σ := (4, [some (.int a0), some (.int a1), some (.int a0), some (.int 0)], [], H)) rfl ?_
  exact tb_X0_holeAt_4 hd hR 5000 a1 a0 0 (some (.int a0)) rfl h
theorem th_X0_holeAt {st : xT} {d : Nat} (hd : 5 ≤ d) {a0 : Int32} {a1 : Int32} {r : Int32} {H : qx_H} (h : fm_X0_holeAt a0 a1 H = some r) : xE st d 12 [.int a0, .int a1] H (some (.int r)) H := by
  obtain ⟨d, rfl⟩ : ∃ d', d = d' + 1 := ⟨d - 1, by omega⟩
  exact xE_of (xe12 st) xl12 (Nat.le_of_ble_eq_true rfl) (ls := [some (.int a0), some (.int a1), none, none]) rfl (tb_X0_holeAt_0 (by omega) ⟨rfl, rfl⟩ a0 a1 h)
def fm_J6_bitCount_0f7a4_b48 (l0 : Int32) : Int32 := l0 &&& 63
def fm_J6_bitCount_0f7a4_b41 (l0 : Int32) : Int32 := fm_J6_bitCount_0f7a4_b48 (l0 + (ji_ushr l0 16))
def fm_J6_bitCount_0f7a4_b34 (l0 : Int32) : Int32 := fm_J6_bitCount_0f7a4_b41 (l0 + (ji_ushr l0 8))
def fm_J6_bitCount_0f7a4_b24 (l0 : Int32) : Int32 := fm_J6_bitCount_0f7a4_b34 ((l0 + (ji_ushr l0 4)) &&& 252645135)
def fm_J6_bitCount_0f7a4_b10 (l0 : Int32) : Int32 := fm_J6_bitCount_0f7a4_b24 ((l0 &&& 858993459) + ((ji_ushr l0 2) &&& 858993459))
def fm_J6_bitCount_0f7a4 (a0 : Int32) : Int32 := fm_J6_bitCount_0f7a4_b10 (a0 - ((ji_ushr a0 1) &&& 1431655765))
theorem tb_J6_bitCount_0f7a4_48 {st : xT} {d : Nat} {R : Option Value → qx_H → Prop} (hd : 0 ≤ d) {r : Int32} {H : qx_H} (hR : R (some (.int r)) H) (l0 : Int32) (h : fm_J6_bitCount_0f7a4_b48 l0 = r) : qx_V (xE st d) R (xc232 st) (48, [some (.int l0)], [], H) := by
  unfold fm_J6_bitCount_0f7a4_b48 at h
  refine qv_run 3 (σ := (52, [some (.int l0)], [.int (l0 &&& 63)], H)) rfl ?_
  subst h
  exact qv_reti rfl hR
theorem tb_J6_bitCount_0f7a4_41 {st : xT} {d : Nat} {R : Option Value → qx_H → Prop} (hd : 0 ≤ d) {r : Int32} {H : qx_H} (hR : R (some (.int r)) H) (l0 : Int32) (h : fm_J6_bitCount_0f7a4_b41 l0 = r) : qx_V (xE st d) R (xc232 st) (41, [some (.int l0)], [], H) := by
  unfold fm_J6_bitCount_0f7a4_b41 at h
  refine qv_run 6 (σ := (48, [some (.int (l0 + (ji_ushr l0 16)))], [], H)) rfl ?_
  exact tb_J6_bitCount_0f7a4_48 hd hR (l0 + (ji_ushr l0 16)) h
theorem tb_J6_bitCount_0f7a4_34 {st : xT} {d : Nat} {R : Option Value → qx_H → Prop} (hd : 0 ≤ d) {r : Int32} {H : qx_H} (hR : R (some (.int r)) H) (l0 : Int32) (h : fm_J6_bitCount_0f7a4_b34 l0 = r) : qx_V (xE st d) R (xc232 st) (34, [some (.int l0)], [], H) := by
  unfold fm_J6_bitCount_0f7a4_b34 at h
  refine qv_run 6 (σ := (41, [some (.int (l0 + (ji_ushr l0 8)))], [], H)) rfl ?_
  exact tb_J6_bitCount_0f7a4_41 hd hR (l0 + (ji_ushr l0 8)) h
theorem tb_J6_bitCount_0f7a4_24 {st : xT} {d : Nat} {R : Option Value → qx_H → Prop} (hd : 0 ≤ d) {r : Int32} {H : qx_H} (hR : R (some (.int r)) H) (l0 : Int32) (h : fm_J6_bitCount_0f7a4_b24 l0 = r) : qx_V (xE st d) R (xc232 st) (24, [some (.int l0)], [], H) := by
  unfold fm_J6_bitCount_0f7a4_b24 at h
  refine qv_run 8 (σ := (34, [some (.int ((l0 + (ji_ushr l0 4)) &&& 252645135))], [], H)) rfl ?_
  exact tb_J6_bitCount_0f7a4_34 hd hR ((l0 + (ji_ushr l0 4)) &&& 252645135) h
theorem tb_J6_bitCount_0f7a4_10 {st : xT} {d : Nat} {R : Option Value → qx_H → Prop} (hd : 0 ≤ d) {r : Int32} {H : qx_H} (hR : R (some (.int r)) H) (l0 : Int32) (h : fm_J6_bitCount_0f7a4_b10 l0 = r) : qx_V (xE st d) R (xc232 st) (10, [some (.int l0)], [], H) := by
  unfold fm_J6_bitCount_0f7a4_b10 at h
  refine qv_run 10 (σ := (24, [some (.int ((l0 &&& 858993459) + ((ji_ushr l0 2) &&& 858993459)))], [], H)) rfl ?_
  exact tb_J6_bitCount_0f7a4_24 hd hR ((l0 &&& 858993459) + ((ji_ushr l0 2) &&& 858993459)) h
theorem tb_J6_bitCount_0f7a4_0 {st : xT} {d : Nat} {R : Option Value → qx_H → Prop} (hd : 0 ≤ d) {r : Int32} {H : qx_H} (hR : R (some (.int r)) H) (a0 : Int32) (h : fm_J6_bitCount_0f7a4 a0 = r) : qx_V (xE st d) R (xc232 st) (0, [some (.int a0)], [], H) := by
  unfold fm_J6_bitCount_0f7a4 at h
  refine qv_run 8 (σ := (10, [some (.int (a0 - ((ji_ushr a0 1) &&& 1431655765)))], [], H)) rfl ?_
  exact tb_J6_bitCount_0f7a4_10 hd hR (a0 - ((ji_ushr a0 1) &&& 1431655765)) h
theorem th_J6_bitCount_0f7a4 {st : xT} {d : Nat} (hd : 1 ≤ d) {a0 : Int32} {r : Int32} {H : qx_H} (h : fm_J6_bitCount_0f7a4 a0 = r) : xE st d 232 [.int a0] H (some (.int r)) H := by
  obtain ⟨d, rfl⟩ : ∃ d', d = d' + 1 := ⟨d - 1, by omega⟩
  exact xE_of (xe232 st) xl232 (Nat.le_of_ble_eq_true rfl) (ls := [some (.int a0)]) rfl (tb_J6_bitCount_0f7a4_0 (by omega) ⟨rfl, rfl⟩ a0 h)
def fm_X0_greatestOpening_b4 : Nat → Int32 → Int32 → Int32 → qx_H → Option Int32
  | 0, _, _, _, _ => none
  | n + 1, l0, l1, l2, H => if 12 ≤ l2 then (some l1) else ((fm_X0_spread l0 (ji_shl 1 l2) 1 H).bind fun v16 => fm_X0_greatestOpening_b4 n l0 (ji_max l1 (fm_J6_bitCount_0f7a4 v16)) (l2 + 1) H)
def fm_X0_greatestOpening (a0 : Int32) (H : qx_H) : Option Int32 := fm_X0_greatestOpening_b4 5000 a0 1 0 H
theorem tb_X0_greatestOpening_4 {st : xT} {d : Nat} {R : Option Value → qx_H → Prop} (hd : 3 ≤ d) {r : Int32} {H : qx_H} (hR : R (some (.int r)) H) : ∀ (n : Nat) (l0 : Int32) (l1 : Int32) (l2 : Int32) (h : fm_X0_greatestOpening_b4 n l0 l1 l2 H = some r), qx_V (xE st d) R (xc13 st) (4, [some (.int l0), some (.int l1), some (.int l2)], [], H) := by
  intro n
  induction n with
  | zero => intro l0 l1 l2 h; exact nomatch (show (none : Option Int32) = some r from h)
  | succ n ih =>
    intro l0 l1 l2 h
    unfold fm_X0_greatestOpening_b4 at h
    refine qv_br (c := 12 ≤ l2) (a := (32, [some (.int l0), some (.int l1), some (.int l2)], [], H)) (b := (10, [some (.int l0), some (.int l1), some (.int l2)], [], H)) 3 rfl (fun c7 => ?_) (fun c7 => ?_)
    · replace h := qv_pos c7 h
      refine qv_run 1 (σ := (33, [some (.int l0), some (.int l1), some (.int l2)], [.int l1], H)) rfl ?_
      cases h
      exact qv_reti rfl hR
    · replace h := qv_neg c7 h
      refine qv_run 6 (σ := (16, [some (.int l0), some (.int l1), some (.int l2)], [.int 1, .int (ji_shl 1 l2), .int l0, .int l1], H)) rfl ?_
      obtain ⟨v16, e16, h⟩ := qv_bind h
      refine qv_call [.int l0, .int (ji_shl 1 l2), .int 1] rfl rfl rfl (Nat.le_of_ble_eq_true rfl) (th_X0_spread (by omega) e16) rfl ?_
      refine qv_call [.int v16] rfl rfl rfl (Nat.le_of_ble_eq_true rfl) (th_J6_bitCount_0f7a4 (by omega) rfl) rfl ?_
      refine qv_run 4 (σ := (4, [some (.int l0), some (.int (ji_max l1 (fm_J6_bitCount_0f7a4 v16))), some (.int (l2 + 1))], [], H)) rfl ?_
      exact ih l0 (ji_max l1 (fm_J6_bitCount_0f7a4 v16)) (l2 + 1) h
theorem tb_X0_greatestOpening_0 {st : xT} {d : Nat} {R : Option Value → qx_H → Prop} (hd : 3 ≤ d) {r : Int32} {H : qx_H} (hR : R (some (.int r)) H) (a0 : Int32) (h : fm_X0_greatestOpening a0 H = some r) : qx_V (xE st d) R (xc13 st) (0, [some (.int a0), none, none], [], H) := by
  unfold fm_X0_greatestOpening at h
  refine qv_run 4 (σ := (4, [some (.int a0), some (.int 1), some (.int 0)], [], H)) rfl ?_
  exact tb_X0_greatestOpening_4 hd hR 5000 a0 1 0 h
theorem th_X0_greatestOpening {st : xT} {d : Nat} (hd : 4 ≤ d) {a0 : Int32} {r : Int32} {H : qx_H} (h : fm_X0_greatestOpening a0 H = some r) : xE st d 13 [.int a0] H (some (.int r)) H := by
  obtain ⟨d, rfl⟩ : ∃ d', d = d' + 1 := ⟨d - 1, by omega⟩
  exact xE_of (xe13 st) xl13 (Nat.le_of_ble_eq_true rfl) (ls := [some (.int a0), none, none]) rfl (tb_X0_greatestOpening_0 (by omega) ⟨rfl, rfl⟩ a0 h)
def fm_X1_init (a0 : Nat) (H : qx_H) : Option qx_H := if ¬ ((6 : Int32) < 0 ∨ 100000 < Int32.toNatClampNeg 6) ∧ qx_ok [some (.ref a0)] [.ref a0] H = true then ((hp_put (H ++ ([.inl (Int32.toNatClampNeg 6, .inl fun _ => 0)] : qx_H)) a0 0 0 (.ref H.length)).bind fun H9 => if ¬ ((6 : Int32) < 0 ∨ 100000 < Int32.toNatClampNeg 6) ∧ qx_ok [some (.ref a0)] [.ref a0] H9 = true then ((hp_put (H9 ++ ([.inl (Int32.toNatClampNeg 6, .inl fun _ => 0)] : qx_H)) a0 0 1 (.ref H9.length)).bind fun H17 => if ¬ ((6 : Int32) < 0 ∨ 100000 < Int32.toNatClampNeg 6) ∧ qx_ok [some (.ref a0)] [.ref a0] H17 = true then ((hp_put (H17 ++ ([.inl (Int32.toNatClampNeg 6, .inl fun _ => 0)] : qx_H)) a0 0 2 (.ref H17.length)).bind fun H25 => if ¬ ((3 : Int32) < 0 ∨ 100000 < Int32.toNatClampNeg 3) ∧ qx_ok [some (.ref a0)] [.ref a0] H25 = true then ((hp_put (H25 ++ ([.inl (Int32.toNatClampNeg 3, .inl fun _ => 0)] : qx_H)) a0 0 3 (.ref H25.length)).bind fun H32 => (hp_put H32 a0 0 4 (.int 0)).bind fun H37 => some H37) else none) else none) else none) else none
theorem tb_X1_init_0 {st : xT} {d : Nat} {R : Option Value → qx_H → Prop} (hd : 0 ≤ d) {H' : qx_H} (hR : R (none) H') (a0 : Nat) (H : qx_H) (h : fm_X1_init a0 H = some H') : qx_V (xE st d) R (xc14 st) (0, [some (.ref a0)], [], H) := by
  unfold fm_X1_init at h
  refine qv_run 4 (σ := (7, [some (.ref a0)], [.int 6, .ref a0], H)) rfl ?_
  obtain ⟨e7, h⟩ := qv_guard h
  refine qv_newa rfl e7.1 e7.2 ?_
  obtain ⟨H9, e9, h⟩ := qv_bind h
  refine qv_putR rfl e9 ?_
  refine qv_run 2 (σ := (15, [some (.ref a0)], [.int 6, .ref a0], H9)) rfl ?_
  obtain ⟨e15, h⟩ := qv_guard h
  refine qv_newa rfl e15.1 e15.2 ?_
  obtain ⟨H17, e17, h⟩ := qv_bind h
  refine qv_putR rfl e17 ?_
  refine qv_run 2 (σ := (23, [some (.ref a0)], [.int 6, .ref a0], H17)) rfl ?_
  obtain ⟨e23, h⟩ := qv_guard h
  refine qv_newa rfl e23.1 e23.2 ?_
  obtain ⟨H25, e25, h⟩ := qv_bind h
  refine qv_putR rfl e25 ?_
  refine qv_run 2 (σ := (30, [some (.ref a0)], [.int 3, .ref a0], H25)) rfl ?_
  obtain ⟨e30, h⟩ := qv_guard h
  refine qv_newa rfl e30.1 e30.2 ?_
  obtain ⟨H32, e32, h⟩ := qv_bind h
  refine qv_putR rfl e32 ?_
  refine qv_run 2 (σ := (37, [some (.ref a0)], [.int 0, .ref a0], H32)) rfl ?_
  obtain ⟨H37, e37, h⟩ := qv_bind h
  refine qv_putI rfl e37 ?_
  cases h
  exact qv_ret0 rfl hR
theorem th_X1_init {st : xT} {d : Nat} (hd : 1 ≤ d) {a0 : Nat} {H : qx_H} {H' : qx_H} (h : fm_X1_init a0 H = some H') : xE st d 14 [.ref a0] H (none) H' := by
  obtain ⟨d, rfl⟩ : ∃ d', d = d' + 1 := ⟨d - 1, by omega⟩
  exact xE_of (xe14 st) xl14 (Nat.le_of_ble_eq_true rfl) (ls := [some (.ref a0)]) rfl (tb_X1_init_0 (by omega) ⟨rfl, rfl⟩ a0 H h)
def fm_X1_minutesOfTried_b25 : Nat → Nat → Int32 → Nat → Int32 → Int32 → qx_H → Option (Int32 × qx_H)
  | 0, _, _, _, _, _, _ => none
  | n + 1, l0, l1, l2, l3, l4, H => if l1 ≤ l4 then (some (l3, H)) else ((hp_gR H l0 0 1).bind fun v32 => (hp_ald H v32 l4).bind fun v37 => (hp_gR H l0 0 3).bind fun v41 => (hp_ald H v41 v37).bind fun v47 => (hp_gR H l0 0 0).bind fun v49 => (hp_ald H v49 l4).bind fun v54 => (hp_ald H l2 v37).bind fun v58 => (hp_ast H v41 v37 (v47 + (v54 * v58))).bind fun H61 => (hp_gR H61 l0 0 3).bind fun v64 => (hp_ald H61 v64 v37).bind fun v69 => fm_X1_minutesOfTried_b25 n l0 l1 l2 (ji_max l3 v69) (l4 + 1) H61)
def fm_X1_minutesOfTried_b2 : Nat → Nat → Int32 → Nat → Int32 → qx_H → Option (Int32 × qx_H)
  | 0, _, _, _, _, _ => none
  | n + 1, l0, l1, l2, l3, H => if 3 ≤ l3 then (fm_X1_minutesOfTried_b25 5000 l0 l1 l2 0 0 H) else ((hp_gR H l0 0 3).bind fun v8 => (hp_ast H v8 l3 0).bind fun H13 => fm_X1_minutesOfTried_b2 n l0 l1 l2 (l3 + 1) H13)
def fm_X1_minutesOfTried (a0 : Nat) (a1 : Int32) (a2 : Nat) (H : qx_H) : Option (Int32 × qx_H) := fm_X1_minutesOfTried_b2 5000 a0 a1 a2 0 H
theorem tb_X1_minutesOfTried_25 {st : xT} {d : Nat} {R : Option Value → qx_H → Prop} (hd : 0 ≤ d) {r : Int32} {H' : qx_H} (hR : R (some (.int r)) H') : ∀ (n : Nat) (l0 : Nat) (l1 : Int32) (l2 : Nat) (l3 : Int32) (l4 : Int32) (z5 : Option Value) (hz5 : qx_ns z5 = true) (H : qx_H) (h : fm_X1_minutesOfTried_b25 n l0 l1 l2 l3 l4 H = some (r, H')), qx_V (xE st d) R (xc16 st) (25, [some (.ref l0), some (.int l1), some (.ref l2), some (.int l3), some (.int l4), z5], [], H) := by
  intro n
  induction n with
  | zero => intro l0 l1 l2 l3 l4 z5 hz5 H h; exact nomatch (show (none : Option (Int32 × qx_H)) = some (r, H') from h)
  | succ n ih =>
    intro l0 l1 l2 l3 l4 z5 hz5 H h
    unfold fm_X1_minutesOfTried_b25 at h
    refine qv_br (c := l1 ≤ l4) (a := (80, [some (.ref l0), some (.int l1), some (.ref l2), some (.int l3), some (.int l4), z5], [], H)) (b := (31, [some (.ref l0), some (.int l1), some (.ref l2), some (.int l3), some (.int l4), z5], [], H)) 3 rfl (fun c28 => ?_) (fun c28 => ?_)
    · replace h := qv_pos c28 h
      refine qv_run 1 (σ := (81, [some (.ref l0), some (.int l1), some (.ref l2), some (.int l3), some (.int l4), z5], [.int l3], H)) rfl ?_
      obtain ⟨rfl, rfl⟩ := qv_pair h
      exact qv_reti rfl hR
    · replace h := qv_neg c28 h
      refine qv_run 1 (σ := (32, [some (.ref l0), some (.int l1), some (.ref l2), some (.int l3), some (.int l4), z5], [.ref l0], H)) rfl ?_
      obtain ⟨v32, e32, h⟩ := qv_bind h
      refine qv_getR rfl e32 ?_
      refine qv_run 1 (σ := (37, [some (.ref l0), some (.int l1), some (.ref l2), some (.int l3), some (.int l4), z5], [.int l4, .ref v32], H)) rfl ?_
      obtain ⟨v37, e37, h⟩ := qv_bind h
      refine qv_ald rfl e37 ?_
      refine qv_run 2 (σ := (41, [some (.ref l0), some (.int l1), some (.ref l2), some (.int l3), some (.int l4), some (.int v37)], [.ref l0], H)) rfl ?_
      obtain ⟨v41, e41, h⟩ := qv_bind h
      refine qv_getR rfl e41 ?_
      refine qv_run 2 (σ := (47, [some (.ref l0), some (.int l1), some (.ref l2), some (.int l3), some (.int l4), some (.int v37)], [.int v37, .ref v41, .int v37, .ref v41], H)) rfl ?_
      obtain ⟨v47, e47, h⟩ := qv_bind h
      refine qv_ald rfl e47 ?_
      refine qv_run 1 (σ := (49, [some (.ref l0), some (.int l1), some (.ref l2), some (.int l3), some (.int l4), some (.int v37)], [.ref l0, .int v47, .int v37, .ref v41], H)) rfl ?_
      obtain ⟨v49, e49, h⟩ := qv_bind h
      refine qv_getR rfl e49 ?_
      refine qv_run 1 (σ := (54, [some (.ref l0), some (.int l1), some (.ref l2), some (.int l3), some (.int l4), some (.int v37)], [.int l4, .ref v49, .int v47, .int v37, .ref v41], H)) rfl ?_
      obtain ⟨v54, e54, h⟩ := qv_bind h
      refine qv_ald rfl e54 ?_
      refine qv_run 2 (σ := (58, [some (.ref l0), some (.int l1), some (.ref l2), some (.int l3), some (.int l4), some (.int v37)], [.int v37, .ref l2, .int v54, .int v47, .int v37, .ref v41], H)) rfl ?_
      obtain ⟨v58, e58, h⟩ := qv_bind h
      refine qv_ald rfl e58 ?_
      refine qv_run 2 (σ := (61, [some (.ref l0), some (.int l1), some (.ref l2), some (.int l3), some (.int l4), some (.int v37)], [.int (v47 + (v54 * v58)), .int v37, .ref v41], H)) rfl ?_
      obtain ⟨H61, e61, h⟩ := qv_bind h
      refine qv_ast rfl e61 ?_
      refine qv_run 2 (σ := (64, [some (.ref l0), some (.int l1), some (.ref l2), some (.int l3), some (.int l4), some (.int v37)], [.ref l0, .int l3], H61)) rfl ?_
      obtain ⟨v64, e64, h⟩ := qv_bind h
      refine qv_getR rfl e64 ?_
      refine qv_run 1 (σ := (69, [some (.ref l0), some (.int l1), some (.ref l2), some (.int l3), some (.int l4), some (.int v37)], [.int v37, .ref v64, .int l3], H61)) rfl ?_
      obtain ⟨v69, e69, h⟩ := qv_bind h
      refine qv_ald rfl e69 ?_
      refine qv_run 4 (σ := (25, [some (.ref l0), some (.int l1), some (.ref l2), some (.int (ji_max l3 v69)), some (.int (l4 + 1)), some (.int v37)], [], H61)) rfl ?_
      exact ih l0 l1 l2 (ji_max l3 v69) (l4 + 1) (some (.int v37)) rfl H61 h
theorem tlb_X1_minutesOfTried_25 {r : Int32} {H' : qx_H} : ∀ (n : Nat) (l0 : Nat) (l1 : Int32) (l2 : Nat) (l3 : Int32) (l4 : Int32) (H : qx_H) (h : fm_X1_minutesOfTried_b25 n l0 l1 l2 l3 l4 H = some (r, H')), H'.length = H.length := by
  intro n
  induction n with
  | zero => intro l0 l1 l2 l3 l4 H h; exact nomatch (show (none : Option (Int32 × qx_H)) = some (r, H') from h)
  | succ n ih =>
    intro l0 l1 l2 l3 l4 H h
    unfold fm_X1_minutesOfTried_b25 at h
    by_cases c28 : l1 ≤ l4
    · replace h := qv_pos c28 h
      obtain ⟨rfl, rfl⟩ := qv_pair h
      rfl
    · replace h := qv_neg c28 h
      obtain ⟨v32, e32, h⟩ := qv_bind h
      obtain ⟨v37, e37, h⟩ := qv_bind h
      obtain ⟨v41, e41, h⟩ := qv_bind h
      obtain ⟨v47, e47, h⟩ := qv_bind h
      obtain ⟨v49, e49, h⟩ := qv_bind h
      obtain ⟨v54, e54, h⟩ := qv_bind h
      obtain ⟨v58, e58, h⟩ := qv_bind h
      obtain ⟨H61, e61, h⟩ := qv_bind h
      have q_H61 := hp_ast_len e61
      obtain ⟨v64, e64, h⟩ := qv_bind h
      obtain ⟨v69, e69, h⟩ := qv_bind h
      have q_end := ih l0 l1 l2 (ji_max l3 v69) (l4 + 1) H61 h
      omega
theorem tb_X1_minutesOfTried_2 {st : xT} {d : Nat} {R : Option Value → qx_H → Prop} (hd : 0 ≤ d) {r : Int32} {H' : qx_H} (hR : R (some (.int r)) H') : ∀ (n : Nat) (l0 : Nat) (l1 : Int32) (l2 : Nat) (l3 : Int32) (H : qx_H) (h : fm_X1_minutesOfTried_b2 n l0 l1 l2 l3 H = some (r, H')), qx_V (xE st d) R (xc16 st) (2, [some (.ref l0), some (.int l1), some (.ref l2), some (.int l3), none, none], [], H) := by
  intro n
  induction n with
  | zero => intro l0 l1 l2 l3 H h; exact nomatch (show (none : Option (Int32 × qx_H)) = some (r, H') from h)
  | succ n ih =>
    intro l0 l1 l2 l3 H h
    unfold fm_X1_minutesOfTried_b2 at h
    refine qv_br (c := 3 ≤ l3) (a := (20, [some (.ref l0), some (.int l1), some (.ref l2), some (.int l3), none, none], [], H)) (b := (7, [some (.ref l0), some (.int l1), some (.ref l2), some (.int l3), none, none], [], H)) 3 rfl (fun c4 => ?_) (fun c4 => ?_)
    · replace h := qv_pos c4 h
      refine qv_run 4 (σ := (25, [some (.ref l0), some (.int l1), some (.ref l2), some (.int 0), some (.int 0), none], [], H)) rfl ?_
      exact tb_X1_minutesOfTried_25 hd hR 5000 l0 l1 l2 0 0 none rfl H h
    · replace h := qv_neg c4 h
      refine qv_run 1 (σ := (8, [some (.ref l0), some (.int l1), some (.ref l2), some (.int l3), none, none], [.ref l0], H)) rfl ?_
      obtain ⟨v8, e8, h⟩ := qv_bind h
      refine qv_getR rfl e8 ?_
      refine qv_run 2 (σ := (13, [some (.ref l0), some (.int l1), some (.ref l2), some (.int l3), none, none], [.int 0, .int l3, .ref v8], H)) rfl ?_
      obtain ⟨H13, e13, h⟩ := qv_bind h
      refine qv_ast rfl e13 ?_
      refine qv_run 2 (σ := (2, [some (.ref l0), some (.int l1), some (.ref l2), some (.int (l3 + 1)), none, none], [], H13)) rfl ?_
      exact ih l0 l1 l2 (l3 + 1) H13 h
theorem tlb_X1_minutesOfTried_2 {r : Int32} {H' : qx_H} : ∀ (n : Nat) (l0 : Nat) (l1 : Int32) (l2 : Nat) (l3 : Int32) (H : qx_H) (h : fm_X1_minutesOfTried_b2 n l0 l1 l2 l3 H = some (r, H')), H'.length = H.length := by
  intro n
  induction n with
  | zero => intro l0 l1 l2 l3 H h; exact nomatch (show (none : Option (Int32 × qx_H)) = some (r, H') from h)
  | succ n ih =>
    intro l0 l1 l2 l3 H h
    unfold fm_X1_minutesOfTried_b2 at h
    by_cases c4 : 3 ≤ l3
    · replace h := qv_pos c4 h
      exact tlb_X1_minutesOfTried_25 5000 l0 l1 l2 0 0 H h
    · replace h := qv_neg c4 h
      obtain ⟨v8, e8, h⟩ := qv_bind h
      obtain ⟨H13, e13, h⟩ := qv_bind h
      have q_H13 := hp_ast_len e13
      have q_end := ih l0 l1 l2 (l3 + 1) H13 h
      omega
theorem tb_X1_minutesOfTried_0 {st : xT} {d : Nat} {R : Option Value → qx_H → Prop} (hd : 0 ≤ d) {r : Int32} {H' : qx_H} (hR : R (some (.int r)) H') (a0 : Nat) (a1 : Int32) (a2 : Nat) (H : qx_H) (h : fm_X1_minutesOfTried a0 a1 a2 H = some (r, H')) : qx_V (xE st d) R (xc16 st) (0, [some (.ref a0), some (.int a1), some (.ref a2), none, none, none], [], H) := by
  unfold fm_X1_minutesOfTried at h
  refine qv_run 2 (σ := (2, [some (.ref a0), some (.int a1), some (.ref a2), some (.int 0), none, none], [], H)) rfl ?_
  exact tb_X1_minutesOfTried_2 hd hR 5000 a0 a1 a2 0 H h
theorem tlb_X1_minutesOfTried_0 {r : Int32} {H' : qx_H} (a0 : Nat) (a1 : Int32) (a2 : Nat) (H : qx_H) (h : fm_X1_minutesOfTried a0 a1 a2 H = some (r, H')) : H'.length = H.length := by
  unfold fm_X1_minutesOfTried at h
  exact tlb_X1_minutesOfTried_2 5000 a0 a1 a2 0 H h
theorem th_X1_minutesOfTried {st : xT} {d : Nat} (hd : 1 ≤ d) {a0 : Nat} {a1 : Int32} {a2 : Nat} {H : qx_H} {r : Int32} {H' : qx_H} (h : fm_X1_minutesOfTried a0 a1 a2 H = some (r, H')) : xE st d 16 [.ref a0, .int a1, .ref a2] H (some (.int r)) H' := by
  obtain ⟨d, rfl⟩ : ∃ d', d = d' + 1 := ⟨d - 1, by omega⟩
  exact xE_of (xe16 st) xl16 (Nat.le_of_ble_eq_true rfl) (ls := [some (.ref a0), some (.int a1), some (.ref a2), none, none, none]) rfl (tb_X1_minutesOfTried_0 (by omega) ⟨rfl, rfl⟩ a0 a1 a2 H h)
theorem tl_X1_minutesOfTried {a0 : Nat} {a1 : Int32} {a2 : Nat} {H : qx_H} {r : Int32} {H' : qx_H} (h : fm_X1_minutesOfTried a0 a1 a2 H = some (r, H')) : H'.length = H.length := tlb_X1_minutesOfTried_0 a0 a1 a2 H h
def fm_X1_plan_b143 (k59 : Nat → Nat → Int32 → Int32 → Int32 → qx_H → Option qx_H) (l0 : Nat) (l3 : Nat) (l4 : Int32) (l5 : Int32) (l6 : Int32) (H : qx_H) : Option qx_H := k59 l0 l3 l4 l5 (l6 + 1) H
def fm_X1_plan_b76 (k59 : Nat → Nat → Int32 → Int32 → Int32 → qx_H → Option qx_H) : Nat → Nat → Nat → Int32 → Int32 → Int32 → Int32 → Int32 → qx_H → Option qx_H
  | 0, _, _, _, _, _, _, _, _ => none
  | n + 1, l0, l3, l4, l5, l6, l7, l8, H => if l8 < 0 then (if hp_is H l0 0 = true then (ob2 (fm_X1_minutesOfTried l0 l4 l3 H) fun v108 H108 => (hp_gI H108 l0 0 4).bind fun v116 => if v116 ≤ v108 then (fm_X1_plan_b143 k59 l0 l3 l4 l5 l6 H108) else ((hp_put H108 l0 0 4 (.int v108)).bind fun H125 => (hp_gR H125 l0 0 1).bind fun v129 => (hp_gR H125 l0 0 2).bind fun v134 => (hp_cpy H125 v129 0 v134 0 l4).bind fun H140 => fm_X1_plan_b143 k59 l0 l3 l4 l5 l6 H140)) else none) else ((hp_gR H l0 0 1).bind fun v82 => (hp_ast H v82 l8 (ji_rem l7 3)).bind fun H91 => fm_X1_plan_b76 k59 n l0 l3 l4 l5 l6 (l7 / 3) (l8 + (-1)) H91)
def fm_X1_plan_b59 : Nat → Nat → Nat → Int32 → Int32 → Int32 → qx_H → Option qx_H
  | 0, _, _, _, _, _, _ => none
  | n + 1, l0, l3, l4, l5, l6, H => if l5 ≤ l6 then (some H) else (fm_X1_plan_b76 (fm_X1_plan_b59 n) 5000 l0 l3 l4 l5 l6 l6 (l4 - 1) H)
def fm_X1_plan_b14 : Nat → Nat → Int32 → Nat → Int32 → Int32 → Int32 → qx_H → Option qx_H
  | 0, _, _, _, _, _, _, _ => none
  | n + 1, l0, l1, l3, l4, l5, l6, H => if l4 ≤ l6 then ((hp_put H l0 0 4 (.int 931)).bind fun H53 => fm_X1_plan_b59 5000 l0 l3 l4 l5 0 H53) else ((hp_gR H l0 0 0).bind fun v22 => (fm_X0_holeAt l1 l6 H).bind fun v30 => (hp_ast H v22 l6 (fm_J6_bitCount_0f7a4 v30)).bind fun H36 => fm_X1_plan_b14 n l0 l1 l3 l4 (l5 * 3) (l6 + 1) H36)
def fm_X1_plan (a0 : Nat) (a1 : Int32) (a2 : Int32) (a3 : Nat) (H : qx_H) : Option qx_H := fm_X1_plan_b14 5000 a0 a1 a3 (ji_min a2 6) 1 0 H
theorem tb_X1_plan_143 {st : xT} {d : Nat} {R : Option Value → qx_H → Prop} (hd : 5 ≤ d) {H' : qx_H} (k59 : Nat → Nat → Int32 → Int32 → Int32 → qx_H → Option qx_H) (hk59 : ∀ (l0 : Nat) (l3 : Nat) (l4 : Int32) (l5 : Int32) (l6 : Int32) (z1 : Option Value) (hz1 : qx_ns z1 = true) (z2 : Option Value) (hz2 : qx_ns z2 = true) (z7 : Option Value) (hz7 : qx_ns z7 = true) (z8 : Option Value) (hz8 : qx_ns z8 = true) (H : qx_H), k59 l0 l3 l4 l5 l6 H = some H' → qx_V (xE st d) R (xc15 st) (59, [some (.ref l0), z1, z2, some (.ref l3), some (.int l4), some (.int l5), some (.int l6), z7, z8], [], H)) (hR : R (none) H') (l0 : Nat) (l3 : Nat) (l4 : Int32) (l5 : Int32) (l6 : Int32) (z1 : Option Value) (hz1 : qx_ns z1 = true) (z2 : Option Value) (hz2 : qx_ns z2 = true) (z7 : Option Value) (hz7 : qx_ns z7 = true) (z8 : Option Value) (hz8 : qx_ns z8 = true) (H : qx_H) (h : fm_X1_plan_b143 k59 l0 l3 l4 l5 l6 H = some H') : qx_V (xE st d) R (xc15 st) (143, [some (.ref l0), z1, z2, some (.ref l3), some (.int l4), some (.int l5), some (.int l6), z7, z8], [], H) := by
  unfold fm_X1_plan_b143 at h
  refine qv_run 2 (σ := (59, [some (.ref l0), z1, z2, some (.ref l3), some (.int l4), some (.int l5), some (.int (l6 + 1)), z7, z8], [], H)) rfl ?_
  exact hk59 l0 l3 l4 l5 (l6 + 1) z1 hz1 z2 hz2 z7 hz7 z8 hz8 H h
theorem tlb_X1_plan_143 {H' : qx_H} (k59 : Nat → Nat → Int32 → Int32 → Int32 → qx_H → Option qx_H) (hk59 : ∀ (l0 : Nat) (l3 : Nat) (l4 : Int32) (l5 : Int32) (l6 : Int32) (H : qx_H), k59 l0 l3 l4 l5 l6 H = some H' → H'.length = H.length) (l0 : Nat) (l3 : Nat) (l4 : Int32) (l5 : Int32) (l6 : Int32) (H : qx_H) (h : fm_X1_plan_b143 k59 l0 l3 l4 l5 l6 H = some H') : H'.length = H.length := by
  unfold fm_X1_plan_b143 at h
  exact hk59 l0 l3 l4 l5 (l6 + 1) H h
theorem tb_X1_plan_76 {st : xT} {d : Nat} {R : Option Value → qx_H → Prop} (hd : 5 ≤ d) {H' : qx_H} (k59 : Nat → Nat → Int32 → Int32 → Int32 → qx_H → Option qx_H) (hk59 : ∀ (l0 : Nat) (l3 : Nat) (l4 : Int32) (l5 : Int32) (l6 : Int32) (z1 : Option Value) (hz1 : qx_ns z1 = true) (z2 : Option Value) (hz2 : qx_ns z2 = true) (z7 : Option Value) (hz7 : qx_ns z7 = true) (z8 : Option Value) (hz8 : qx_ns z8 = true) (H : qx_H), k59 l0 l3 l4 l5 l6 H = some H' → qx_V (xE st d) R (xc15 st) (59, [some (.ref l0), z1, z2, some (.ref l3), some (.int l4), some (.int l5), some (.int l6), z7, z8], [], H)) (hR : R (none) H') : ∀ (n : Nat) (l0 : Nat) (l3 : Nat) (l4 : Int32) (l5 : Int32) (l6 : Int32) (l7 : Int32) (l8 : Int32) (z1 : Option Value) (hz1 : qx_ns z1 = true) (z2 : Option Value) (hz2 : qx_ns z2 = true) (H : qx_H) (h : fm_X1_plan_b76 k59 n l0 l3 l4 l5 l6 l7 l8 H = some H'), qx_V (xE st d) R (xc15 st) (76, [some (.ref l0), z1, z2, some (.ref l3), some (.int l4), some (.int l5), some (.int l6), some (.int l7), some (.int l8)], [], H) := by
  intro n
  induction n with
  | zero => intro l0 l3 l4 l5 l6 l7 l8 z1 hz1 z2 hz2 H h; exact nomatch (show (none : Option qx_H) = some H' from h)
  | succ n ih =>
    intro l0 l3 l4 l5 l6 l7 l8 z1 hz1 z2 hz2 H h
    unfold fm_X1_plan_b76 at h
    refine qv_br (c := l8 < 0) (a := (104, [some (.ref l0), z1, z2, some (.ref l3), some (.int l4), some (.int l5), some (.int l6), some (.int l7), some (.int l8)], [], H)) (b := (81, [some (.ref l0), z1, z2, some (.ref l3), some (.int l4), some (.int l5), some (.int l6), some (.int l7), some (.int l8)], [], H)) 2 rfl (fun c78 => ?_) (fun c78 => ?_)
    · replace h := qv_pos c78 h
      refine qv_run 3 (σ := (108, [some (.ref l0), z1, z2, some (.ref l3), some (.int l4), some (.int l5), some (.int l6), some (.int l7), some (.int l8)], [.ref l3, .int l4, .ref l0], H)) rfl ?_
      obtain ⟨g108, h⟩ := qv_guard h
      obtain ⟨v108, H108, e108, h⟩ := qv_bind2 h
      refine qv_callV [.int l4, .ref l3] rfl rfl rfl (Nat.le_of_ble_eq_true rfl) g108 (th_X1_minutesOfTried (by omega) e108) (tl_X1_minutesOfTried e108) ?_
      refine qv_run 3 (σ := (116, [some (.ref l0), z1, z2, some (.ref l3), some (.int l4), some (.int l5), some (.int l6), some (.int l7), some (.int v108)], [.ref l0, .int v108], H108)) rfl ?_
      obtain ⟨v116, e116, h⟩ := qv_bind h
      refine qv_getI rfl e116 ?_
      refine qv_br (c := v116 ≤ v108) (a := (143, [some (.ref l0), z1, z2, some (.ref l3), some (.int l4), some (.int l5), some (.int l6), some (.int l7), some (.int v108)], [], H108)) (b := (122, [some (.ref l0), z1, z2, some (.ref l3), some (.int l4), some (.int l5), some (.int l6), some (.int l7), some (.int v108)], [], H108)) 1 rfl (fun c119 => ?_) (fun c119 => ?_)
      · replace h := qv_pos c119 h
        exact tb_X1_plan_143 hd _ hk59 hR l0 l3 l4 l5 l6 z1 hz1 z2 hz2 (some (.int l7)) rfl (some (.int v108)) rfl H108 h
      · replace h := qv_neg c119 h
        refine qv_run 2 (σ := (125, [some (.ref l0), z1, z2, some (.ref l3), some (.int l4), some (.int l5), some (.int l6), some (.int l7), some (.int v108)], [.int v108, .ref l0], H108)) rfl ?_
        obtain ⟨H125, e125, h⟩ := qv_bind h
        refine qv_putI rfl e125 ?_
        refine qv_run 1 (σ := (129, [some (.ref l0), z1, z2, some (.ref l3), some (.int l4), some (.int l5), some (.int l6), some (.int l7), some (.int v108)], [.ref l0], H125)) rfl ?_
        obtain ⟨v129, e129, h⟩ := qv_bind h
        refine qv_getR rfl e129 ?_
        refine qv_run 2 (σ := (134, [some (.ref l0), z1, z2, some (.ref l3), some (.int l4), some (.int l5), some (.int l6), some (.int l7), some (.int v108)], [.ref l0, .int 0, .ref v129], H125)) rfl ?_
        obtain ⟨v134, e134, h⟩ := qv_bind h
        refine qv_getR rfl e134 ?_
        refine qv_run 2 (σ := (140, [some (.ref l0), z1, z2, some (.ref l3), some (.int l4), some (.int l5), some (.int l6), some (.int l7), some (.int v108)], [.int l4, .int 0, .ref v134, .int 0, .ref v129], H125)) rfl ?_
        obtain ⟨H140, e140, h⟩ := qv_bind h
        refine qv_cpy rfl (Nat.le_of_ble_eq_true rfl) e140 ?_
        exact tb_X1_plan_143 hd _ hk59 hR l0 l3 l4 l5 l6 z1 hz1 z2 hz2 (some (.int l7)) rfl (some (.int v108)) rfl H140 h
    · replace h := qv_neg c78 h
      refine qv_run 1 (σ := (82, [some (.ref l0), z1, z2, some (.ref l3), some (.int l4), some (.int l5), some (.int l6), some (.int l7), some (.int l8)], [.ref l0], H)) rfl ?_
      obtain ⟨v82, e82, h⟩ := qv_bind h
      refine qv_getR rfl e82 ?_
      refine qv_run 3 (σ := (90, [some (.ref l0), z1, z2, some (.ref l3), some (.int l4), some (.int l5), some (.int l6), some (.int l7), some (.int l8)], [.int 3, .int l7, .int l8, .ref v82], H)) rfl ?_
      refine qv_div rfl (by decide) ?_
      obtain ⟨H91, e91, h⟩ := qv_bind h
      refine qv_ast rfl e91 ?_
      refine qv_run 2 (σ := (95, [some (.ref l0), z1, z2, some (.ref l3), some (.int l4), some (.int l5), some (.int l6), some (.int l7), some (.int l8)], [.int 3, .int l7], H91)) rfl ?_
      refine qv_div rfl (by decide) ?_
      refine qv_run 3 (σ := (76, [some (.ref l0), z1, z2, some (.ref l3), some (.int l4), some (.int l5), some (.int l6), some (.int (l7 / 3)), some (.int (l8 + (-1)))], [], H91)) rfl ?_
      exact ih l0 l3 l4 l5 l6 (l7 / 3) (l8 + (-1)) z1 hz1 z2 hz2 H91 h
theorem tlb_X1_plan_76 {H' : qx_H} (k59 : Nat → Nat → Int32 → Int32 → Int32 → qx_H → Option qx_H) (hk59 : ∀ (l0 : Nat) (l3 : Nat) (l4 : Int32) (l5 : Int32) (l6 : Int32) (H : qx_H), k59 l0 l3 l4 l5 l6 H = some H' → H'.length = H.length) : ∀ (n : Nat) (l0 : Nat) (l3 : Nat) (l4 : Int32) (l5 : Int32) (l6 : Int32) (l7 : Int32) (l8 : Int32) (H : qx_H) (h : fm_X1_plan_b76 k59 n l0 l3 l4 l5 l6 l7 l8 H = some H'), H'.length = H.length := by
  intro n
  induction n with
  | zero => intro l0 l3 l4 l5 l6 l7 l8 H h; exact nomatch (show (none : Option qx_H) = some H' from h)
  | succ n ih =>
    intro l0 l3 l4 l5 l6 l7 l8 H h
    unfold fm_X1_plan_b76 at h
    by_cases c78 : l8 < 0
    · replace h := qv_pos c78 h
      obtain ⟨g108, h⟩ := qv_guard h
      obtain ⟨v108, H108, e108, h⟩ := qv_bind2 h
      have q_H108 := tl_X1_minutesOfTried e108
      obtain ⟨v116, e116, h⟩ := qv_bind h
      by_cases c119 : v116 ≤ v108
      · replace h := qv_pos c119 h
        have q_end := tlb_X1_plan_143 _ hk59 l0 l3 l4 l5 l6 H108 h
        omega
      · replace h := qv_neg c119 h
        obtain ⟨H125, e125, h⟩ := qv_bind h
        have q_H125 := hp_put_len e125
        obtain ⟨v129, e129, h⟩ := qv_bind h
        obtain ⟨v134, e134, h⟩ := qv_bind h
        obtain ⟨H140, e140, h⟩ := qv_bind h
        have q_H140 := hp_cpy_len e140
        have q_end := tlb_X1_plan_143 _ hk59 l0 l3 l4 l5 l6 H140 h
        omega
    · replace h := qv_neg c78 h
      obtain ⟨v82, e82, h⟩ := qv_bind h
      obtain ⟨H91, e91, h⟩ := qv_bind h
      have q_H91 := hp_ast_len e91
      have q_end := ih l0 l3 l4 l5 l6 (l7 / 3) (l8 + (-1)) H91 h
      omega
theorem tb_X1_plan_59 {st : xT} {d : Nat} {R : Option Value → qx_H → Prop} (hd : 5 ≤ d) {H' : qx_H} (hR : R (none) H') : ∀ (n : Nat) (l0 : Nat) (l3 : Nat) (l4 : Int32) (l5 : Int32) (l6 : Int32) (z1 : Option Value) (hz1 : qx_ns z1 = true) (z2 : Option Value) (hz2 : qx_ns z2 = true) (z7 : Option Value) (hz7 : qx_ns z7 = true) (z8 : Option Value) (hz8 : qx_ns z8 = true) (H : qx_H) (h : fm_X1_plan_b59 n l0 l3 l4 l5 l6 H = some H'), qx_V (xE st d) R (xc15 st) (59, [some (.ref l0), z1, z2, some (.ref l3), some (.int l4), some (.int l5), some (.int l6), z7, z8], [], H) := by
  intro n
  induction n with
  | zero => intro l0 l3 l4 l5 l6 z1 hz1 z2 hz2 z7 hz7 z8 hz8 H h; exact nomatch (show (none : Option qx_H) = some H' from h)
  | succ n ih =>
    intro l0 l3 l4 l5 l6 z1 hz1 z2 hz2 z7 hz7 z8 hz8 H h
    unfold fm_X1_plan_b59 at h
    refine qv_br (c := l5 ≤ l6) (a := (149, [some (.ref l0), z1, z2, some (.ref l3), some (.int l4), some (.int l5), some (.int l6), z7, z8], [], H)) (b := (66, [some (.ref l0), z1, z2, some (.ref l3), some (.int l4), some (.int l5), some (.int l6), z7, z8], [], H)) 3 rfl (fun c63 => ?_) (fun c63 => ?_)
    · replace h := qv_pos c63 h
      cases h
      exact qv_ret0 rfl hR
    · replace h := qv_neg c63 h
      refine qv_run 6 (σ := (76, [some (.ref l0), z1, z2, some (.ref l3), some (.int l4), some (.int l5), some (.int l6), some (.int l6), some (.int (l4 - 1))], [], H)) rfl ?_
      exact tb_X1_plan_76 hd _ ih hR 5000 l0 l3 l4 l5 l6 l6 (l4 - 1) z1 hz1 z2 hz2 H h
theorem tlb_X1_plan_59 {H' : qx_H} : ∀ (n : Nat) (l0 : Nat) (l3 : Nat) (l4 : Int32) (l5 : Int32) (l6 : Int32) (H : qx_H) (h : fm_X1_plan_b59 n l0 l3 l4 l5 l6 H = some H'), H'.length = H.length := by
  intro n
  induction n with
  | zero => intro l0 l3 l4 l5 l6 H h; exact nomatch (show (none : Option qx_H) = some H' from h)
  | succ n ih =>
    intro l0 l3 l4 l5 l6 H h
    unfold fm_X1_plan_b59 at h
    by_cases c63 : l5 ≤ l6
    · replace h := qv_pos c63 h
      cases h
      rfl
    · replace h := qv_neg c63 h
      exact tlb_X1_plan_76 _ ih 5000 l0 l3 l4 l5 l6 l6 (l4 - 1) H h
theorem tb_X1_plan_14 {st : xT} {d : Nat} {R : Option Value → qx_H → Prop} (hd : 5 ≤ d) {H' : qx_H} (hR : R (none) H') : ∀ (n : Nat) (l0 : Nat) (l1 : Int32) (l3 : Nat) (l4 : Int32) (l5 : Int32) (l6 : Int32) (z2 : Option Value) (hz2 : qx_ns z2 = true) (H : qx_H) (h : fm_X1_plan_b14 n l0 l1 l3 l4 l5 l6 H = some H'), qx_V (xE st d) R (xc15 st) (14, [some (.ref l0), some (.int l1), z2, some (.ref l3), some (.int l4), some (.int l5), some (.int l6), none, none], [], H) := by
  intro n
  induction n with
  | zero => intro l0 l1 l3 l4 l5 l6 z2 hz2 H h; exact nomatch (show (none : Option qx_H) = some H' from h)
  | succ n ih =>
    intro l0 l1 l3 l4 l5 l6 z2 hz2 H h
    unfold fm_X1_plan_b14 at h
    refine qv_br (c := l4 ≤ l6) (a := (49, [some (.ref l0), some (.int l1), z2, some (.ref l3), some (.int l4), some (.int l5), some (.int l6), none, none], [], H)) (b := (21, [some (.ref l0), some (.int l1), z2, some (.ref l3), some (.int l4), some (.int l5), some (.int l6), none, none], [], H)) 3 rfl (fun c18 => ?_) (fun c18 => ?_)
    · replace h := qv_pos c18 h
      refine qv_run 2 (σ := (53, [some (.ref l0), some (.int l1), z2, some (.ref l3), some (.int l4), some (.int l5), some (.int l6), none, none], [.int 931, .ref l0], H)) rfl ?_
      obtain ⟨H53, e53, h⟩ := qv_bind h
      refine qv_putI rfl e53 ?_
      refine qv_run 2 (σ := (59, [some (.ref l0), some (.int l1), z2, some (.ref l3), some (.int l4), some (.int l5), some (.int 0), none, none], [], H53)) rfl ?_
      exact tb_X1_plan_59 hd hR 5000 l0 l3 l4 l5 0 (some (.int l1)) rfl z2 hz2 none rfl none rfl H53 h
    · replace h := qv_neg c18 h
      refine qv_run 1 (σ := (22, [some (.ref l0), some (.int l1), z2, some (.ref l3), some (.int l4), some (.int l5), some (.int l6), none, none], [.ref l0], H)) rfl ?_
      obtain ⟨v22, e22, h⟩ := qv_bind h
      refine qv_getR rfl e22 ?_
      refine qv_run 3 (σ := (30, [some (.ref l0), some (.int l1), z2, some (.ref l3), some (.int l4), some (.int l5), some (.int l6), none, none], [.int l6, .int l1, .int l6, .ref v22], H)) rfl ?_
      obtain ⟨v30, e30, h⟩ := qv_bind h
      refine qv_call [.int l1, .int l6] rfl rfl rfl (Nat.le_of_ble_eq_true rfl) (th_X0_holeAt (by omega) e30) rfl ?_
      refine qv_call [.int v30] rfl rfl rfl (Nat.le_of_ble_eq_true rfl) (th_J6_bitCount_0f7a4 (by omega) rfl) rfl ?_
      obtain ⟨H36, e36, h⟩ := qv_bind h
      refine qv_ast rfl e36 ?_
      refine qv_run 6 (σ := (14, [some (.ref l0), some (.int l1), z2, some (.ref l3), some (.int l4), some (.int (l5 * 3)), some (.int (l6 + 1)), none, none], [], H36)) rfl ?_
      exact ih l0 l1 l3 l4 (l5 * 3) (l6 + 1) z2 hz2 H36 h
theorem tlb_X1_plan_14 {H' : qx_H} : ∀ (n : Nat) (l0 : Nat) (l1 : Int32) (l3 : Nat) (l4 : Int32) (l5 : Int32) (l6 : Int32) (H : qx_H) (h : fm_X1_plan_b14 n l0 l1 l3 l4 l5 l6 H = some H'), H'.length = H.length := by
  intro n
  induction n with
  | zero => intro l0 l1 l3 l4 l5 l6 H h; exact nomatch (show (none : Option qx_H) = some H' from h)
  | succ n ih =>
    intro l0 l1 l3 l4 l5 l6 H h
    unfold fm_X1_plan_b14 at h
    by_cases c18 : l4 ≤ l6
    · replace h := qv_pos c18 h
      obtain ⟨H53, e53, h⟩ := qv_bind h
      have q_H53 := hp_put_len e53
      have q_end := tlb_X1_plan_59 5000 l0 l3 l4 l5 0 H53 h
      omega
    · replace h := qv_neg c18 h
      obtain ⟨v22, e22, h⟩ := qv_bind h
      obtain ⟨v30, e30, h⟩ := qv_bind h
      obtain ⟨H36, e36, h⟩ := qv_bind h
      have q_H36 := hp_ast_len e36
      have q_end := ih l0 l1 l3 l4 (l5 * 3) (l6 + 1) H36 h
      omega
theorem tb_X1_plan_0 {st : xT} {d : Nat} {R : Option Value → qx_H → Prop} (hd : 5 ≤ d) {H' : qx_H} (hR : R (none) H') (a0 : Nat) (a1 : Int32) (a2 : Int32) (a3 : Nat) (H : qx_H) (h : fm_X1_plan a0 a1 a2 a3 H = some H') : qx_V (xE st d) R (xc15 st) (0, [some (.ref a0), some (.int a1), some (.int a2), some (.ref a3), none, none, none, none, none], [], H) := by
  unfold fm_X1_plan at h
  refine qv_run 8 (σ := (14, [some (.ref a0), some (.int a1), some (.int a2), some (.ref a3), some (.int (ji_min a2 6)), some (.int 1), some (.int 0), none, none], [], H)) rfl ?_
  exact tb_X1_plan_14 hd hR 5000 a0 a1 a3 (ji_min a2 6) 1 0 (some (.int a2)) rfl H h
theorem tlb_X1_plan_0 {H' : qx_H} (a0 : Nat) (a1 : Int32) (a2 : Int32) (a3 : Nat) (H : qx_H) (h : fm_X1_plan a0 a1 a2 a3 H = some H') : H'.length = H.length := by
  unfold fm_X1_plan at h
  exact tlb_X1_plan_14 5000 a0 a1 a3 (ji_min a2 6) 1 0 H h
theorem th_X1_plan {st : xT} {d : Nat} (hd : 6 ≤ d) {a0 : Nat} {a1 : Int32} {a2 : Int32} {a3 : Nat} {H : qx_H} {H' : qx_H} (h : fm_X1_plan a0 a1 a2 a3 H = some H') : xE st d 15 [.ref a0, .int a1, .int a2, .ref a3] H (none) H' := by
  obtain ⟨d, rfl⟩ : ∃ d', d = d' + 1 := ⟨d - 1, by omega⟩
  exact xE_of (xe15 st) xl15 (Nat.le_of_ble_eq_true rfl) (ls := [some (.ref a0), some (.int a1), some (.int a2), some (.ref a3), none, none, none, none, none]) rfl (tb_X1_plan_0 (by omega) ⟨rfl, rfl⟩ a0 a1 a2 a3 H h)
theorem tl_X1_plan {a0 : Nat} {a1 : Int32} {a2 : Int32} {a3 : Nat} {H : qx_H} {H' : qx_H} (h : fm_X1_plan a0 a1 a2 a3 H = some H') : H'.length = H.length := tlb_X1_plan_0 a0 a1 a2 a3 H h
def fm_X2_above (a0 : Int32) : Int32 := if a0 = 0 then ((-1)) else if a0 = 4 then (1) else if a0 = 5 then (2) else (0)
theorem tb_X2_above_0 {st : xT} {d : Nat} {R : Option Value → qx_H → Prop} (hd : 0 ≤ d) {r : Int32} {H : qx_H} (hR : R (some (.int r)) H) (a0 : Int32) (h : fm_X2_above a0 = r) : qx_V (xE st d) R (xc17 st) (0, [some (.int a0)], [], H) := by
  unfold fm_X2_above at h
  refine qv_run 2 (σ := (qx_swt a0 42 [(0, 36), (4, 38), (5, 40)], [some (.int a0)], [], H)) rfl ?_
  refine qv_swt (fun c1_0 => ?_) (fun c1_0 => ?_)
  · replace h := qv_pos c1_0 h
    refine qv_run 1 (σ := (37, [some (.int a0)], [.int (-1)], H)) rfl ?_
    subst h
    exact qv_reti rfl hR
  · replace h := qv_neg c1_0 h
    refine qv_swt (fun c1_1 => ?_) (fun c1_1 => ?_)
    · replace h := qv_pos c1_1 h
      refine qv_run 1 (σ := (39, [some (.int a0)], [.int 1], H)) rfl ?_
      subst h
      exact qv_reti rfl hR
    · replace h := qv_neg c1_1 h
      refine qv_swt (fun c1_2 => ?_) (fun c1_2 => ?_)
      · replace h := qv_pos c1_2 h
        refine qv_run 1 (σ := (41, [some (.int a0)], [.int 2], H)) rfl ?_
        subst h
        exact qv_reti rfl hR
      · replace h := qv_neg c1_2 h
        refine qv_sw0 ?_
        refine qv_run 1 (σ := (43, [some (.int a0)], [.int 0], H)) rfl ?_
        subst h
        exact qv_reti rfl hR
theorem th_X2_above {st : xT} {d : Nat} (hd : 1 ≤ d) {a0 : Int32} {r : Int32} {H : qx_H} (h : fm_X2_above a0 = r) : xE st d 17 [.int a0] H (some (.int r)) H := by
  obtain ⟨d, rfl⟩ : ∃ d', d = d' + 1 := ⟨d - 1, by omega⟩
  exact xE_of (xe17 st) xl17 (Nat.le_of_ble_eq_true rfl) (ls := [some (.int a0)]) rfl (tb_X2_above_0 (by omega) ⟨rfl, rfl⟩ a0 h)
def fm_X2_isUnder_b4 : Nat → Int32 → Int32 → Int32 → qx_H → Option Int32
  | 0, _, _, _, _ => none
  | n + 1, l1, l2, l3, H => if 7 ≤ l3 then (some 0) else (if l2 = (-1) then (some 0) else (if l2 = l1 then (some 1) else (fm_X2_isUnder_b4 n l1 (fm_X2_above l2) (l3 + 1) H)))
def fm_X2_isUnder (a0 : Int32) (a1 : Int32) (H : qx_H) : Option Int32 := fm_X2_isUnder_b4 5000 a1 a0 0 H
theorem tb_X2_isUnder_4 {st : xT} {d : Nat} {R : Option Value → qx_H → Prop} (hd : 1 ≤ d) {r : Int32} {H : qx_H} (hR : R (some (.int r)) H) : ∀ (n : Nat) (l1 : Int32) (l2 : Int32) (l3 : Int32) (z0 : Option Value) (hz0 : qx_ns z0 = true) (h : fm_X2_isUnder_b4 n l1 l2 l3 H = some r), qx_V (xE st d) R (xc18 st) (4, [z0, some (.int l1), some (.int l2), some (.int l3)], [], H) := by
  intro n
  induction n with
  | zero => intro l1 l2 l3 z0 hz0 h; exact nomatch (show (none : Option Int32) = some r from h)
  | succ n ih =>
    intro l1 l2 l3 z0 hz0 h
    unfold fm_X2_isUnder_b4 at h
    refine qv_br (c := 7 ≤ l3) (a := (33, [z0, some (.int l1), some (.int l2), some (.int l3)], [], H)) (b := (10, [z0, some (.int l1), some (.int l2), some (.int l3)], [], H)) 3 rfl (fun c7 => ?_) (fun c7 => ?_)
    · replace h := qv_pos c7 h
      refine qv_run 1 (σ := (34, [z0, some (.int l1), some (.int l2), some (.int l3)], [.int 0], H)) rfl ?_
      cases h
      exact qv_retz rfl (Or.inl rfl) hR
    · replace h := qv_neg c7 h
      refine qv_br (c := l2 = (-1)) (a := (33, [z0, some (.int l1), some (.int l2), some (.int l3)], [], H)) (b := (15, [z0, some (.int l1), some (.int l2), some (.int l3)], [], H)) 3 rfl (fun c12 => ?_) (fun c12 => ?_)
      · replace h := qv_pos c12 h
        refine qv_run 1 (σ := (34, [z0, some (.int l1), some (.int l2), some (.int l3)], [.int 0], H)) rfl ?_
        cases h
        exact qv_retz rfl (Or.inl rfl) hR
      · replace h := qv_neg c12 h
        refine qv_br (c := l2 = l1) (a := (20, [z0, some (.int l1), some (.int l2), some (.int l3)], [], H)) (b := (22, [z0, some (.int l1), some (.int l2), some (.int l3)], [], H)) 3 rfl (fun c17 => ?_) (fun c17 => ?_)
        · replace h := qv_pos c17 h
          refine qv_run 1 (σ := (21, [z0, some (.int l1), some (.int l2), some (.int l3)], [.int 1], H)) rfl ?_
          cases h
          exact qv_retz rfl (Or.inr rfl) hR
        · replace h := qv_neg c17 h
          refine qv_run 1 (σ := (23, [z0, some (.int l1), some (.int l2), some (.int l3)], [.int l2], H)) rfl ?_
          refine qv_call [.int l2] rfl rfl rfl (Nat.le_of_ble_eq_true rfl) (th_X2_above (by omega) rfl) rfl ?_
          refine qv_run 3 (σ := (4, [z0, some (.int l1), some (.int (fm_X2_above l2)), some (.int (l3 + 1))], [], H)) rfl ?_
          exact ih l1 (fm_X2_above l2) (l3 + 1) z0 hz0 h
theorem tzb_X2_isUnder_4 {r : Int32} {H : qx_H} : ∀ (n : Nat) (l1 : Int32) (l2 : Int32) (l3 : Int32) (h : fm_X2_isUnder_b4 n l1 l2 l3 H = some r), r = 0 ∨ r = 1 := by
  intro n
  induction n with
  | zero => intro l1 l2 l3 h; exact nomatch (show (none : Option Int32) = some r from h)
  | succ n ih =>
    intro l1 l2 l3 h
    unfold fm_X2_isUnder_b4 at h
    by_cases c7 : 7 ≤ l3
    · replace h := qv_pos c7 h
      cases h
      exact Or.inl rfl
    · replace h := qv_neg c7 h
      by_cases c12 : l2 = (-1)
      · replace h := qv_pos c12 h
        cases h
        exact Or.inl rfl
      · replace h := qv_neg c12 h
        by_cases c17 : l2 = l1
        · replace h := qv_pos c17 h
          cases h
          exact Or.inr rfl
        · replace h := qv_neg c17 h
          exact ih l1 (fm_X2_above l2) (l3 + 1) h
theorem tb_X2_isUnder_0 {st : xT} {d : Nat} {R : Option Value → qx_H → Prop} (hd : 1 ≤ d) {r : Int32} {H : qx_H} (hR : R (some (.int r)) H) (a0 : Int32) (a1 : Int32) (h : fm_X2_isUnder a0 a1 H = some r) : qx_V (xE st d) R (xc18 st) (0, [some (.int a0), some (.int a1), none, none], [], H) := by
  unfold fm_X2_isUnder at h
  refine qv_run 4 (σ := (4, [some (.int a0), some (.int a1), some (.int a0), some (.int 0)], [], H)) rfl ?_
  exact tb_X2_isUnder_4 hd hR 5000 a1 a0 0 (some (.int a0)) rfl h
theorem tzb_X2_isUnder_0 {r : Int32} {H : qx_H} (a0 : Int32) (a1 : Int32) (h : fm_X2_isUnder a0 a1 H = some r) : r = 0 ∨ r = 1 := by
  unfold fm_X2_isUnder at h
  exact tzb_X2_isUnder_4 5000 a1 a0 0 h
theorem th_X2_isUnder {st : xT} {d : Nat} (hd : 2 ≤ d) {a0 : Int32} {a1 : Int32} {r : Int32} {H : qx_H} (h : fm_X2_isUnder a0 a1 H = some r) : xE st d 18 [.int a0, .int a1] H (some (.int r)) H := by
  obtain ⟨d, rfl⟩ : ∃ d', d = d' + 1 := ⟨d - 1, by omega⟩
  exact xE_of (xe18 st) xl18 (Nat.le_of_ble_eq_true rfl) (ls := [some (.int a0), some (.int a1), none, none]) rfl (tb_X2_isUnder_0 (by omega) ⟨rfl, rfl⟩ a0 a1 h)
theorem tz_X2_isUnder {a0 : Int32} {a1 : Int32} {r : Int32} {H : qx_H} (h : fm_X2_isUnder a0 a1 H = some r) : r = 0 ∨ r = 1 := tzb_X2_isUnder_0 a0 a1 h
def fm_X2_takesOf (a0 : Int32) : Int32 := if a0 = 2 then (2) else (if a0 = 4 then (2) else (if a0 = 5 then (2) else (1)))
theorem tb_X2_takesOf_0 {st : xT} {d : Nat} {R : Option Value → qx_H → Prop} (hd : 0 ≤ d) {r : Int32} {H : qx_H} (hR : R (some (.int r)) H) (a0 : Int32) (h : fm_X2_takesOf a0 = r) : qx_V (xE st d) R (xc19 st) (0, [some (.int a0)], [], H) := by
  unfold fm_X2_takesOf at h
  refine qv_br (c := a0 = 2) (a := (15, [some (.int a0)], [], H)) (b := (5, [some (.int a0)], [], H)) 3 rfl (fun c2 => ?_) (fun c2 => ?_)
  · replace h := qv_pos c2 h
    refine qv_run 2 (σ := (20, [some (.int a0)], [.int 2], H)) rfl ?_
    subst h
    exact qv_reti rfl hR
  · replace h := qv_neg c2 h
    refine qv_br (c := a0 = 4) (a := (15, [some (.int a0)], [], H)) (b := (10, [some (.int a0)], [], H)) 3 rfl (fun c7 => ?_) (fun c7 => ?_)
    · replace h := qv_pos c7 h
      refine qv_run 2 (σ := (20, [some (.int a0)], [.int 2], H)) rfl ?_
      subst h
      exact qv_reti rfl hR
    · replace h := qv_neg c7 h
      refine qv_br (c := a0 = 5) (a := (15, [some (.int a0)], [], H)) (b := (19, [some (.int a0)], [], H)) 3 rfl (fun c12 => ?_) (fun c12 => ?_)
      · replace h := qv_pos c12 h
        refine qv_run 2 (σ := (20, [some (.int a0)], [.int 2], H)) rfl ?_
        subst h
        exact qv_reti rfl hR
      · replace h := qv_neg c12 h
        refine qv_run 1 (σ := (20, [some (.int a0)], [.int 1], H)) rfl ?_
        subst h
        exact qv_reti rfl hR
theorem th_X2_takesOf {st : xT} {d : Nat} (hd : 1 ≤ d) {a0 : Int32} {r : Int32} {H : qx_H} (h : fm_X2_takesOf a0 = r) : xE st d 19 [.int a0] H (some (.int r)) H := by
  obtain ⟨d, rfl⟩ : ∃ d', d = d' + 1 := ⟨d - 1, by omega⟩
  exact xE_of (xe19 st) xl19 (Nat.le_of_ble_eq_true rfl) (ls := [some (.int a0)]) rfl (tb_X2_takesOf_0 (by omega) ⟨rfl, rfl⟩ a0 h)
def fm_X3_init (a0 : Nat) (H : qx_H) : Option qx_H := if ¬ ((60 : Int32) < 0 ∨ 100000 < Int32.toNatClampNeg 60) ∧ qx_ok [some (.ref a0)] [.ref a0] H = true then ((hp_put (H ++ ([.inl (Int32.toNatClampNeg 60, .inl fun _ => 0)] : qx_H)) a0 1 0 (.ref H.length)).bind fun H9 => if ¬ ((60 : Int32) < 0 ∨ 100000 < Int32.toNatClampNeg 60) ∧ qx_ok [some (.ref a0)] [.ref a0] H9 = true then ((hp_put (H9 ++ ([.inl (Int32.toNatClampNeg 60, .inl fun _ => 0)] : qx_H)) a0 1 1 (.ref H9.length)).bind fun H17 => (hp_put H17 a0 1 2 (.int 0)).bind fun H22 => some H22) else none) else none
theorem tb_X3_init_0 {st : xT} {d : Nat} {R : Option Value → qx_H → Prop} (hd : 0 ≤ d) {H' : qx_H} (hR : R (none) H') (a0 : Nat) (H : qx_H) (h : fm_X3_init a0 H = some H') : qx_V (xE st d) R (xc20 st) (0, [some (.ref a0)], [], H) := by
  unfold fm_X3_init at h
  refine qv_run 4 (σ := (7, [some (.ref a0)], [.int 60, .ref a0], H)) rfl ?_
  obtain ⟨e7, h⟩ := qv_guard h
  refine qv_newa rfl e7.1 e7.2 ?_
  obtain ⟨H9, e9, h⟩ := qv_bind h
  refine qv_putR rfl e9 ?_
  refine qv_run 2 (σ := (15, [some (.ref a0)], [.int 60, .ref a0], H9)) rfl ?_
  obtain ⟨e15, h⟩ := qv_guard h
  refine qv_newa rfl e15.1 e15.2 ?_
  obtain ⟨H17, e17, h⟩ := qv_bind h
  refine qv_putR rfl e17 ?_
  refine qv_run 2 (σ := (22, [some (.ref a0)], [.int 0, .ref a0], H17)) rfl ?_
  obtain ⟨H22, e22, h⟩ := qv_bind h
  refine qv_putI rfl e22 ?_
  cases h
  exact qv_ret0 rfl hR
theorem th_X3_init {st : xT} {d : Nat} (hd : 1 ≤ d) {a0 : Nat} {H : qx_H} {H' : qx_H} (h : fm_X3_init a0 H = some H') : xE st d 20 [.ref a0] H (none) H' := by
  obtain ⟨d, rfl⟩ : ∃ d', d = d' + 1 := ⟨d - 1, by omega⟩
  exact xE_of (xe20 st) xl20 (Nat.le_of_ble_eq_true rfl) (ls := [some (.ref a0)]) rfl (tb_X3_init_0 (by omega) ⟨rfl, rfl⟩ a0 H h)
def fm_X3_isThere (a0 : Nat) (H : qx_H) : Option Int32 := (hp_gI H a0 1 2).bind fun v1 => if v1 ≤ 0 then (some 0) else (some 1)
theorem tb_X3_isThere_0 {st : xT} {d : Nat} {R : Option Value → qx_H → Prop} (hd : 0 ≤ d) {r : Int32} {H : qx_H} (hR : R (some (.int r)) H) (a0 : Nat) (h : fm_X3_isThere a0 H = some r) : qx_V (xE st d) R (xc21 st) (0, [some (.ref a0)], [], H) := by
  unfold fm_X3_isThere at h
  refine qv_run 1 (σ := (1, [some (.ref a0)], [.ref a0], H)) rfl ?_
  obtain ⟨v1, e1, h⟩ := qv_bind h
  refine qv_getI rfl e1 ?_
  refine qv_br (c := v1 ≤ 0) (a := (11, [some (.ref a0)], [], H)) (b := (7, [some (.ref a0)], [], H)) 1 rfl (fun c4 => ?_) (fun c4 => ?_)
  · replace h := qv_pos c4 h
    refine qv_run 1 (σ := (12, [some (.ref a0)], [.int 0], H)) rfl ?_
    cases h
    exact qv_retz rfl (Or.inl rfl) hR
  · replace h := qv_neg c4 h
    refine qv_run 2 (σ := (12, [some (.ref a0)], [.int 1], H)) rfl ?_
    cases h
    exact qv_retz rfl (Or.inr rfl) hR
theorem tzb_X3_isThere_0 {r : Int32} {H : qx_H} (a0 : Nat) (h : fm_X3_isThere a0 H = some r) : r = 0 ∨ r = 1 := by
  unfold fm_X3_isThere at h
  obtain ⟨v1, e1, h⟩ := qv_bind h
  by_cases c4 : v1 ≤ 0
  · replace h := qv_pos c4 h
    cases h
    exact Or.inl rfl
  · replace h := qv_neg c4 h
    cases h
    exact Or.inr rfl
theorem th_X3_isThere {st : xT} {d : Nat} (hd : 1 ≤ d) {a0 : Nat} {r : Int32} {H : qx_H} (h : fm_X3_isThere a0 H = some r) : xE st d 21 [.ref a0] H (some (.int r)) H := by
  obtain ⟨d, rfl⟩ : ∃ d', d = d' + 1 := ⟨d - 1, by omega⟩
  exact xE_of (xe21 st) xl21 (Nat.le_of_ble_eq_true rfl) (ls := [some (.ref a0)]) rfl (tb_X3_isThere_0 (by omega) ⟨rfl, rfl⟩ a0 h)
theorem tz_X3_isThere {a0 : Nat} {r : Int32} {H : qx_H} (h : fm_X3_isThere a0 H = some r) : r = 0 ∨ r = 1 := tzb_X3_isThere_0 a0 h
def fm_X3_forget (a0 : Nat) (H : qx_H) : Option qx_H := (hp_put H a0 1 2 (.int 0)).bind fun H2 => some H2
theorem tb_X3_forget_0 {st : xT} {d : Nat} {R : Option Value → qx_H → Prop} (hd : 0 ≤ d) {H' : qx_H} (hR : R (none) H') (a0 : Nat) (H : qx_H) (h : fm_X3_forget a0 H = some H') : qx_V (xE st d) R (xc22 st) (0, [some (.ref a0)], [], H) := by
  unfold fm_X3_forget at h
  refine qv_run 2 (σ := (2, [some (.ref a0)], [.int 0, .ref a0], H)) rfl ?_
  obtain ⟨H2, e2, h⟩ := qv_bind h
  refine qv_putI rfl e2 ?_
  cases h
  exact qv_ret0 rfl hR
theorem tlb_X3_forget_0 {H' : qx_H} (a0 : Nat) (H : qx_H) (h : fm_X3_forget a0 H = some H') : H'.length = H.length := by
  unfold fm_X3_forget at h
  obtain ⟨H2, e2, h⟩ := qv_bind h
  have q_H2 := hp_put_len e2
  cases h
  omega
theorem th_X3_forget {st : xT} {d : Nat} (hd : 1 ≤ d) {a0 : Nat} {H : qx_H} {H' : qx_H} (h : fm_X3_forget a0 H = some H') : xE st d 22 [.ref a0] H (none) H' := by
  obtain ⟨d, rfl⟩ : ∃ d', d = d' + 1 := ⟨d - 1, by omega⟩
  exact xE_of (xe22 st) xl22 (Nat.le_of_ble_eq_true rfl) (ls := [some (.ref a0)]) rfl (tb_X3_forget_0 (by omega) ⟨rfl, rfl⟩ a0 H h)
theorem tl_X3_forget {a0 : Nat} {H : qx_H} {H' : qx_H} (h : fm_X3_forget a0 H = some H') : H'.length = H.length := tlb_X3_forget_0 a0 H h
def fm_X3_become (a0 : Nat) (a1 : Nat) (H : qx_H) : Option qx_H := (hp_gR H a1 1 0).bind fun v1 => (hp_gR H a0 1 0).bind fun v6 => (hp_cpy H v1 0 v6 0 60).bind fun H12 => (hp_gI H12 a1 1 2).bind fun v17 => (hp_put H12 a0 1 2 (.int v17)).bind fun H20 => some H20
theorem tb_X3_become_0 {st : xT} {d : Nat} {R : Option Value → qx_H → Prop} (hd : 0 ≤ d) {H' : qx_H} (hR : R (none) H') (a0 : Nat) (a1 : Nat) (H : qx_H) (h : fm_X3_become a0 a1 H = some H') : qx_V (xE st d) R (xc23 st) (0, [some (.ref a0), some (.ref a1)], [], H) := by
  unfold fm_X3_become at h
  refine qv_run 1 (σ := (1, [some (.ref a0), some (.ref a1)], [.ref a1], H)) rfl ?_
  obtain ⟨v1, e1, h⟩ := qv_bind h
  refine qv_getR rfl e1 ?_
  refine qv_run 2 (σ := (6, [some (.ref a0), some (.ref a1)], [.ref a0, .int 0, .ref v1], H)) rfl ?_
  obtain ⟨v6, e6, h⟩ := qv_bind h
  refine qv_getR rfl e6 ?_
  refine qv_run 2 (σ := (12, [some (.ref a0), some (.ref a1)], [.int 60, .int 0, .ref v6, .int 0, .ref v1], H)) rfl ?_
  obtain ⟨H12, e12, h⟩ := qv_bind h
  refine qv_cpy rfl (Nat.le_of_ble_eq_true rfl) e12 ?_
  refine qv_run 2 (σ := (17, [some (.ref a0), some (.ref a1)], [.ref a1, .ref a0], H12)) rfl ?_
  obtain ⟨v17, e17, h⟩ := qv_bind h
  refine qv_getI rfl e17 ?_
  obtain ⟨H20, e20, h⟩ := qv_bind h
  refine qv_putI rfl e20 ?_
  cases h
  exact qv_ret0 rfl hR
theorem tlb_X3_become_0 {H' : qx_H} (a0 : Nat) (a1 : Nat) (H : qx_H) (h : fm_X3_become a0 a1 H = some H') : H'.length = H.length := by
  unfold fm_X3_become at h
  obtain ⟨v1, e1, h⟩ := qv_bind h
  obtain ⟨v6, e6, h⟩ := qv_bind h
  obtain ⟨H12, e12, h⟩ := qv_bind h
  have q_H12 := hp_cpy_len e12
  obtain ⟨v17, e17, h⟩ := qv_bind h
  obtain ⟨H20, e20, h⟩ := qv_bind h
  have q_H20 := hp_put_len e20
  cases h
  omega
theorem th_X3_become {st : xT} {d : Nat} (hd : 1 ≤ d) {a0 : Nat} {a1 : Nat} {H : qx_H} {H' : qx_H} (h : fm_X3_become a0 a1 H = some H') : xE st d 23 [.ref a0, .ref a1] H (none) H' := by
  obtain ⟨d, rfl⟩ : ∃ d', d = d' + 1 := ⟨d - 1, by omega⟩
  exact xE_of (xe23 st) xl23 (Nat.le_of_ble_eq_true rfl) (ls := [some (.ref a0), some (.ref a1)]) rfl (tb_X3_become_0 (by omega) ⟨rfl, rfl⟩ a0 a1 H h)
theorem tl_X3_become {a0 : Nat} {a1 : Nat} {H : qx_H} {H' : qx_H} (h : fm_X3_become a0 a1 H = some H') : H'.length = H.length := tlb_X3_become_0 a0 a1 H h
def fm_X3_add (a0 : Nat) (a1 : Int32) (H : qx_H) : Option qx_H := (hp_gI H a0 1 2).bind fun v1 => if 60 ≤ v1 then (some H) else ((hp_gR H a0 1 0).bind fun v10 => (hp_gI H a0 1 2).bind fun v14 => (hp_ast H v10 v14 a1).bind fun H18 => (hp_gI H18 a0 1 2).bind fun v21 => (hp_put H18 a0 1 2 (.int (v21 + 1))).bind fun H26 => some H26)
theorem tb_X3_add_0 {st : xT} {d : Nat} {R : Option Value → qx_H → Prop} (hd : 0 ≤ d) {H' : qx_H} (hR : R (none) H') (a0 : Nat) (a1 : Int32) (H : qx_H) (h : fm_X3_add a0 a1 H = some H') : qx_V (xE st d) R (xc24 st) (0, [some (.ref a0), some (.int a1)], [], H) := by
  unfold fm_X3_add at h
  refine qv_run 1 (σ := (1, [some (.ref a0), some (.int a1)], [.ref a0], H)) rfl ?_
  obtain ⟨v1, e1, h⟩ := qv_bind h
  refine qv_getI rfl e1 ?_
  refine qv_br (c := 60 ≤ v1) (a := (29, [some (.ref a0), some (.int a1)], [], H)) (b := (9, [some (.ref a0), some (.int a1)], [], H)) 2 rfl (fun c6 => ?_) (fun c6 => ?_)
  · replace h := qv_pos c6 h
    cases h
    exact qv_ret0 rfl hR
  · replace h := qv_neg c6 h
    refine qv_run 1 (σ := (10, [some (.ref a0), some (.int a1)], [.ref a0], H)) rfl ?_
    obtain ⟨v10, e10, h⟩ := qv_bind h
    refine qv_getR rfl e10 ?_
    refine qv_run 1 (σ := (14, [some (.ref a0), some (.int a1)], [.ref a0, .ref v10], H)) rfl ?_
    obtain ⟨v14, e14, h⟩ := qv_bind h
    refine qv_getI rfl e14 ?_
    refine qv_run 1 (σ := (18, [some (.ref a0), some (.int a1)], [.int a1, .int v14, .ref v10], H)) rfl ?_
    obtain ⟨H18, e18, h⟩ := qv_bind h
    refine qv_ast rfl e18 ?_
    refine qv_run 2 (σ := (21, [some (.ref a0), some (.int a1)], [.ref a0, .ref a0], H18)) rfl ?_
    obtain ⟨v21, e21, h⟩ := qv_bind h
    refine qv_getI rfl e21 ?_
    refine qv_run 2 (σ := (26, [some (.ref a0), some (.int a1)], [.int (v21 + 1), .ref a0], H18)) rfl ?_
    obtain ⟨H26, e26, h⟩ := qv_bind h
    refine qv_putI rfl e26 ?_
    cases h
    exact qv_ret0 rfl hR
theorem tlb_X3_add_0 {H' : qx_H} (a0 : Nat) (a1 : Int32) (H : qx_H) (h : fm_X3_add a0 a1 H = some H') : H'.length = H.length := by
  unfold fm_X3_add at h
  obtain ⟨v1, e1, h⟩ := qv_bind h
  by_cases c6 : 60 ≤ v1
  · replace h := qv_pos c6 h
    cases h
    rfl
  · replace h := qv_neg c6 h
    obtain ⟨v10, e10, h⟩ := qv_bind h
    obtain ⟨v14, e14, h⟩ := qv_bind h
    obtain ⟨H18, e18, h⟩ := qv_bind h
    have q_H18 := hp_ast_len e18
    obtain ⟨v21, e21, h⟩ := qv_bind h
    obtain ⟨H26, e26, h⟩ := qv_bind h
    have q_H26 := hp_put_len e26
    cases h
    omega
theorem th_X3_add {st : xT} {d : Nat} (hd : 1 ≤ d) {a0 : Nat} {a1 : Int32} {H : qx_H} {H' : qx_H} (h : fm_X3_add a0 a1 H = some H') : xE st d 24 [.ref a0, .int a1] H (none) H' := by
  obtain ⟨d, rfl⟩ : ∃ d', d = d' + 1 := ⟨d - 1, by omega⟩
  exact xE_of (xe24 st) xl24 (Nat.le_of_ble_eq_true rfl) (ls := [some (.ref a0), some (.int a1)]) rfl (tb_X3_add_0 (by omega) ⟨rfl, rfl⟩ a0 a1 H h)
theorem tl_X3_add {a0 : Nat} {a1 : Int32} {H : qx_H} {H' : qx_H} (h : fm_X3_add a0 a1 H = some H') : H'.length = H.length := tlb_X3_add_0 a0 a1 H h
def fm_X3_valueOf (a0 : Int32) (a1 : Int32) (a2 : Int32) (a3 : Int32) : Int32 := if a0 = (-3) then (a3) else if a0 = (-2) then (a2) else if a0 = (-1) then (a1) else (a0)
theorem tb_X3_valueOf_0 {st : xT} {d : Nat} {R : Option Value → qx_H → Prop} (hd : 0 ≤ d) {r : Int32} {H : qx_H} (hR : R (some (.int r)) H) (a0 : Int32) (a1 : Int32) (a2 : Int32) (a3 : Int32) (h : fm_X3_valueOf a0 a1 a2 a3 = r) : qx_V (xE st d) R (xc26 st) (0, [some (.int a0), some (.int a1), some (.int a2), some (.int a3)], [], H) := by
  unfold fm_X3_valueOf at h
  refine qv_run 2 (σ := (qx_swt a0 34 [((-3), 32), ((-2), 30), ((-1), 28)], [some (.int a0), some (.int a1), some (.int a2), some (.int a3)], [], H)) rfl ?_
  refine qv_swt (fun c1_0 => ?_) (fun c1_0 => ?_)
  · replace h := qv_pos c1_0 h
    refine qv_run 1 (σ := (33, [some (.int a0), some (.int a1), some (.int a2), some (.int a3)], [.int a3], H)) rfl ?_
    subst h
    exact qv_reti rfl hR
  · replace h := qv_neg c1_0 h
    refine qv_swt (fun c1_1 => ?_) (fun c1_1 => ?_)
    · replace h := qv_pos c1_1 h
      refine qv_run 1 (σ := (31, [some (.int a0), some (.int a1), some (.int a2), some (.int a3)], [.int a2], H)) rfl ?_
      subst h
      exact qv_reti rfl hR
    · replace h := qv_neg c1_1 h
      refine qv_swt (fun c1_2 => ?_) (fun c1_2 => ?_)
      · replace h := qv_pos c1_2 h
        refine qv_run 1 (σ := (29, [some (.int a0), some (.int a1), some (.int a2), some (.int a3)], [.int a1], H)) rfl ?_
        subst h
        exact qv_reti rfl hR
      · replace h := qv_neg c1_2 h
        refine qv_sw0 ?_
        refine qv_run 1 (σ := (35, [some (.int a0), some (.int a1), some (.int a2), some (.int a3)], [.int a0], H)) rfl ?_
        subst h
        exact qv_reti rfl hR
theorem th_X3_valueOf {st : xT} {d : Nat} (hd : 1 ≤ d) {a0 : Int32} {a1 : Int32} {a2 : Int32} {a3 : Int32} {r : Int32} {H : qx_H} (h : fm_X3_valueOf a0 a1 a2 a3 = r) : xE st d 26 [.int a0, .int a1, .int a2, .int a3] H (some (.int r)) H := by
  obtain ⟨d, rfl⟩ : ∃ d', d = d' + 1 := ⟨d - 1, by omega⟩
  exact xE_of (xe26 st) xl26 (Nat.le_of_ble_eq_true rfl) (ls := [some (.int a0), some (.int a1), some (.int a2), some (.int a3)]) rfl (tb_X3_valueOf_0 (by omega) ⟨rfl, rfl⟩ a0 a1 a2 a3 h)
def fm_X3_join (a0 : Int32) (a1 : Int32) (a2 : Int32) : Int32 := if a1 = 38 then (if a0 = 0 then (0) else (if a2 = 0 then (0) else (1))) else if a1 = 42 then (a0 * a2) else if a1 = 43 then (a0 + a2) else if a1 = 45 then (a0 - a2) else if a1 = 47 then (if a2 = 0 then (0) else (a0 / a2)) else if a1 = 60 then (if a2 ≤ a0 then (0) else (1)) else if a1 = 61 then (if a0 = a2 then (1) else (0)) else if a1 = 62 then (if a0 ≤ a2 then (0) else (1)) else if a1 = 124 then (if a0 = 0 then (if a2 = 0 then (0) else (1)) else (1)) else (if a2 = 0 then (0) else (ji_rem a0 a2))
theorem tb_X3_join_0 {st : xT} {d : Nat} {R : Option Value → qx_H → Prop} (hd : 0 ≤ d) {r : Int32} {H : qx_H} (hR : R (some (.int r)) H) (a0 : Int32) (a1 : Int32) (a2 : Int32) (h : fm_X3_join a0 a1 a2 = r) : qx_V (xE st d) R (xc27 st) (0, [some (.int a0), some (.int a1), some (.int a2)], [], H) := by
  unfold fm_X3_join at h
  refine qv_run 2 (σ := (qx_swt a1 169 [(38, 98), (42, 153), (43, 145), (45, 149), (47, 157), (60, 112), (61, 123), (62, 134), (124, 84)], [some (.int a0), some (.int a1), some (.int a2)], [], H)) rfl ?_
  refine qv_swt (fun c1_0 => ?_) (fun c1_0 => ?_)
  · replace h := qv_pos c1_0 h
    refine qv_br (c := a0 = 0) (a := (110, [some (.int a0), some (.int a1), some (.int a2)], [], H)) (b := (102, [some (.int a0), some (.int a1), some (.int a2)], [], H)) 2 rfl (fun c99 => ?_) (fun c99 => ?_)
    · replace h := qv_pos c99 h
      refine qv_run 1 (σ := (111, [some (.int a0), some (.int a1), some (.int a2)], [.int 0], H)) rfl ?_
      subst h
      exact qv_reti rfl hR
    · replace h := qv_neg c99 h
      refine qv_br (c := a2 = 0) (a := (110, [some (.int a0), some (.int a1), some (.int a2)], [], H)) (b := (106, [some (.int a0), some (.int a1), some (.int a2)], [], H)) 2 rfl (fun c103 => ?_) (fun c103 => ?_)
      · replace h := qv_pos c103 h
        refine qv_run 1 (σ := (111, [some (.int a0), some (.int a1), some (.int a2)], [.int 0], H)) rfl ?_
        subst h
        exact qv_reti rfl hR
      · replace h := qv_neg c103 h
        refine qv_run 2 (σ := (111, [some (.int a0), some (.int a1), some (.int a2)], [.int 1], H)) rfl ?_
        subst h
        exact qv_reti rfl hR
  · replace h := qv_neg c1_0 h
    refine qv_swt (fun c1_1 => ?_) (fun c1_1 => ?_)
    · replace h := qv_pos c1_1 h
      refine qv_run 3 (σ := (156, [some (.int a0), some (.int a1), some (.int a2)], [.int (a0 * a2)], H)) rfl ?_
      subst h
      exact qv_reti rfl hR
    · replace h := qv_neg c1_1 h
      refine qv_swt (fun c1_2 => ?_) (fun c1_2 => ?_)
      · replace h := qv_pos c1_2 h
        refine qv_run 3 (σ := (148, [some (.int a0), some (.int a1), some (.int a2)], [.int (a0 + a2)], H)) rfl ?_
        subst h
        exact qv_reti rfl hR
      · replace h := qv_neg c1_2 h
        refine qv_swt (fun c1_3 => ?_) (fun c1_3 => ?_)
        · replace h := qv_pos c1_3 h
          refine qv_run 3 (σ := (152, [some (.int a0), some (.int a1), some (.int a2)], [.int (a0 - a2)], H)) rfl ?_
          subst h
          exact qv_reti rfl hR
        · replace h := qv_neg c1_3 h
          refine qv_swt (fun c1_4 => ?_) (fun c1_4 => ?_)
          · replace h := qv_pos c1_4 h
            refine qv_br (c := a2 = 0) (a := (161, [some (.int a0), some (.int a1), some (.int a2)], [], H)) (b := (165, [some (.int a0), some (.int a1), some (.int a2)], [], H)) 2 rfl (fun c158 => ?_) (fun c158 => ?_)
            · replace h := qv_pos c158 h
              refine qv_run 2 (σ := (168, [some (.int a0), some (.int a1), some (.int a2)], [.int 0], H)) rfl ?_
              subst h
              exact qv_reti rfl hR
            · replace h := qv_neg c158 h
              refine qv_run 2 (σ := (167, [some (.int a0), some (.int a1), some (.int a2)], [.int a2, .int a0], H)) rfl ?_
              refine qv_div rfl c158 ?_
              subst h
              exact qv_reti rfl hR
          · replace h := qv_neg c1_4 h
            refine qv_swt (fun c1_5 => ?_) (fun c1_5 => ?_)
            · replace h := qv_pos c1_5 h
              refine qv_br (c := a2 ≤ a0) (a := (121, [some (.int a0), some (.int a1), some (.int a2)], [], H)) (b := (117, [some (.int a0), some (.int a1), some (.int a2)], [], H)) 3 rfl (fun c114 => ?_) (fun c114 => ?_)
              · replace h := qv_pos c114 h
                refine qv_run 1 (σ := (122, [some (.int a0), some (.int a1), some (.int a2)], [.int 0], H)) rfl ?_
                subst h
                exact qv_reti rfl hR
              · replace h := qv_neg c114 h
                refine qv_run 2 (σ := (122, [some (.int a0), some (.int a1), some (.int a2)], [.int 1], H)) rfl ?_
                subst h
                exact qv_reti rfl hR
            · replace h := qv_neg c1_5 h
              refine qv_swt (fun c1_6 => ?_) (fun c1_6 => ?_)
              · replace h := qv_pos c1_6 h
                refine qv_br (c := a0 = a2) (a := (128, [some (.int a0), some (.int a1), some (.int a2)], [], H)) (b := (132, [some (.int a0), some (.int a1), some (.int a2)], [], H)) 3 rfl (fun c125 => ?_) (fun c125 => ?_)
                · replace h := qv_pos c125 h
                  refine qv_run 2 (σ := (133, [some (.int a0), some (.int a1), some (.int a2)], [.int 1], H)) rfl ?_
                  subst h
                  exact qv_reti rfl hR
                · replace h := qv_neg c125 h
                  refine qv_run 1 (σ := (133, [some (.int a0), some (.int a1), some (.int a2)], [.int 0], H)) rfl ?_
                  subst h
                  exact qv_reti rfl hR
              · replace h := qv_neg c1_6 h
                refine qv_swt (fun c1_7 => ?_) (fun c1_7 => ?_)
                · replace h := qv_pos c1_7 h
                  refine qv_br (c := a0 ≤ a2) (a := (143, [some (.int a0), some (.int a1), some (.int a2)], [], H)) (b := (139, [some (.int a0), some (.int a1), some (.int a2)], [], H)) 3 rfl (fun c136 => ?_) (fun c136 => ?_)
                  · replace h := qv_pos c136 h
                    refine qv_run 1 (σ := (144, [some (.int a0), some (.int a1), some (.int a2)], [.int 0], H)) rfl ?_
                    subst h
                    exact qv_reti rfl hR
                  · replace h := qv_neg c136 h
                    refine qv_run 2 (σ := (144, [some (.int a0), some (.int a1), some (.int a2)], [.int 1], H)) rfl ?_
                    subst h
                    exact qv_reti rfl hR
                · replace h := qv_neg c1_7 h
                  refine qv_swt (fun c1_8 => ?_) (fun c1_8 => ?_)
                  · replace h := qv_pos c1_8 h
                    refine qv_br (c := a0 = 0) (a := (88, [some (.int a0), some (.int a1), some (.int a2)], [], H)) (b := (92, [some (.int a0), some (.int a1), some (.int a2)], [], H)) 2 rfl (fun c85 => ?_) (fun c85 => ?_)
                    · replace h := qv_pos c85 h
                      refine qv_br (c := a2 = 0) (a := (96, [some (.int a0), some (.int a1), some (.int a2)], [], H)) (b := (92, [some (.int a0), some (.int a1), some (.int a2)], [], H)) 2 rfl (fun c89 => ?_) (fun c89 => ?_)
                      · replace h := qv_pos c89 h
                        refine qv_run 1 (σ := (97, [some (.int a0), some (.int a1), some (.int a2)], [.int 0], H)) rfl ?_
                        subst h
                        exact qv_reti rfl hR
                      · replace h := qv_neg c89 h
                        refine qv_run 2 (σ := (97, [some (.int a0), some (.int a1), some (.int a2)], [.int 1], H)) rfl ?_
                        subst h
                        exact qv_reti rfl hR
                    · replace h := qv_neg c85 h
                      refine qv_run 2 (σ := (97, [some (.int a0), some (.int a1), some (.int a2)], [.int 1], H)) rfl ?_
                      subst h
                      exact qv_reti rfl hR
                  · replace h := qv_neg c1_8 h
                    refine qv_sw0 ?_
                    refine qv_br (c := a2 = 0) (a := (173, [some (.int a0), some (.int a1), some (.int a2)], [], H)) (b := (177, [some (.int a0), some (.int a1), some (.int a2)], [], H)) 2 rfl (fun c170 => ?_) (fun c170 => ?_)
                    · replace h := qv_pos c170 h
                      refine qv_run 2 (σ := (180, [some (.int a0), some (.int a1), some (.int a2)], [.int 0], H)) rfl ?_
                      subst h
                      exact qv_reti rfl hR
                    · replace h := qv_neg c170 h
                      refine qv_run 2 (σ := (179, [some (.int a0), some (.int a1), some (.int a2)], [.int a2, .int a0], H)) rfl ?_
                      refine qv_div rfl c170 ?_
                      subst h
                      exact qv_reti rfl hR
theorem th_X3_join {st : xT} {d : Nat} (hd : 1 ≤ d) {a0 : Int32} {a1 : Int32} {a2 : Int32} {r : Int32} {H : qx_H} (h : fm_X3_join a0 a1 a2 = r) : xE st d 27 [.int a0, .int a1, .int a2] H (some (.int r)) H := by
  obtain ⟨d, rfl⟩ : ∃ d', d = d' + 1 := ⟨d - 1, by omega⟩
  exact xE_of (xe27 st) xl27 (Nat.le_of_ble_eq_true rfl) (ls := [some (.int a0), some (.int a1), some (.int a2)]) rfl (tb_X3_join_0 (by omega) ⟨rfl, rfl⟩ a0 a1 a2 h)
def fm_X3_worth_b141 (k6 : Nat → Int32 → Int32 → Int32 → Int32 → Int32 → qx_H → Option (Int32 × qx_H)) (l0 : Nat) (l1 : Int32) (l2 : Int32) (l3 : Int32) (l4 : Int32) (l5 : Int32) (H : qx_H) : Option (Int32 × qx_H) := k6 l0 l1 l2 l3 l4 (l5 + 1) H
def fm_X3_worth_b6 : Nat → Nat → Int32 → Int32 → Int32 → Int32 → Int32 → qx_H → Option (Int32 × qx_H)
  | 0, _, _, _, _, _, _, _ => none
  | n + 1, l0, l1, l2, l3, l4, l5, H => (hp_gI H l0 1 2).bind fun v9 => if v9 ≤ l5 then ((hp_gR H l0 1 1).bind fun v148 => (hp_ald H v148 0).bind fun v152 => some (v152, H)) else ((hp_gR H l0 1 0).bind fun v16 => (hp_ald H v16 l5).bind fun v21 => if v21 < (-3) then (if v21 = (-33) then (if l4 < 1 then (fm_X3_worth_b141 (fm_X3_worth_b6 n) l0 l1 l2 l3 l4 l5 H) else ((hp_gR H l0 1 1).bind fun v73 => (hp_gR H l0 1 1).bind fun v81 => (hp_ald H v81 (l4 - 1)).bind fun v88 => (hp_ast H v73 (l4 - 1) (if v88 = 0 then 1 else 0)).bind fun H97 => fm_X3_worth_b141 (fm_X3_worth_b6 n) l0 l1 l2 l3 l4 l5 H97)) else (if l4 < 2 then (fm_X3_worth_b141 (fm_X3_worth_b6 n) l0 l1 l2 l3 l4 l5 H) else ((hp_gR H l0 1 1).bind fun v111 => (hp_gR H l0 1 1).bind fun v119 => (hp_ald H v119 ((l4 + (-1)) - 1)).bind fun v126 => (hp_gR H l0 1 1).bind fun v131 => (hp_ald H v131 (l4 + (-1))).bind fun v136 => (hp_ast H v111 ((l4 + (-1)) - 1) (fm_X3_join v126 (-v21) v136)).bind fun H140 => fm_X3_worth_b141 (fm_X3_worth_b6 n) l0 l1 l2 l3 (l4 + (-1)) l5 H140))) else (if 60 ≤ l4 then (fm_X3_worth_b141 (fm_X3_worth_b6 n) l0 l1 l2 l3 l4 l5 H) else ((hp_gR H l0 1 1).bind fun v39 => (hp_ast H v39 l4 (fm_X3_valueOf v21 l1 l2 l3)).bind fun H52 => fm_X3_worth_b141 (fm_X3_worth_b6 n) l0 l1 l2 l3 (l4 + 1) l5 H52)))
def fm_X3_worth (a0 : Nat) (a1 : Int32) (a2 : Int32) (a3 : Int32) (H : qx_H) : Option (Int32 × qx_H) := fm_X3_worth_b6 5000 a0 a1 a2 a3 0 0 H
theorem tb_X3_worth_141 {st : xT} {d : Nat} {R : Option Value → qx_H → Prop} (hd : 1 ≤ d) {r : Int32} {H' : qx_H} (k6 : Nat → Int32 → Int32 → Int32 → Int32 → Int32 → qx_H → Option (Int32 × qx_H)) (hk6 : ∀ (l0 : Nat) (l1 : Int32) (l2 : Int32) (l3 : Int32) (l4 : Int32) (l5 : Int32) (z6 : Option Value) (hz6 : qx_ns z6 = true) (H : qx_H), k6 l0 l1 l2 l3 l4 l5 H = some (r, H') → qx_V (xE st d) R (xc25 st) (6, [some (.ref l0), some (.int l1), some (.int l2), some (.int l3), some (.int l4), some (.int l5), z6], [], H)) (hR : R (some (.int r)) H') (l0 : Nat) (l1 : Int32) (l2 : Int32) (l3 : Int32) (l4 : Int32) (l5 : Int32) (z6 : Option Value) (hz6 : qx_ns z6 = true) (H : qx_H) (h : fm_X3_worth_b141 k6 l0 l1 l2 l3 l4 l5 H = some (r, H')) : qx_V (xE st d) R (xc25 st) (141, [some (.ref l0), some (.int l1), some (.int l2), some (.int l3), some (.int l4), some (.int l5), z6], [], H) := by
  unfold fm_X3_worth_b141 at h
  refine qv_run 2 (σ := (6, [some (.ref l0), some (.int l1), some (.int l2), some (.int l3), some (.int l4), some (.int (l5 + 1)), z6], [], H)) rfl ?_
  exact hk6 l0 l1 l2 l3 l4 (l5 + 1) z6 hz6 H h
theorem tlb_X3_worth_141 {r : Int32} {H' : qx_H} (k6 : Nat → Int32 → Int32 → Int32 → Int32 → Int32 → qx_H → Option (Int32 × qx_H)) (hk6 : ∀ (l0 : Nat) (l1 : Int32) (l2 : Int32) (l3 : Int32) (l4 : Int32) (l5 : Int32) (H : qx_H), k6 l0 l1 l2 l3 l4 l5 H = some (r, H') → H'.length = H.length) (l0 : Nat) (l1 : Int32) (l2 : Int32) (l3 : Int32) (l4 : Int32) (l5 : Int32) (H : qx_H) (h : fm_X3_worth_b141 k6 l0 l1 l2 l3 l4 l5 H = some (r, H')) : H'.length = H.length := by
  unfold fm_X3_worth_b141 at h
  exact hk6 l0 l1 l2 l3 l4 (l5 + 1) H h
theorem tb_X3_worth_6 {st : xT} {d : Nat} {R : Option Value → qx_H → Prop} (hd : 1 ≤ d) {r : Int32} {H' : qx_H} (hR : R (some (.int r)) H') : ∀ (n : Nat) (l0 : Nat) (l1 : Int32) (l2 : Int32) (l3 : Int32) (l4 : Int32) (l5 : Int32) (z6 : Option Value) (hz6 : qx_ns z6 = true) (H : qx_H) (h : fm_X3_worth_b6 n l0 l1 l2 l3 l4 l5 H = some (r, H')), qx_V (xE st d) R (xc25 st) (6, [some (.ref l0), some (.int l1), some (.int l2), some (.int l3), some (.int l4), some (.int l5), z6], [], H) := by
  intro n
  induction n with
  | zero => intro l0 l1 l2 l3 l4 l5 z6 hz6 H h; exact nomatch (show (none : Option (Int32 × qx_H)) = some (r, H') from h)
  | succ n ih =>
    intro l0 l1 l2 l3 l4 l5 z6 hz6 H h
    unfold fm_X3_worth_b6 at h
    refine qv_run 2 (σ := (9, [some (.ref l0), some (.int l1), some (.int l2), some (.int l3), some (.int l4), some (.int l5), z6], [.ref l0, .int l5], H)) rfl ?_
    obtain ⟨v9, e9, h⟩ := qv_bind h
    refine qv_getI rfl e9 ?_
    refine qv_br (c := v9 ≤ l5) (a := (147, [some (.ref l0), some (.int l1), some (.int l2), some (.int l3), some (.int l4), some (.int l5), z6], [], H)) (b := (15, [some (.ref l0), some (.int l1), some (.int l2), some (.int l3), some (.int l4), some (.int l5), z6], [], H)) 1 rfl (fun c12 => ?_) (fun c12 => ?_)
    · replace h := qv_pos c12 h
      refine qv_run 1 (σ := (148, [some (.ref l0), some (.int l1), some (.int l2), some (.int l3), some (.int l4), some (.int l5), z6], [.ref l0], H)) rfl ?_
      obtain ⟨v148, e148, h⟩ := qv_bind h
      refine qv_getR rfl e148 ?_
      refine qv_run 1 (σ := (152, [some (.ref l0), some (.int l1), some (.int l2), some (.int l3), some (.int l4), some (.int l5), z6], [.int 0, .ref v148], H)) rfl ?_
      obtain ⟨v152, e152, h⟩ := qv_bind h
      refine qv_ald rfl e152 ?_
      obtain ⟨rfl, rfl⟩ := qv_pair h
      exact qv_reti rfl hR
    · replace h := qv_neg c12 h
      refine qv_run 1 (σ := (16, [some (.ref l0), some (.int l1), some (.int l2), some (.int l3), some (.int l4), some (.int l5), z6], [.ref l0], H)) rfl ?_
      obtain ⟨v16, e16, h⟩ := qv_bind h
      refine qv_getR rfl e16 ?_
      refine qv_run 1 (σ := (21, [some (.ref l0), some (.int l1), some (.int l2), some (.int l3), some (.int l4), some (.int l5), z6], [.int l5, .ref v16], H)) rfl ?_
      obtain ⟨v21, e21, h⟩ := qv_bind h
      refine qv_ald rfl e21 ?_
      refine qv_br (c := v21 < (-3)) (a := (59, [some (.ref l0), some (.int l1), some (.int l2), some (.int l3), some (.int l4), some (.int l5), some (.int v21)], [], H)) (b := (31, [some (.ref l0), some (.int l1), some (.int l2), some (.int l3), some (.int l4), some (.int l5), some (.int v21)], [], H)) 4 rfl (fun c28 => ?_) (fun c28 => ?_)
      · replace h := qv_pos c28 h
        refine qv_br (c := v21 = (-33)) (a := (66, [some (.ref l0), some (.int l1), some (.int l2), some (.int l3), some (.int l4), some (.int l5), some (.int v21)], [], H)) (b := (101, [some (.ref l0), some (.int l1), some (.int l2), some (.int l3), some (.int l4), some (.int l5), some (.int v21)], [], H)) 3 rfl (fun c63 => ?_) (fun c63 => ?_)
        · replace h := qv_pos c63 h
          refine qv_br (c := l4 < 1) (a := (141, [some (.ref l0), some (.int l1), some (.int l2), some (.int l3), some (.int l4), some (.int l5), some (.int v21)], [], H)) (b := (72, [some (.ref l0), some (.int l1), some (.int l2), some (.int l3), some (.int l4), some (.int l5), some (.int v21)], [], H)) 3 rfl (fun c69 => ?_) (fun c69 => ?_)
          · replace h := qv_pos c69 h
            exact tb_X3_worth_141 hd _ ih hR l0 l1 l2 l3 l4 l5 (some (.int v21)) rfl H h
          · replace h := qv_neg c69 h
            refine qv_run 1 (σ := (73, [some (.ref l0), some (.int l1), some (.int l2), some (.int l3), some (.int l4), some (.int l5), some (.int v21)], [.ref l0], H)) rfl ?_
            obtain ⟨v73, e73, h⟩ := qv_bind h
            refine qv_getR rfl e73 ?_
            refine qv_run 4 (σ := (81, [some (.ref l0), some (.int l1), some (.int l2), some (.int l3), some (.int l4), some (.int l5), some (.int v21)], [.ref l0, .int (l4 - 1), .ref v73], H)) rfl ?_
            obtain ⟨v81, e81, h⟩ := qv_bind h
            refine qv_getR rfl e81 ?_
            refine qv_run 3 (σ := (88, [some (.ref l0), some (.int l1), some (.int l2), some (.int l3), some (.int l4), some (.int l5), some (.int v21)], [.int (l4 - 1), .ref v81, .int (l4 - 1), .ref v73], H)) rfl ?_
            obtain ⟨v88, e88, h⟩ := qv_bind h
            refine qv_ald rfl e88 ?_
            refine qv_dia (c := v88 = 0) (a := (92, [some (.ref l0), some (.int l1), some (.int l2), some (.int l3), some (.int l4), some (.int l5), some (.int v21)], [.int (l4 - 1), .ref v73], H)) (b := (96, [some (.ref l0), some (.int l1), some (.int l2), some (.int l3), some (.int l4), some (.int l5), some (.int v21)], [.int (l4 - 1), .ref v73], H)) (σ' := (97, [some (.ref l0), some (.int l1), some (.int l2), some (.int l3), some (.int l4), some (.int l5), some (.int v21)], [.int (if v88 = 0 then 1 else 0), .int (l4 - 1), .ref v73], H)) 1 rfl ?_ (fun c89 kk => qv_run 2 (σ := (97, [some (.ref l0), some (.int l1), some (.int l2), some (.int l3), some (.int l4), some (.int l5), some (.int v21)], [.int 1, .int (l4 - 1), .ref v73], H)) rfl (qv_eq (by simp only [if_pos c89]) kk)) (fun c89 kk => qv_run 1 (σ := (97, [some (.ref l0), some (.int l1), some (.int l2), some (.int l3), some (.int l4), some (.int l5), some (.int v21)], [.int 0, .int (l4 - 1), .ref v73], H)) rfl (qv_eq (by simp only [if_neg c89]) kk))
            obtain ⟨H97, e97, h⟩ := qv_bind h
            refine qv_ast rfl e97 ?_
            refine qv_run 1 (σ := (141, [some (.ref l0), some (.int l1), some (.int l2), some (.int l3), some (.int l4), some (.int l5), some (.int v21)], [], H97)) rfl ?_
            exact tb_X3_worth_141 hd _ ih hR l0 l1 l2 l3 l4 l5 (some (.int v21)) rfl H97 h
        · replace h := qv_neg c63 h
          refine qv_br (c := l4 < 2) (a := (141, [some (.ref l0), some (.int l1), some (.int l2), some (.int l3), some (.int l4), some (.int l5), some (.int v21)], [], H)) (b := (107, [some (.ref l0), some (.int l1), some (.int l2), some (.int l3), some (.int l4), some (.int l5), some (.int v21)], [], H)) 3 rfl (fun c104 => ?_) (fun c104 => ?_)
          · replace h := qv_pos c104 h
            exact tb_X3_worth_141 hd _ ih hR l0 l1 l2 l3 l4 l5 (some (.int v21)) rfl H h
          · replace h := qv_neg c104 h
            refine qv_run 2 (σ := (111, [some (.ref l0), some (.int l1), some (.int l2), some (.int l3), some (.int (l4 + (-1))), some (.int l5), some (.int v21)], [.ref l0], H)) rfl ?_
            obtain ⟨v111, e111, h⟩ := qv_bind h
            refine qv_getR rfl e111 ?_
            refine qv_run 4 (σ := (119, [some (.ref l0), some (.int l1), some (.int l2), some (.int l3), some (.int (l4 + (-1))), some (.int l5), some (.int v21)], [.ref l0, .int ((l4 + (-1)) - 1), .ref v111], H)) rfl ?_
            obtain ⟨v119, e119, h⟩ := qv_bind h
            refine qv_getR rfl e119 ?_
            refine qv_run 3 (σ := (126, [some (.ref l0), some (.int l1), some (.int l2), some (.int l3), some (.int (l4 + (-1))), some (.int l5), some (.int v21)], [.int ((l4 + (-1)) - 1), .ref v119, .int ((l4 + (-1)) - 1), .ref v111], H)) rfl ?_
            obtain ⟨v126, e126, h⟩ := qv_bind h
            refine qv_ald rfl e126 ?_
            refine qv_run 3 (σ := (131, [some (.ref l0), some (.int l1), some (.int l2), some (.int l3), some (.int (l4 + (-1))), some (.int l5), some (.int v21)], [.ref l0, .int (-v21), .int v126, .int ((l4 + (-1)) - 1), .ref v111], H)) rfl ?_
            obtain ⟨v131, e131, h⟩ := qv_bind h
            refine qv_getR rfl e131 ?_
            refine qv_run 1 (σ := (136, [some (.ref l0), some (.int l1), some (.int l2), some (.int l3), some (.int (l4 + (-1))), some (.int l5), some (.int v21)], [.int (l4 + (-1)), .ref v131, .int (-v21), .int v126, .int ((l4 + (-1)) - 1), .ref v111], H)) rfl ?_
            obtain ⟨v136, e136, h⟩ := qv_bind h
            refine qv_ald rfl e136 ?_
            refine qv_call [.int v126, .int (-v21), .int v136] rfl rfl rfl (Nat.le_of_ble_eq_true rfl) (th_X3_join (by omega) rfl) rfl ?_
            obtain ⟨H140, e140, h⟩ := qv_bind h
            refine qv_ast rfl e140 ?_
            exact tb_X3_worth_141 hd _ ih hR l0 l1 l2 l3 (l4 + (-1)) l5 (some (.int v21)) rfl H140 h
      · replace h := qv_neg c28 h
        refine qv_br (c := 60 ≤ l4) (a := (141, [some (.ref l0), some (.int l1), some (.int l2), some (.int l3), some (.int l4), some (.int l5), some (.int v21)], [], H)) (b := (38, [some (.ref l0), some (.int l1), some (.int l2), some (.int l3), some (.int l4), some (.int l5), some (.int v21)], [], H)) 3 rfl (fun c35 => ?_) (fun c35 => ?_)
        · replace h := qv_pos c35 h
          exact tb_X3_worth_141 hd _ ih hR l0 l1 l2 l3 l4 l5 (some (.int v21)) rfl H h
        · replace h := qv_neg c35 h
          refine qv_run 1 (σ := (39, [some (.ref l0), some (.int l1), some (.int l2), some (.int l3), some (.int l4), some (.int l5), some (.int v21)], [.ref l0], H)) rfl ?_
          obtain ⟨v39, e39, h⟩ := qv_bind h
          refine qv_getR rfl e39 ?_
          refine qv_run 5 (σ := (49, [some (.ref l0), some (.int l1), some (.int l2), some (.int l3), some (.int l4), some (.int l5), some (.int v21)], [.int l3, .int l2, .int l1, .int v21, .int l4, .ref v39], H)) rfl ?_
          refine qv_call [.int v21, .int l1, .int l2, .int l3] rfl rfl rfl (Nat.le_of_ble_eq_true rfl) (th_X3_valueOf (by omega) rfl) rfl ?_
          obtain ⟨H52, e52, h⟩ := qv_bind h
          refine qv_ast rfl e52 ?_
          refine qv_run 2 (σ := (141, [some (.ref l0), some (.int l1), some (.int l2), some (.int l3), some (.int (l4 + 1)), some (.int l5), some (.int v21)], [], H52)) rfl ?_
          exact tb_X3_worth_141 hd _ ih hR l0 l1 l2 l3 (l4 + 1) l5 (some (.int v21)) rfl H52 h
theorem tlb_X3_worth_6 {r : Int32} {H' : qx_H} : ∀ (n : Nat) (l0 : Nat) (l1 : Int32) (l2 : Int32) (l3 : Int32) (l4 : Int32) (l5 : Int32) (H : qx_H) (h : fm_X3_worth_b6 n l0 l1 l2 l3 l4 l5 H = some (r, H')), H'.length = H.length := by
  intro n
  induction n with
  | zero => intro l0 l1 l2 l3 l4 l5 H h; exact nomatch (show (none : Option (Int32 × qx_H)) = some (r, H') from h)
  | succ n ih =>
    intro l0 l1 l2 l3 l4 l5 H h
    unfold fm_X3_worth_b6 at h
    obtain ⟨v9, e9, h⟩ := qv_bind h
    by_cases c12 : v9 ≤ l5
    · replace h := qv_pos c12 h
      obtain ⟨v148, e148, h⟩ := qv_bind h
      obtain ⟨v152, e152, h⟩ := qv_bind h
      obtain ⟨rfl, rfl⟩ := qv_pair h
      rfl
    · replace h := qv_neg c12 h
      obtain ⟨v16, e16, h⟩ := qv_bind h
      obtain ⟨v21, e21, h⟩ := qv_bind h
      by_cases c28 : v21 < (-3)
      · replace h := qv_pos c28 h
        by_cases c63 : v21 = (-33)
        · replace h := qv_pos c63 h
          by_cases c69 : l4 < 1
          · replace h := qv_pos c69 h
            exact tlb_X3_worth_141 _ ih l0 l1 l2 l3 l4 l5 H h
          · replace h := qv_neg c69 h
            obtain ⟨v73, e73, h⟩ := qv_bind h
            obtain ⟨v81, e81, h⟩ := qv_bind h
            obtain ⟨v88, e88, h⟩ := qv_bind h
            obtain ⟨H97, e97, h⟩ := qv_bind h
            have q_H97 := hp_ast_len e97
            have q_end := tlb_X3_worth_141 _ ih l0 l1 l2 l3 l4 l5 H97 h
            omega
        · replace h := qv_neg c63 h
          by_cases c104 : l4 < 2
          · replace h := qv_pos c104 h
            exact tlb_X3_worth_141 _ ih l0 l1 l2 l3 l4 l5 H h
          · replace h := qv_neg c104 h
            obtain ⟨v111, e111, h⟩ := qv_bind h
            obtain ⟨v119, e119, h⟩ := qv_bind h
            obtain ⟨v126, e126, h⟩ := qv_bind h
            obtain ⟨v131, e131, h⟩ := qv_bind h
            obtain ⟨v136, e136, h⟩ := qv_bind h
            obtain ⟨H140, e140, h⟩ := qv_bind h
            have q_H140 := hp_ast_len e140
            have q_end := tlb_X3_worth_141 _ ih l0 l1 l2 l3 (l4 + (-1)) l5 H140 h
            omega
      · replace h := qv_neg c28 h
        by_cases c35 : 60 ≤ l4
        · replace h := qv_pos c35 h
          exact tlb_X3_worth_141 _ ih l0 l1 l2 l3 l4 l5 H h
        · replace h := qv_neg c35 h
          obtain ⟨v39, e39, h⟩ := qv_bind h
          obtain ⟨H52, e52, h⟩ := qv_bind h
          have q_H52 := hp_ast_len e52
          have q_end := tlb_X3_worth_141 _ ih l0 l1 l2 l3 (l4 + 1) l5 H52 h
          omega
theorem tb_X3_worth_0 {st : xT} {d : Nat} {R : Option Value → qx_H → Prop} (hd : 1 ≤ d) {r : Int32} {H' : qx_H} (hR : R (some (.int r)) H') (a0 : Nat) (a1 : Int32) (a2 : Int32) (a3 : Int32) (H : qx_H) (h : fm_X3_worth a0 a1 a2 a3 H = some (r, H')) : qx_V (xE st d) R (xc25 st) (0, [some (.ref a0), some (.int a1), some (.int a2), some (.int a3), none, none, none], [], H) := by
  unfold fm_X3_worth at h
  refine qv_run 4 (σ := (6, [some (.ref a0), some (.int a1), some (.int a2), some (.int a3), some (.int 0), some (.int 0), none], [], H)) rfl ?_
  exact tb_X3_worth_6 hd hR 5000 a0 a1 a2 a3 0 0 none rfl H h
theorem tlb_X3_worth_0 {r : Int32} {H' : qx_H} (a0 : Nat) (a1 : Int32) (a2 : Int32) (a3 : Int32) (H : qx_H) (h : fm_X3_worth a0 a1 a2 a3 H = some (r, H')) : H'.length = H.length := by
  unfold fm_X3_worth at h
  exact tlb_X3_worth_6 5000 a0 a1 a2 a3 0 0 H h
theorem th_X3_worth {st : xT} {d : Nat} (hd : 2 ≤ d) {a0 : Nat} {a1 : Int32} {a2 : Int32} {a3 : Int32} {H : qx_H} {r : Int32} {H' : qx_H} (h : fm_X3_worth a0 a1 a2 a3 H = some (r, H')) : xE st d 25 [.ref a0, .int a1, .int a2, .int a3] H (some (.int r)) H' := by
  obtain ⟨d, rfl⟩ : ∃ d', d = d' + 1 := ⟨d - 1, by omega⟩
  exact xE_of (xe25 st) xl25 (Nat.le_of_ble_eq_true rfl) (ls := [some (.ref a0), some (.int a1), some (.int a2), some (.int a3), none, none, none]) rfl (tb_X3_worth_0 (by omega) ⟨rfl, rfl⟩ a0 a1 a2 a3 H h)
theorem tl_X3_worth {a0 : Nat} {a1 : Int32} {a2 : Int32} {a3 : Int32} {H : qx_H} {r : Int32} {H' : qx_H} (h : fm_X3_worth a0 a1 a2 a3 H = some (r, H')) : H'.length = H.length := tlb_X3_worth_0 a0 a1 a2 a3 H h
def fm_X4_init (a0 : Nat) (H : qx_H) : Option qx_H := if ¬ ((3 : Int32) < 0 ∨ 100000 < Int32.toNatClampNeg 3) ∧ qx_ok [some (.ref a0)] [.ref a0] H = true then ((hp_put (H ++ ([.inl (Int32.toNatClampNeg 3, .inl fun _ => 0)] : qx_H)) a0 2 0 (.ref H.length)).bind fun H8 => some H8) else none
theorem tb_X4_init_0 {st : xT} {d : Nat} {R : Option Value → qx_H → Prop} (hd : 0 ≤ d) {H' : qx_H} (hR : R (none) H') (a0 : Nat) (H : qx_H) (h : fm_X4_init a0 H = some H') : qx_V (xE st d) R (xc28 st) (0, [some (.ref a0)], [], H) := by
  unfold fm_X4_init at h
  refine qv_run 4 (σ := (6, [some (.ref a0)], [.int 3, .ref a0], H)) rfl ?_
  obtain ⟨e6, h⟩ := qv_guard h
  refine qv_newa rfl e6.1 e6.2 ?_
  obtain ⟨H8, e8, h⟩ := qv_bind h
  refine qv_putR rfl e8 ?_
  cases h
  exact qv_ret0 rfl hR
theorem th_X4_init {st : xT} {d : Nat} (hd : 1 ≤ d) {a0 : Nat} {H : qx_H} {H' : qx_H} (h : fm_X4_init a0 H = some H') : xE st d 28 [.ref a0] H (none) H' := by
  obtain ⟨d, rfl⟩ : ∃ d', d = d' + 1 := ⟨d - 1, by omega⟩
  exact xE_of (xe28 st) xl28 (Nat.le_of_ble_eq_true rfl) (ls := [some (.ref a0)]) rfl (tb_X4_init_0 (by omega) ⟨rfl, rfl⟩ a0 H h)
def fm_X4_isOneRunBy_b18 (l0 : Int32) (H : qx_H) : Option Int32 := (fm_X0_firstHole l0 H).bind fun v19 => if v19 = l0 then (some 1) else (some 0)
def fm_X4_isOneRunBy (a0 : Int32) (a1 : Int32) (H : qx_H) : Option Int32 := if a0 = 0 then (some 0) else (if (fm_J6_bitCount_0f7a4 a1) = 0 then (fm_X4_isOneRunBy_b18 a0 H) else (if (fm_J6_bitCount_0f7a4 a1) = 2 then (fm_X4_isOneRunBy_b18 a0 H) else (some 0)))
theorem tb_X4_isOneRunBy_18 {st : xT} {d : Nat} {R : Option Value → qx_H → Prop} (hd : 4 ≤ d) {r : Int32} {H : qx_H} (hR : R (some (.int r)) H) (l0 : Int32) (z1 : Option Value) (hz1 : qx_ns z1 = true) (z2 : Option Value) (hz2 : qx_ns z2 = true) (h : fm_X4_isOneRunBy_b18 l0 H = some r) : qx_V (xE st d) R (xc30 st) (18, [some (.int l0), z1, z2], [], H) := by
  unfold fm_X4_isOneRunBy_b18 at h
  refine qv_run 1 (σ := (19, [some (.int l0), z1, z2], [.int l0], H)) rfl ?_
  obtain ⟨v19, e19, h⟩ := qv_bind h
  refine qv_call [.int l0] rfl rfl rfl (Nat.le_of_ble_eq_true rfl) (th_X0_firstHole (by omega) e19) rfl ?_
  refine qv_br (c := v19 = l0) (a := (26, [some (.int l0), z1, z2], [], H)) (b := (30, [some (.int l0), z1, z2], [], H)) 2 rfl (fun c23 => ?_) (fun c23 => ?_)
  · replace h := qv_pos c23 h
    refine qv_run 2 (σ := (31, [some (.int l0), z1, z2], [.int 1], H)) rfl ?_
    cases h
    exact qv_retz rfl (Or.inr rfl) hR
  · replace h := qv_neg c23 h
    refine qv_run 1 (σ := (31, [some (.int l0), z1, z2], [.int 0], H)) rfl ?_
    cases h
    exact qv_retz rfl (Or.inl rfl) hR
theorem tzb_X4_isOneRunBy_18 {r : Int32} {H : qx_H} (l0 : Int32) (h : fm_X4_isOneRunBy_b18 l0 H = some r) : r = 0 ∨ r = 1 := by
  unfold fm_X4_isOneRunBy_b18 at h
  obtain ⟨v19, e19, h⟩ := qv_bind h
  by_cases c23 : v19 = l0
  · replace h := qv_pos c23 h
    cases h
    exact Or.inr rfl
  · replace h := qv_neg c23 h
    cases h
    exact Or.inl rfl
theorem tb_X4_isOneRunBy_0 {st : xT} {d : Nat} {R : Option Value → qx_H → Prop} (hd : 4 ≤ d) {r : Int32} {H : qx_H} (hR : R (some (.int r)) H) (a0 : Int32) (a1 : Int32) (h : fm_X4_isOneRunBy a0 a1 H = some r) : qx_V (xE st d) R (xc30 st) (0, [some (.int a0), some (.int a1), none], [], H) := by
  unfold fm_X4_isOneRunBy at h
  refine qv_run 1 (σ := (1, [some (.int a0), some (.int a1), none], [.int a1], H)) rfl ?_
  refine qv_call [.int a1] rfl rfl rfl (Nat.le_of_ble_eq_true rfl) (th_J6_bitCount_0f7a4 (by omega) rfl) rfl ?_
  refine qv_br (c := a0 = 0) (a := (30, [some (.int a0), some (.int a1), some (.int (fm_J6_bitCount_0f7a4 a1))], [], H)) (b := (9, [some (.int a0), some (.int a1), some (.int (fm_J6_bitCount_0f7a4 a1))], [], H)) 3 rfl (fun c6 => ?_) (fun c6 => ?_)
  · replace h := qv_pos c6 h
    refine qv_run 1 (σ := (31, [some (.int a0), some (.int a1), some (.int (fm_J6_bitCount_0f7a4 a1))], [.int 0], H)) rfl ?_
    cases h
    exact qv_retz rfl (Or.inl rfl) hR
  · replace h := qv_neg c6 h
    refine qv_br (c := (fm_J6_bitCount_0f7a4 a1) = 0) (a := (18, [some (.int a0), some (.int a1), some (.int (fm_J6_bitCount_0f7a4 a1))], [], H)) (b := (13, [some (.int a0), some (.int a1), some (.int (fm_J6_bitCount_0f7a4 a1))], [], H)) 2 rfl (fun c10 => ?_) (fun c10 => ?_)
    · replace h := qv_pos c10 h
      exact tb_X4_isOneRunBy_18 hd hR a0 (some (.int a1)) rfl (some (.int (fm_J6_bitCount_0f7a4 a1))) rfl h
    · replace h := qv_neg c10 h
      refine qv_br (c := (fm_J6_bitCount_0f7a4 a1) = 2) (a := (18, [some (.int a0), some (.int a1), some (.int (fm_J6_bitCount_0f7a4 a1))], [], H)) (b := (30, [some (.int a0), some (.int a1), some (.int (fm_J6_bitCount_0f7a4 a1))], [], H)) 3 rfl (fun c15 => ?_) (fun c15 => ?_)
      · replace h := qv_pos c15 h
        exact tb_X4_isOneRunBy_18 hd hR a0 (some (.int a1)) rfl (some (.int (fm_J6_bitCount_0f7a4 a1))) rfl h
      · replace h := qv_neg c15 h
        refine qv_run 1 (σ := (31, [some (.int a0), some (.int a1), some (.int (fm_J6_bitCount_0f7a4 a1))], [.int 0], H)) rfl ?_
        cases h
        exact qv_retz rfl (Or.inl rfl) hR
theorem tzb_X4_isOneRunBy_0 {r : Int32} {H : qx_H} (a0 : Int32) (a1 : Int32) (h : fm_X4_isOneRunBy a0 a1 H = some r) : r = 0 ∨ r = 1 := by
  unfold fm_X4_isOneRunBy at h
  by_cases c6 : a0 = 0
  · replace h := qv_pos c6 h
    cases h
    exact Or.inl rfl
  · replace h := qv_neg c6 h
    by_cases c10 : (fm_J6_bitCount_0f7a4 a1) = 0
    · replace h := qv_pos c10 h
      exact tzb_X4_isOneRunBy_18 a0 h
    · replace h := qv_neg c10 h
      by_cases c15 : (fm_J6_bitCount_0f7a4 a1) = 2
      · replace h := qv_pos c15 h
        exact tzb_X4_isOneRunBy_18 a0 h
      · replace h := qv_neg c15 h
        cases h
        exact Or.inl rfl
theorem th_X4_isOneRunBy {st : xT} {d : Nat} (hd : 5 ≤ d) {a0 : Int32} {a1 : Int32} {r : Int32} {H : qx_H} (h : fm_X4_isOneRunBy a0 a1 H = some r) : xE st d 30 [.int a0, .int a1] H (some (.int r)) H := by
  obtain ⟨d, rfl⟩ : ∃ d', d = d' + 1 := ⟨d - 1, by omega⟩
  exact xE_of (xe30 st) xl30 (Nat.le_of_ble_eq_true rfl) (ls := [some (.int a0), some (.int a1), none]) rfl (tb_X4_isOneRunBy_0 (by omega) ⟨rfl, rfl⟩ a0 a1 h)
theorem tz_X4_isOneRunBy {a0 : Int32} {a1 : Int32} {r : Int32} {H : qx_H} (h : fm_X4_isOneRunBy a0 a1 H = some r) : r = 0 ∨ r = 1 := tzb_X4_isOneRunBy_0 a0 a1 h
def fm_X4_isOneRun (a0 : Int32) (H : qx_H) : Option Int32 := (fm_X0_oddKnots a0 H).bind fun v2 => (fm_X4_isOneRunBy a0 v2 H).bind fun v5 => some v5
theorem tb_X4_isOneRun_0 {st : xT} {d : Nat} {R : Option Value → qx_H → Prop} (hd : 5 ≤ d) {r : Int32} {H : qx_H} (hR : R (some (.int r)) H) (a0 : Int32) (h : fm_X4_isOneRun a0 H = some r) : qx_V (xE st d) R (xc29 st) (0, [some (.int a0)], [], H) := by
  unfold fm_X4_isOneRun at h
  refine qv_run 2 (σ := (2, [some (.int a0)], [.int a0, .int a0], H)) rfl ?_
  obtain ⟨v2, e2, h⟩ := qv_bind h
  refine qv_call [.int a0] rfl rfl rfl (Nat.le_of_ble_eq_true rfl) (th_X0_oddKnots (by omega) e2) rfl ?_
  obtain ⟨v5, e5, h⟩ := qv_bind h
  refine qv_call [.int a0, .int v2] rfl rfl rfl (Nat.le_of_ble_eq_true rfl) (th_X4_isOneRunBy (by omega) e5) rfl ?_
  cases h
  exact qv_retz rfl (tz_X4_isOneRunBy e5) hR
theorem tzb_X4_isOneRun_0 {r : Int32} {H : qx_H} (a0 : Int32) (h : fm_X4_isOneRun a0 H = some r) : r = 0 ∨ r = 1 := by
  unfold fm_X4_isOneRun at h
  obtain ⟨v2, e2, h⟩ := qv_bind h
  obtain ⟨v5, e5, h⟩ := qv_bind h
  cases h
  exact (tz_X4_isOneRunBy e5)
theorem th_X4_isOneRun {st : xT} {d : Nat} (hd : 6 ≤ d) {a0 : Int32} {r : Int32} {H : qx_H} (h : fm_X4_isOneRun a0 H = some r) : xE st d 29 [.int a0] H (some (.int r)) H := by
  obtain ⟨d, rfl⟩ : ∃ d', d = d' + 1 := ⟨d - 1, by omega⟩
  exact xE_of (xe29 st) xl29 (Nat.le_of_ble_eq_true rfl) (ls := [some (.int a0)]) rfl (tb_X4_isOneRun_0 (by omega) ⟨rfl, rfl⟩ a0 h)
theorem tz_X4_isOneRun {a0 : Int32} {r : Int32} {H : qx_H} (h : fm_X4_isOneRun a0 H = some r) : r = 0 ∨ r = 1 := tzb_X4_isOneRun_0 a0 h
def fm_X4_choose_b11 (rc : Nat → Int32 → Int32 → Int32 → Int32 → Int32 → qx_H → Option (Int32 × qx_H)) (l4 : Int32) (l5 : Int32) (H : qx_H) : Option (Int32 × qx_H) := (fm_X4_isOneRunBy l4 l5 H).bind fun v15 => some (v15, H)
def fm_X4_choose_b76 (rc : Nat → Int32 → Int32 → Int32 → Int32 → Int32 → qx_H → Option (Int32 × qx_H)) (k22 : Nat → Int32 → Int32 → Int32 → Int32 → Int32 → qx_H → Option (Int32 × qx_H)) (l0 : Nat) (l1 : Int32) (l2 : Int32) (l4 : Int32) (l5 : Int32) (l6 : Int32) (H : qx_H) : Option (Int32 × qx_H) := k22 l0 l1 l2 l4 l5 (l6 + 1) H
def fm_X4_choose_b22 (rc : Nat → Int32 → Int32 → Int32 → Int32 → Int32 → qx_H → Option (Int32 × qx_H)) : Nat → Nat → Int32 → Int32 → Int32 → Int32 → Int32 → qx_H → Option (Int32 × qx_H)
  | 0, _, _, _, _, _, _, _ => none
  | n + 1, l0, l1, l2, l4, l5, l6, H => if 31 ≤ l6 then (some (0, H)) else (if ((ji_ushr l4 l6) &&& 1) = 0 then (ob2 (rc l0 (l1 + 1) l2 (l6 + 1) (l4 ||| (ji_shl 1 l6)) (l5 ^^^ (fm_X0_endsOf l6)) H) fun v63 H63 => if v63 = 0 then (fm_X4_choose_b76 rc (fm_X4_choose_b22 rc n) l0 l1 l2 l4 l5 l6 H63) else ((hp_ast H63 l0 l1 l6).bind fun H73 => some (1, H73))) else (fm_X4_choose_b76 rc (fm_X4_choose_b22 rc n) l0 l1 l2 l4 l5 l6 H))
def fm_X4_choose_e (rc : Nat → Int32 → Int32 → Int32 → Int32 → Int32 → qx_H → Option (Int32 × qx_H)) (a0 : Nat) (a1 : Int32) (a2 : Int32) (a3 : Int32) (a4 : Int32) (a5 : Int32) (H : qx_H) : Option (Int32 × qx_H) := if a2 ≤ a1 then (fm_X4_choose_b11 rc a4 a5 H) else ((hp_len H a0).bind fun v7 => if a1 < v7 then (fm_X4_choose_b22 rc 5000 a0 a1 a2 a4 a5 a3 H) else (fm_X4_choose_b11 rc a4 a5 H))
def fm_X4_choose : Nat → Nat → Int32 → Int32 → Int32 → Int32 → Int32 → qx_H → Option (Int32 × qx_H)
  | 0, _, _, _, _, _, _, _ => none
  | n + 1, a0, a1, a2, a3, a4, a5, H => fm_X4_choose_e (fm_X4_choose n) a0 a1 a2 a3 a4 a5 H
theorem tb_X4_choose_11 {st : xT} {e : Nat} {d : Nat} {R : Option Value → qx_H → Prop} (rc : Nat → Int32 → Int32 → Int32 → Int32 → Int32 → qx_H → Option (Int32 × qx_H)) (hB : 5 ≤ e) (hrc : ∀ {b0 : Nat} {b1 : Int32} {b2 : Int32} {b3 : Int32} {b4 : Int32} {b5 : Int32} {H1 H2 : qx_H} {r1 : Int32}, rc b0 b1 b2 b3 b4 b5 H1 = some (r1, H2) → xE st e 32 [.ref b0, .int b1, .int b2, .int b3, .int b4, .int b5] H1 (some (.int r1)) H2) (hrl : ∀ {b0 : Nat} {b1 : Int32} {b2 : Int32} {b3 : Int32} {b4 : Int32} {b5 : Int32} {H1 H2 : qx_H} {r1 : Int32}, rc b0 b1 b2 b3 b4 b5 H1 = some (r1, H2) → H2.length = H1.length) (hrz : ∀ {b0 : Nat} {b1 : Int32} {b2 : Int32} {b3 : Int32} {b4 : Int32} {b5 : Int32} {H1 H2 : qx_H} {r1 : Int32}, rc b0 b1 b2 b3 b4 b5 H1 = some (r1, H2) → r1 = 0 ∨ r1 = 1) (hd : e + 0 ≤ d) {r : Int32} {H' : qx_H} (hR : R (some (.int r)) H') (l4 : Int32) (l5 : Int32) (z0 : Option Value) (hz0 : qx_ns z0 = true) (z1 : Option Value) (hz1 : qx_ns z1 = true) (z2 : Option Value) (hz2 : qx_ns z2 = true) (z3 : Option Value) (hz3 : qx_ns z3 = true) (H : qx_H) (h : fm_X4_choose_b11 rc l4 l5 H = some (r, H')) : qx_V (xE st d) R (xc32 st) (11, [z0, z1, z2, z3, some (.int l4), some (.int l5), none], [], H) := by
  unfold fm_X4_choose_b11 at h
  refine qv_run 2 (σ := (15, [z0, z1, z2, z3, some (.int l4), some (.int l5), none], [.int l5, .int l4], H)) rfl ?_
  obtain ⟨v15, e15, h⟩ := qv_bind h
  refine qv_call [.int l4, .int l5] rfl rfl rfl (Nat.le_of_ble_eq_true rfl) (th_X4_isOneRunBy (by omega) e15) rfl ?_
  obtain ⟨rfl, rfl⟩ := qv_pair h
  exact qv_retz rfl (tz_X4_isOneRunBy e15) hR
theorem tlb_X4_choose_11 (rc : Nat → Int32 → Int32 → Int32 → Int32 → Int32 → qx_H → Option (Int32 × qx_H)) (hrl : ∀ {b0 : Nat} {b1 : Int32} {b2 : Int32} {b3 : Int32} {b4 : Int32} {b5 : Int32} {H1 H2 : qx_H} {r1 : Int32}, rc b0 b1 b2 b3 b4 b5 H1 = some (r1, H2) → H2.length = H1.length) {r : Int32} {H' : qx_H} (l4 : Int32) (l5 : Int32) (H : qx_H) (h : fm_X4_choose_b11 rc l4 l5 H = some (r, H')) : H'.length = H.length := by
  unfold fm_X4_choose_b11 at h
  obtain ⟨v15, e15, h⟩ := qv_bind h
  obtain ⟨rfl, rfl⟩ := qv_pair h
  rfl
theorem tzb_X4_choose_11 (rc : Nat → Int32 → Int32 → Int32 → Int32 → Int32 → qx_H → Option (Int32 × qx_H)) (hrz : ∀ {b0 : Nat} {b1 : Int32} {b2 : Int32} {b3 : Int32} {b4 : Int32} {b5 : Int32} {H1 H2 : qx_H} {r1 : Int32}, rc b0 b1 b2 b3 b4 b5 H1 = some (r1, H2) → r1 = 0 ∨ r1 = 1) {r : Int32} {H' : qx_H} (l4 : Int32) (l5 : Int32) (H : qx_H) (h : fm_X4_choose_b11 rc l4 l5 H = some (r, H')) : r = 0 ∨ r = 1 := by
  unfold fm_X4_choose_b11 at h
  obtain ⟨v15, e15, h⟩ := qv_bind h
  obtain ⟨rfl, rfl⟩ := qv_pair h
  exact (tz_X4_isOneRunBy e15)
theorem tb_X4_choose_76 {st : xT} {e : Nat} {d : Nat} {R : Option Value → qx_H → Prop} (rc : Nat → Int32 → Int32 → Int32 → Int32 → Int32 → qx_H → Option (Int32 × qx_H)) (hB : 5 ≤ e) (hrc : ∀ {b0 : Nat} {b1 : Int32} {b2 : Int32} {b3 : Int32} {b4 : Int32} {b5 : Int32} {H1 H2 : qx_H} {r1 : Int32}, rc b0 b1 b2 b3 b4 b5 H1 = some (r1, H2) → xE st e 32 [.ref b0, .int b1, .int b2, .int b3, .int b4, .int b5] H1 (some (.int r1)) H2) (hrl : ∀ {b0 : Nat} {b1 : Int32} {b2 : Int32} {b3 : Int32} {b4 : Int32} {b5 : Int32} {H1 H2 : qx_H} {r1 : Int32}, rc b0 b1 b2 b3 b4 b5 H1 = some (r1, H2) → H2.length = H1.length) (hrz : ∀ {b0 : Nat} {b1 : Int32} {b2 : Int32} {b3 : Int32} {b4 : Int32} {b5 : Int32} {H1 H2 : qx_H} {r1 : Int32}, rc b0 b1 b2 b3 b4 b5 H1 = some (r1, H2) → r1 = 0 ∨ r1 = 1) (hd : e + 0 ≤ d) {r : Int32} {H' : qx_H} (k22 : Nat → Int32 → Int32 → Int32 → Int32 → Int32 → qx_H → Option (Int32 × qx_H)) (hk22 : ∀ (l0 : Nat) (l1 : Int32) (l2 : Int32) (l4 : Int32) (l5 : Int32) (l6 : Int32) (z3 : Option Value) (hz3 : qx_ns z3 = true) (H : qx_H), k22 l0 l1 l2 l4 l5 l6 H = some (r, H') → qx_V (xE st d) R (xc32 st) (22, [some (.ref l0), some (.int l1), some (.int l2), z3, some (.int l4), some (.int l5), some (.int l6)], [], H)) (hR : R (some (.int r)) H') (l0 : Nat) (l1 : Int32) (l2 : Int32) (l4 : Int32) (l5 : Int32) (l6 : Int32) (z3 : Option Value) (hz3 : qx_ns z3 = true) (H : qx_H) (h : fm_X4_choose_b76 rc k22 l0 l1 l2 l4 l5 l6 H = some (r, H')) : qx_V (xE st d) R (xc32 st) (76, [some (.ref l0), some (.int l1), some (.int l2), z3, some (.int l4), some (.int l5), some (.int l6)], [], H) := by
  unfold fm_X4_choose_b76 at h
  refine qv_run 2 (σ := (22, [some (.ref l0), some (.int l1), some (.int l2), z3, some (.int l4), some (.int l5), some (.int (l6 + 1))], [], H)) rfl ?_
  exact hk22 l0 l1 l2 l4 l5 (l6 + 1) z3 hz3 H h
theorem tlb_X4_choose_76 (rc : Nat → Int32 → Int32 → Int32 → Int32 → Int32 → qx_H → Option (Int32 × qx_H)) (hrl : ∀ {b0 : Nat} {b1 : Int32} {b2 : Int32} {b3 : Int32} {b4 : Int32} {b5 : Int32} {H1 H2 : qx_H} {r1 : Int32}, rc b0 b1 b2 b3 b4 b5 H1 = some (r1, H2) → H2.length = H1.length) {r : Int32} {H' : qx_H} (k22 : Nat → Int32 → Int32 → Int32 → Int32 → Int32 → qx_H → Option (Int32 × qx_H)) (hk22 : ∀ (l0 : Nat) (l1 : Int32) (l2 : Int32) (l4 : Int32) (l5 : Int32) (l6 : Int32) (H : qx_H), k22 l0 l1 l2 l4 l5 l6 H = some (r, H') → H'.length = H.length) (l0 : Nat) (l1 : Int32) (l2 : Int32) (l4 : Int32) (l5 : Int32) (l6 : Int32) (H : qx_H) (h : fm_X4_choose_b76 rc k22 l0 l1 l2 l4 l5 l6 H = some (r, H')) : H'.length = H.length := by
  unfold fm_X4_choose_b76 at h
  exact hk22 l0 l1 l2 l4 l5 (l6 + 1) H h
theorem tzb_X4_choose_76 (rc : Nat → Int32 → Int32 → Int32 → Int32 → Int32 → qx_H → Option (Int32 × qx_H)) (hrz : ∀ {b0 : Nat} {b1 : Int32} {b2 : Int32} {b3 : Int32} {b4 : Int32} {b5 : Int32} {H1 H2 : qx_H} {r1 : Int32}, rc b0 b1 b2 b3 b4 b5 H1 = some (r1, H2) → r1 = 0 ∨ r1 = 1) {r : Int32} {H' : qx_H} (k22 : Nat → Int32 → Int32 → Int32 → Int32 → Int32 → qx_H → Option (Int32 × qx_H)) (hk22 : ∀ (l0 : Nat) (l1 : Int32) (l2 : Int32) (l4 : Int32) (l5 : Int32) (l6 : Int32) (H : qx_H), k22 l0 l1 l2 l4 l5 l6 H = some (r, H') → r = 0 ∨ r = 1) (l0 : Nat) (l1 : Int32) (l2 : Int32) (l4 : Int32) (l5 : Int32) (l6 : Int32) (H : qx_H) (h : fm_X4_choose_b76 rc k22 l0 l1 l2 l4 l5 l6 H = some (r, H')) : r = 0 ∨ r = 1 := by
  unfold fm_X4_choose_b76 at h
  exact hk22 l0 l1 l2 l4 l5 (l6 + 1) H h
theorem tb_X4_choose_22 {st : xT} {e : Nat} {d : Nat} {R : Option Value → qx_H → Prop} (rc : Nat → Int32 → Int32 → Int32 → Int32 → Int32 → qx_H → Option (Int32 × qx_H)) (hB : 5 ≤ e) (hrc : ∀ {b0 : Nat} {b1 : Int32} {b2 : Int32} {b3 : Int32} {b4 : Int32} {b5 : Int32} {H1 H2 : qx_H} {r1 : Int32}, rc b0 b1 b2 b3 b4 b5 H1 = some (r1, H2) → xE st e 32 [.ref b0, .int b1, .int b2, .int b3, .int b4, .int b5] H1 (some (.int r1)) H2) (hrl : ∀ {b0 : Nat} {b1 : Int32} {b2 : Int32} {b3 : Int32} {b4 : Int32} {b5 : Int32} {H1 H2 : qx_H} {r1 : Int32}, rc b0 b1 b2 b3 b4 b5 H1 = some (r1, H2) → H2.length = H1.length) (hrz : ∀ {b0 : Nat} {b1 : Int32} {b2 : Int32} {b3 : Int32} {b4 : Int32} {b5 : Int32} {H1 H2 : qx_H} {r1 : Int32}, rc b0 b1 b2 b3 b4 b5 H1 = some (r1, H2) → r1 = 0 ∨ r1 = 1) (hd : e + 0 ≤ d) {r : Int32} {H' : qx_H} (hR : R (some (.int r)) H') : ∀ (n : Nat) (l0 : Nat) (l1 : Int32) (l2 : Int32) (l4 : Int32) (l5 : Int32) (l6 : Int32) (z3 : Option Value) (hz3 : qx_ns z3 = true) (H : qx_H) (h : fm_X4_choose_b22 rc n l0 l1 l2 l4 l5 l6 H = some (r, H')), qx_V (xE st d) R (xc32 st) (22, [some (.ref l0), some (.int l1), some (.int l2), z3, some (.int l4), some (.int l5), some (.int l6)], [], H) := by
  intro n
  induction n with
  | zero => intro l0 l1 l2 l4 l5 l6 z3 hz3 H h; exact nomatch (show (none : Option (Int32 × qx_H)) = some (r, H') from h)
  | succ n ih =>
    intro l0 l1 l2 l4 l5 l6 z3 hz3 H h
    unfold fm_X4_choose_b22 at h
    refine qv_br (c := 31 ≤ l6) (a := (82, [some (.ref l0), some (.int l1), some (.int l2), z3, some (.int l4), some (.int l5), some (.int l6)], [], H)) (b := (29, [some (.ref l0), some (.int l1), some (.int l2), z3, some (.int l4), some (.int l5), some (.int l6)], [], H)) 3 rfl (fun c26 => ?_) (fun c26 => ?_)
    · replace h := qv_pos c26 h
      refine qv_run 1 (σ := (83, [some (.ref l0), some (.int l1), some (.int l2), z3, some (.int l4), some (.int l5), some (.int l6)], [.int 0], H)) rfl ?_
      obtain ⟨rfl, rfl⟩ := qv_pair h
      exact qv_retz rfl (Or.inl rfl) hR
    · replace h := qv_neg c26 h
      refine qv_br (c := ((ji_ushr l4 l6) &&& 1) = 0) (a := (39, [some (.ref l0), some (.int l1), some (.int l2), z3, some (.int l4), some (.int l5), some (.int l6)], [], H)) (b := (76, [some (.ref l0), some (.int l1), some (.int l2), z3, some (.int l4), some (.int l5), some (.int l6)], [], H)) 6 rfl (fun c36 => ?_) (fun c36 => ?_)
      · replace h := qv_pos c36 h
        refine qv_run 15 (σ := (59, [some (.ref l0), some (.int l1), some (.int l2), z3, some (.int l4), some (.int l5), some (.int l6)], [.int l6, .int l5, .int (l4 ||| (ji_shl 1 l6)), .int (l6 + 1), .int l2, .int (l1 + 1), .ref l0], H)) rfl ?_
        refine qv_call [.int l6] rfl rfl rfl (Nat.le_of_ble_eq_true rfl) (th_X0_endsOf (by omega) rfl) rfl ?_
        refine qv_run 1 (σ := (63, [some (.ref l0), some (.int l1), some (.int l2), z3, some (.int l4), some (.int l5), some (.int l6)], [.int (l5 ^^^ (fm_X0_endsOf l6)), .int (l4 ||| (ji_shl 1 l6)), .int (l6 + 1), .int l2, .int (l1 + 1), .ref l0], H)) rfl ?_
        obtain ⟨v63, H63, e63, h⟩ := qv_bind2 h
        refine qv_call [.ref l0, .int (l1 + 1), .int l2, .int (l6 + 1), .int (l4 ||| (ji_shl 1 l6)), .int (l5 ^^^ (fm_X0_endsOf l6))] rfl rfl rfl (Nat.le_of_ble_eq_true rfl) (xE_le (by omega) (hrc e63)) (hrl e63) ?_
        refine qv_br (c := v63 = 0) (a := (76, [some (.ref l0), some (.int l1), some (.int l2), z3, some (.int l4), some (.int l5), some (.int l6)], [], H63)) (b := (69, [some (.ref l0), some (.int l1), some (.int l2), z3, some (.int l4), some (.int l5), some (.int l6)], [], H63)) 1 rfl (fun c66 => ?_) (fun c66 => ?_)
        · replace h := qv_pos c66 h
          exact tb_X4_choose_76 rc hB hrc hrl hrz hd _ ih hR l0 l1 l2 l4 l5 l6 z3 hz3 H63 h
        · replace h := qv_neg c66 h
          refine qv_run 3 (σ := (73, [some (.ref l0), some (.int l1), some (.int l2), z3, some (.int l4), some (.int l5), some (.int l6)], [.int l6, .int l1, .ref l0], H63)) rfl ?_
          obtain ⟨H73, e73, h⟩ := qv_bind h
          refine qv_ast rfl e73 ?_
          refine qv_run 1 (σ := (75, [some (.ref l0), some (.int l1), some (.int l2), z3, some (.int l4), some (.int l5), some (.int l6)], [.int 1], H73)) rfl ?_
          obtain ⟨rfl, rfl⟩ := qv_pair h
          exact qv_retz rfl (Or.inr rfl) hR
      · replace h := qv_neg c36 h
        exact tb_X4_choose_76 rc hB hrc hrl hrz hd _ ih hR l0 l1 l2 l4 l5 l6 z3 hz3 H h
theorem tlb_X4_choose_22 (rc : Nat → Int32 → Int32 → Int32 → Int32 → Int32 → qx_H → Option (Int32 × qx_H)) (hrl : ∀ {b0 : Nat} {b1 : Int32} {b2 : Int32} {b3 : Int32} {b4 : Int32} {b5 : Int32} {H1 H2 : qx_H} {r1 : Int32}, rc b0 b1 b2 b3 b4 b5 H1 = some (r1, H2) → H2.length = H1.length) {r : Int32} {H' : qx_H} : ∀ (n : Nat) (l0 : Nat) (l1 : Int32) (l2 : Int32) (l4 : Int32) (l5 : Int32) (l6 : Int32) (H : qx_H) (h : fm_X4_choose_b22 rc n l0 l1 l2 l4 l5 l6 H = some (r, H')), H'.length = H.length := by
  intro n
  induction n with
  | zero => intro l0 l1 l2 l4 l5 l6 H h; exact nomatch (show (none : Option (Int32 × qx_H)) = some (r, H') from h)
  | succ n ih =>
    intro l0 l1 l2 l4 l5 l6 H h
    unfold fm_X4_choose_b22 at h
    by_cases c26 : 31 ≤ l6
    · replace h := qv_pos c26 h
      obtain ⟨rfl, rfl⟩ := qv_pair h
      rfl
    · replace h := qv_neg c26 h
      by_cases c36 : ((ji_ushr l4 l6) &&& 1) = 0
      · replace h := qv_pos c36 h
        obtain ⟨v63, H63, e63, h⟩ := qv_bind2 h
        have q_H63 := hrl e63
        by_cases c66 : v63 = 0
        · replace h := qv_pos c66 h
          have q_end := tlb_X4_choose_76 rc hrl _ ih l0 l1 l2 l4 l5 l6 H63 h
          omega
        · replace h := qv_neg c66 h
          obtain ⟨H73, e73, h⟩ := qv_bind h
          have q_H73 := hp_ast_len e73
          obtain ⟨rfl, rfl⟩ := qv_pair h
          omega
      · replace h := qv_neg c36 h
        exact tlb_X4_choose_76 rc hrl _ ih l0 l1 l2 l4 l5 l6 H h
theorem tzb_X4_choose_22 (rc : Nat → Int32 → Int32 → Int32 → Int32 → Int32 → qx_H → Option (Int32 × qx_H)) (hrz : ∀ {b0 : Nat} {b1 : Int32} {b2 : Int32} {b3 : Int32} {b4 : Int32} {b5 : Int32} {H1 H2 : qx_H} {r1 : Int32}, rc b0 b1 b2 b3 b4 b5 H1 = some (r1, H2) → r1 = 0 ∨ r1 = 1) {r : Int32} {H' : qx_H} : ∀ (n : Nat) (l0 : Nat) (l1 : Int32) (l2 : Int32) (l4 : Int32) (l5 : Int32) (l6 : Int32) (H : qx_H) (h : fm_X4_choose_b22 rc n l0 l1 l2 l4 l5 l6 H = some (r, H')), r = 0 ∨ r = 1 := by
  intro n
  induction n with
  | zero => intro l0 l1 l2 l4 l5 l6 H h; exact nomatch (show (none : Option (Int32 × qx_H)) = some (r, H') from h)
  | succ n ih =>
    intro l0 l1 l2 l4 l5 l6 H h
    unfold fm_X4_choose_b22 at h
    by_cases c26 : 31 ≤ l6
    · replace h := qv_pos c26 h
      obtain ⟨rfl, rfl⟩ := qv_pair h
      exact Or.inl rfl
    · replace h := qv_neg c26 h
      by_cases c36 : ((ji_ushr l4 l6) &&& 1) = 0
      · replace h := qv_pos c36 h
        obtain ⟨v63, H63, e63, h⟩ := qv_bind2 h
        by_cases c66 : v63 = 0
        · replace h := qv_pos c66 h
          exact tzb_X4_choose_76 rc hrz _ ih l0 l1 l2 l4 l5 l6 H63 h
        · replace h := qv_neg c66 h
          obtain ⟨H73, e73, h⟩ := qv_bind h
          obtain ⟨rfl, rfl⟩ := qv_pair h
          exact Or.inr rfl
      · replace h := qv_neg c36 h
        exact tzb_X4_choose_76 rc hrz _ ih l0 l1 l2 l4 l5 l6 H h
theorem tb_X4_choose_0 {st : xT} {e : Nat} {d : Nat} {R : Option Value → qx_H → Prop} (rc : Nat → Int32 → Int32 → Int32 → Int32 → Int32 → qx_H → Option (Int32 × qx_H)) (hB : 5 ≤ e) (hrc : ∀ {b0 : Nat} {b1 : Int32} {b2 : Int32} {b3 : Int32} {b4 : Int32} {b5 : Int32} {H1 H2 : qx_H} {r1 : Int32}, rc b0 b1 b2 b3 b4 b5 H1 = some (r1, H2) → xE st e 32 [.ref b0, .int b1, .int b2, .int b3, .int b4, .int b5] H1 (some (.int r1)) H2) (hrl : ∀ {b0 : Nat} {b1 : Int32} {b2 : Int32} {b3 : Int32} {b4 : Int32} {b5 : Int32} {H1 H2 : qx_H} {r1 : Int32}, rc b0 b1 b2 b3 b4 b5 H1 = some (r1, H2) → H2.length = H1.length) (hrz : ∀ {b0 : Nat} {b1 : Int32} {b2 : Int32} {b3 : Int32} {b4 : Int32} {b5 : Int32} {H1 H2 : qx_H} {r1 : Int32}, rc b0 b1 b2 b3 b4 b5 H1 = some (r1, H2) → r1 = 0 ∨ r1 = 1) (hd : e + 0 ≤ d) {r : Int32} {H' : qx_H} (hR : R (some (.int r)) H') (a0 : Nat) (a1 : Int32) (a2 : Int32) (a3 : Int32) (a4 : Int32) (a5 : Int32) (H : qx_H) (h : fm_X4_choose_e rc a0 a1 a2 a3 a4 a5 H = some (r, H')) : qx_V (xE st d) R (xc32 st) (0, [some (.ref a0), some (.int a1), some (.int a2), some (.int a3), some (.int a4), some (.int a5), none], [], H) := by
  unfold fm_X4_choose_e at h
  refine qv_br (c := a2 ≤ a1) (a := (11, [some (.ref a0), some (.int a1), some (.int a2), some (.int a3), some (.int a4), some (.int a5), none], [], H)) (b := (5, [some (.ref a0), some (.int a1), some (.int a2), some (.int a3), some (.int a4), some (.int a5), none], [], H)) 3 rfl (fun c2 => ?_) (fun c2 => ?_)
  · replace h := qv_pos c2 h
    exact tb_X4_choose_11 rc hB hrc hrl hrz hd hR a4 a5 (some (.ref a0)) rfl (some (.int a1)) rfl (some (.int a2)) rfl (some (.int a3)) rfl H h
  · replace h := qv_neg c2 h
    refine qv_run 2 (σ := (7, [some (.ref a0), some (.int a1), some (.int a2), some (.int a3), some (.int a4), some (.int a5), none], [.ref a0, .int a1], H)) rfl ?_
    obtain ⟨v7, e7, h⟩ := qv_bind h
    refine qv_len rfl e7 ?_
    refine qv_br (c := a1 < v7) (a := (19, [some (.ref a0), some (.int a1), some (.int a2), some (.int a3), some (.int a4), some (.int a5), none], [], H)) (b := (11, [some (.ref a0), some (.int a1), some (.int a2), some (.int a3), some (.int a4), some (.int a5), none], [], H)) 1 rfl (fun c8 => ?_) (fun c8 => ?_)
    · replace h := qv_pos c8 h
      refine qv_run 2 (σ := (22, [some (.ref a0), some (.int a1), some (.int a2), some (.int a3), some (.int a4), some (.int a5), some (.int a3)], [], H)) rfl ?_
      exact tb_X4_choose_22 rc hB hrc hrl hrz hd hR 5000 a0 a1 a2 a4 a5 a3 (some (.int a3)) rfl H h
    · replace h := qv_neg c8 h
      exact tb_X4_choose_11 rc hB hrc hrl hrz hd hR a4 a5 (some (.ref a0)) rfl (some (.int a1)) rfl (some (.int a2)) rfl (some (.int a3)) rfl H h
theorem tlb_X4_choose_0 (rc : Nat → Int32 → Int32 → Int32 → Int32 → Int32 → qx_H → Option (Int32 × qx_H)) (hrl : ∀ {b0 : Nat} {b1 : Int32} {b2 : Int32} {b3 : Int32} {b4 : Int32} {b5 : Int32} {H1 H2 : qx_H} {r1 : Int32}, rc b0 b1 b2 b3 b4 b5 H1 = some (r1, H2) → H2.length = H1.length) {r : Int32} {H' : qx_H} (a0 : Nat) (a1 : Int32) (a2 : Int32) (a3 : Int32) (a4 : Int32) (a5 : Int32) (H : qx_H) (h : fm_X4_choose_e rc a0 a1 a2 a3 a4 a5 H = some (r, H')) : H'.length = H.length := by
  unfold fm_X4_choose_e at h
  by_cases c2 : a2 ≤ a1
  · replace h := qv_pos c2 h
    exact tlb_X4_choose_11 rc hrl a4 a5 H h
  · replace h := qv_neg c2 h
    obtain ⟨v7, e7, h⟩ := qv_bind h
    by_cases c8 : a1 < v7
    · replace h := qv_pos c8 h
      exact tlb_X4_choose_22 rc hrl 5000 a0 a1 a2 a4 a5 a3 H h
    · replace h := qv_neg c8 h
      exact tlb_X4_choose_11 rc hrl a4 a5 H h
theorem tzb_X4_choose_0 (rc : Nat → Int32 → Int32 → Int32 → Int32 → Int32 → qx_H → Option (Int32 × qx_H)) (hrz : ∀ {b0 : Nat} {b1 : Int32} {b2 : Int32} {b3 : Int32} {b4 : Int32} {b5 : Int32} {H1 H2 : qx_H} {r1 : Int32}, rc b0 b1 b2 b3 b4 b5 H1 = some (r1, H2) → r1 = 0 ∨ r1 = 1) {r : Int32} {H' : qx_H} (a0 : Nat) (a1 : Int32) (a2 : Int32) (a3 : Int32) (a4 : Int32) (a5 : Int32) (H : qx_H) (h : fm_X4_choose_e rc a0 a1 a2 a3 a4 a5 H = some (r, H')) : r = 0 ∨ r = 1 := by
  unfold fm_X4_choose_e at h
  by_cases c2 : a2 ≤ a1
  · replace h := qv_pos c2 h
    exact tzb_X4_choose_11 rc hrz a4 a5 H h
  · replace h := qv_neg c2 h
    obtain ⟨v7, e7, h⟩ := qv_bind h
    by_cases c8 : a1 < v7
    · replace h := qv_pos c8 h
      exact tzb_X4_choose_22 rc hrz 5000 a0 a1 a2 a4 a5 a3 H h
    · replace h := qv_neg c8 h
      exact tzb_X4_choose_11 rc hrz a4 a5 H h
theorem tln_X4_choose : ∀ (n : Nat) {a0 : Nat} {a1 : Int32} {a2 : Int32} {a3 : Int32} {a4 : Int32} {a5 : Int32} {H : qx_H} {r : Int32} {H' : qx_H}, fm_X4_choose n a0 a1 a2 a3 a4 a5 H = some (r, H') → H'.length = H.length := by
  intro n
  induction n with
  | zero => intro a0 a1 a2 a3 a4 a5 H r H' h; exact nomatch (show (none : Option (Int32 × qx_H)) = some (r, H') from h)
  | succ n ih =>
    intro a0 a1 a2 a3 a4 a5 H r H' h
    exact tlb_X4_choose_0 (fm_X4_choose n) (fun h => ih h) a0 a1 a2 a3 a4 a5 H h
theorem tl_X4_choose {a0 : Nat} {a1 : Int32} {a2 : Int32} {a3 : Int32} {a4 : Int32} {a5 : Int32} {H : qx_H} {r : Int32} {H' : qx_H} (h : fm_X4_choose 8 a0 a1 a2 a3 a4 a5 H = some (r, H')) : H'.length = H.length := tln_X4_choose _ h
theorem tzn_X4_choose : ∀ (n : Nat) {a0 : Nat} {a1 : Int32} {a2 : Int32} {a3 : Int32} {a4 : Int32} {a5 : Int32} {H : qx_H} {r : Int32} {H' : qx_H}, fm_X4_choose n a0 a1 a2 a3 a4 a5 H = some (r, H') → (r = 0 ∨ r = 1) := by
  intro n
  induction n with
  | zero => intro a0 a1 a2 a3 a4 a5 H r H' h; exact nomatch (show (none : Option (Int32 × qx_H)) = some (r, H') from h)
  | succ n ih =>
    intro a0 a1 a2 a3 a4 a5 H r H' h
    exact tzb_X4_choose_0 (fm_X4_choose n) (fun h => ih h) a0 a1 a2 a3 a4 a5 H h
theorem tz_X4_choose {a0 : Nat} {a1 : Int32} {a2 : Int32} {a3 : Int32} {a4 : Int32} {a5 : Int32} {H : qx_H} {r : Int32} {H' : qx_H} (h : fm_X4_choose 8 a0 a1 a2 a3 a4 a5 H = some (r, H')) : r = 0 ∨ r = 1 := tzn_X4_choose _ h
theorem thn_X4_choose {st : xT} : ∀ (n : Nat) {a0 : Nat} {a1 : Int32} {a2 : Int32} {a3 : Int32} {a4 : Int32} {a5 : Int32} {H : qx_H} {r : Int32} {H' : qx_H}, fm_X4_choose n a0 a1 a2 a3 a4 a5 H = some (r, H') → xE st (5 + 1 * n) 32 [.ref a0, .int a1, .int a2, .int a3, .int a4, .int a5] H (some (.int r)) H' := by
  intro n
  induction n with
  | zero => intro a0 a1 a2 a3 a4 a5 H r H' h; exact nomatch (show (none : Option (Int32 × qx_H)) = some (r, H') from h)
  | succ n ih =>
    intro a0 a1 a2 a3 a4 a5 H r H' h
    have hx : xE st (5 + 1 * n + 1) 32 [.ref a0, .int a1, .int a2, .int a3, .int a4, .int a5] H (some (.int r)) H' := by
      exact xE_of (xe32 st) xl32 (Nat.le_of_ble_eq_true rfl) (ls := [some (.ref a0), some (.int a1), some (.int a2), some (.int a3), some (.int a4), some (.int a5), none]) rfl (tb_X4_choose_0 (e := 5 + 1 * n) (fm_X4_choose n) (by omega) (fun h => ih h) (fun h => tln_X4_choose n h) (fun h => tzn_X4_choose n h) (Nat.le_refl _) ⟨rfl, rfl⟩ a0 a1 a2 a3 a4 a5 H h)
    exact xE_le (by omega) hx
theorem th_X4_choose {st : xT} {d : Nat} (hd : 13 ≤ d) {a0 : Nat} {a1 : Int32} {a2 : Int32} {a3 : Int32} {a4 : Int32} {a5 : Int32} {H : qx_H} {r : Int32} {H' : qx_H} (h : fm_X4_choose 8 a0 a1 a2 a3 a4 a5 H = some (r, H')) : xE st d 32 [.ref a0, .int a1, .int a2, .int a3, .int a4, .int a5] H (some (.int r)) H' := xE_le (by omega) (thn_X4_choose 8 h)
