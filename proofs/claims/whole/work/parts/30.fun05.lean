def fm_X10_move_b16 (l0 : Nat) (H : qx_H) : Option (Int32 × qx_H) := if hp_is H l0 8 = true then (ob2 (fm_X10_refuse l0 (-1000000001) H) fun v19 H19 => some (v19, H19)) else none
def fm_X10_move_b105 (l0 : Nat) (H : qx_H) : Option (Int32 × qx_H) := if hp_is H l0 8 = true then (ob2 (fm_X10_refuse l0 (-1000000001) H) fun v108 H108 => some (v108, H108)) else none
def fm_X10_move_b55 (l0 : Nat) (H : qx_H) : Option (Int32 × qx_H) := if hp_is H l0 8 = true then (ob2 (fm_X10_refuse l0 (-1000000002) H) fun v58 H58 => some (v58, H58)) else none
def fm_X10_move (a0 : Nat) (a1 : Int32) (a2 : Int32) (a3 : Int32) (a4 : Int32) (a5 : Int32) (H : qx_H) : Option (Int32 × qx_H) := if (fm_X10_isBelow a1 4) = 0 then (fm_X10_move_b16 a0 H) else (if (fm_X10_isBelow a3 4) = 0 then (fm_X10_move_b16 a0 H) else ((hp_gR H a0 8 8).bind fun v24 => (hp_ra H v24 a1).bind fun v28 => (hp_gR H a0 8 8).bind fun v32 => (hp_ra H v32 a3).bind fun v36 => if hp_is H v28 5 = true then ((fm_X7_isMissing v28 H).bind fun v41 => if v41 = 0 then (if hp_is H v36 5 = true then ((fm_X7_isMissing v36 H).bind fun v49 => if v49 = 0 then ((hp_gI H v28 5 1).bind fun v64 => (hp_gI H v36 5 1).bind fun v69 => if v64 = v69 then ((fm_X7_hasStretch v28 a2 a5 H).bind fun v87 => if v87 = 0 then (fm_X10_move_b105 a0 H) else ((fm_X7_hasStretch v36 a4 a5 H).bind fun v99 => if v99 = 0 then (fm_X10_move_b105 a0 H) else ((hp_gR H v28 5 0).bind fun v114 => (hp_gR H v36 5 0).bind fun v120 => (hp_cpy H v114 a2 v120 a4 a5).bind fun H127 => some (a5, H127)))) else (if hp_is H a0 8 = true then (ob2 (fm_X10_refuse a0 (-1000000005) H) fun v78 H78 => some (v78, H78)) else none)) else (fm_X10_move_b55 a0 H)) else none) else (fm_X10_move_b55 a0 H)) else none))
theorem tb_X10_move_16 {st : xT} {d : Nat} {R : Option Value → qx_H → Prop} (hd : 2 ≤ d) {r : Int32} {H' : qx_H} (hR : R (some (.int r)) H') (l0 : Nat) (z1 : Option Value) (hz1 : qx_ns z1 = true) (z2 : Option Value) (hz2 : qx_ns z2 = true) (z3 : Option Value) (hz3 : qx_ns z3 = true) (z4 : Option Value) (hz4 : qx_ns z4 = true) (z5 : Option Value) (hz5 : qx_ns z5 = true) (H : qx_H) (h : fm_X10_move_b16 l0 H = some (r, H')) : qx_V (xE st d) R (xc108 st) (16, [some (.ref l0), z1, z2, z3, z4, z5, none, none], [], H) := by
  unfold fm_X10_move_b16 at h
  refine qv_run 2 (σ := (19, [some (.ref l0), z1, z2, z3, z4, z5, none, none], [.int (-1000000001), .ref l0], H)) rfl ?_
  obtain ⟨g19, h⟩ := qv_guard h
  obtain ⟨v19, H19, e19, h⟩ := qv_bind2 h
  refine qv_callV [.int (-1000000001)] rfl rfl rfl (Nat.le_of_ble_eq_true rfl) g19 (th_X10_refuse (by omega) e19) (tl_X10_refuse e19) ?_
  obtain ⟨rfl, rfl⟩ := qv_pair h
  exact qv_reti rfl hR
theorem tlb_X10_move_16 {r : Int32} {H' : qx_H} (l0 : Nat) (H : qx_H) (h : fm_X10_move_b16 l0 H = some (r, H')) : H'.length = H.length := by
  unfold fm_X10_move_b16 at h
  obtain ⟨g19, h⟩ := qv_guard h
  obtain ⟨v19, H19, e19, h⟩ := qv_bind2 h
  have q_H19 := tl_X10_refuse e19
  obtain ⟨rfl, rfl⟩ := qv_pair h
  omega
theorem tb_X10_move_105 {st : xT} {d : Nat} {R : Option Value → qx_H → Prop} (hd : 2 ≤ d) {r : Int32} {H' : qx_H} (hR : R (some (.int r)) H') (l0 : Nat) (z1 : Option Value) (hz1 : qx_ns z1 = true) (z2 : Option Value) (hz2 : qx_ns z2 = true) (z3 : Option Value) (hz3 : qx_ns z3 = true) (z4 : Option Value) (hz4 : qx_ns z4 = true) (z5 : Option Value) (hz5 : qx_ns z5 = true) (z6 : Option Value) (hz6 : qx_ns z6 = true) (z7 : Option Value) (hz7 : qx_ns z7 = true) (H : qx_H) (h : fm_X10_move_b105 l0 H = some (r, H')) : qx_V (xE st d) R (xc108 st) (105, [some (.ref l0), z1, z2, z3, z4, z5, z6, z7], [], H) := by
  unfold fm_X10_move_b105 at h
  refine qv_run 2 (σ := (108, [some (.ref l0), z1, z2, z3, z4, z5, z6, z7], [.int (-1000000001), .ref l0], H)) rfl ?_
  obtain ⟨g108, h⟩ := qv_guard h
  obtain ⟨v108, H108, e108, h⟩ := qv_bind2 h
  refine qv_callV [.int (-1000000001)] rfl rfl rfl (Nat.le_of_ble_eq_true rfl) g108 (th_X10_refuse (by omega) e108) (tl_X10_refuse e108) ?_
  obtain ⟨rfl, rfl⟩ := qv_pair h
  exact qv_reti rfl hR
theorem tlb_X10_move_105 {r : Int32} {H' : qx_H} (l0 : Nat) (H : qx_H) (h : fm_X10_move_b105 l0 H = some (r, H')) : H'.length = H.length := by
  unfold fm_X10_move_b105 at h
  obtain ⟨g108, h⟩ := qv_guard h
  obtain ⟨v108, H108, e108, h⟩ := qv_bind2 h
  have q_H108 := tl_X10_refuse e108
  obtain ⟨rfl, rfl⟩ := qv_pair h
  omega
theorem tb_X10_move_55 {st : xT} {d : Nat} {R : Option Value → qx_H → Prop} (hd : 2 ≤ d) {r : Int32} {H' : qx_H} (hR : R (some (.int r)) H') (l0 : Nat) (z1 : Option Value) (hz1 : qx_ns z1 = true) (z2 : Option Value) (hz2 : qx_ns z2 = true) (z3 : Option Value) (hz3 : qx_ns z3 = true) (z4 : Option Value) (hz4 : qx_ns z4 = true) (z5 : Option Value) (hz5 : qx_ns z5 = true) (z6 : Option Value) (hz6 : qx_ns z6 = true) (z7 : Option Value) (hz7 : qx_ns z7 = true) (H : qx_H) (h : fm_X10_move_b55 l0 H = some (r, H')) : qx_V (xE st d) R (xc108 st) (55, [some (.ref l0), z1, z2, z3, z4, z5, z6, z7], [], H) := by
  unfold fm_X10_move_b55 at h
  refine qv_run 2 (σ := (58, [some (.ref l0), z1, z2, z3, z4, z5, z6, z7], [.int (-1000000002), .ref l0], H)) rfl ?_
  obtain ⟨g58, h⟩ := qv_guard h
  obtain ⟨v58, H58, e58, h⟩ := qv_bind2 h
  refine qv_callV [.int (-1000000002)] rfl rfl rfl (Nat.le_of_ble_eq_true rfl) g58 (th_X10_refuse (by omega) e58) (tl_X10_refuse e58) ?_
  obtain ⟨rfl, rfl⟩ := qv_pair h
  exact qv_reti rfl hR
theorem tlb_X10_move_55 {r : Int32} {H' : qx_H} (l0 : Nat) (H : qx_H) (h : fm_X10_move_b55 l0 H = some (r, H')) : H'.length = H.length := by
  unfold fm_X10_move_b55 at h
  obtain ⟨g58, h⟩ := qv_guard h
  obtain ⟨v58, H58, e58, h⟩ := qv_bind2 h
  have q_H58 := tl_X10_refuse e58
  obtain ⟨rfl, rfl⟩ := qv_pair h
  omega
theorem tb_X10_move_0 {st : xT} {d : Nat} {R : Option Value → qx_H → Prop} (hd : 2 ≤ d) {r : Int32} {H' : qx_H} (hR : R (some (.int r)) H') (a0 : Nat) (a1 : Int32) (a2 : Int32) (a3 : Int32) (a4 : Int32) (a5 : Int32) (H : qx_H) (h : fm_X10_move a0 a1 a2 a3 a4 a5 H = some (r, H')) : qx_V (xE st d) R (xc108 st) (0, [some (.ref a0), some (.int a1), some (.int a2), some (.int a3), some (.int a4), some (.int a5), none, none], [], H) := by
  unfold fm_X10_move at h
  refine qv_run 2 (σ := (2, [some (.ref a0), some (.int a1), some (.int a2), some (.int a3), some (.int a4), some (.int a5), none, none], [.int 4, .int a1], H)) rfl ?_
  refine qv_call [.int a1, .int 4] rfl rfl rfl (Nat.le_of_ble_eq_true rfl) (th_X10_isBelow (by omega) rfl) rfl ?_
  refine qv_br (c := (fm_X10_isBelow a1 4) = 0) (a := (16, [some (.ref a0), some (.int a1), some (.int a2), some (.int a3), some (.int a4), some (.int a5), none, none], [], H)) (b := (8, [some (.ref a0), some (.int a1), some (.int a2), some (.int a3), some (.int a4), some (.int a5), none, none], [], H)) 1 rfl (fun c5 => ?_) (fun c5 => ?_)
  · replace h := qv_pos c5 h
    exact tb_X10_move_16 hd hR a0 (some (.int a1)) rfl (some (.int a2)) rfl (some (.int a3)) rfl (some (.int a4)) rfl (some (.int a5)) rfl H h
  · replace h := qv_neg c5 h
    refine qv_run 2 (σ := (10, [some (.ref a0), some (.int a1), some (.int a2), some (.int a3), some (.int a4), some (.int a5), none, none], [.int 4, .int a3], H)) rfl ?_
    refine qv_call [.int a3, .int 4] rfl rfl rfl (Nat.le_of_ble_eq_true rfl) (th_X10_isBelow (by omega) rfl) rfl ?_
    refine qv_br (c := (fm_X10_isBelow a3 4) = 0) (a := (16, [some (.ref a0), some (.int a1), some (.int a2), some (.int a3), some (.int a4), some (.int a5), none, none], [], H)) (b := (23, [some (.ref a0), some (.int a1), some (.int a2), some (.int a3), some (.int a4), some (.int a5), none, none], [], H)) 1 rfl (fun c13 => ?_) (fun c13 => ?_)
    · replace h := qv_pos c13 h
      exact tb_X10_move_16 hd hR a0 (some (.int a1)) rfl (some (.int a2)) rfl (some (.int a3)) rfl (some (.int a4)) rfl (some (.int a5)) rfl H h
    · replace h := qv_neg c13 h
      refine qv_run 1 (σ := (24, [some (.ref a0), some (.int a1), some (.int a2), some (.int a3), some (.int a4), some (.int a5), none, none], [.ref a0], H)) rfl ?_
      obtain ⟨v24, e24, h⟩ := qv_bind h
      refine qv_getR rfl e24 ?_
      refine qv_run 1 (σ := (28, [some (.ref a0), some (.int a1), some (.int a2), some (.int a3), some (.int a4), some (.int a5), none, none], [.int a1, .ref v24], H)) rfl ?_
      obtain ⟨v28, e28, h⟩ := qv_bind h
      refine qv_ra rfl e28 ?_
      refine qv_run 2 (σ := (32, [some (.ref a0), some (.int a1), some (.int a2), some (.int a3), some (.int a4), some (.int a5), some (.ref v28), none], [.ref a0], H)) rfl ?_
      obtain ⟨v32, e32, h⟩ := qv_bind h
      refine qv_getR rfl e32 ?_
      refine qv_run 1 (σ := (36, [some (.ref a0), some (.int a1), some (.int a2), some (.int a3), some (.int a4), some (.int a5), some (.ref v28), none], [.int a3, .ref v32], H)) rfl ?_
      obtain ⟨v36, e36, h⟩ := qv_bind h
      refine qv_ra rfl e36 ?_
      refine qv_run 2 (σ := (41, [some (.ref a0), some (.int a1), some (.int a2), some (.int a3), some (.int a4), some (.int a5), some (.ref v28), some (.ref v36)], [.ref v28], H)) rfl ?_
      obtain ⟨g41, h⟩ := qv_guard h
      obtain ⟨v41, e41, h⟩ := qv_bind h
      refine qv_callV [] rfl rfl rfl (Nat.le_of_ble_eq_true rfl) g41 (th_X7_isMissing (by omega) e41) rfl ?_
      refine qv_br (c := v41 = 0) (a := (47, [some (.ref a0), some (.int a1), some (.int a2), some (.int a3), some (.int a4), some (.int a5), some (.ref v28), some (.ref v36)], [], H)) (b := (55, [some (.ref a0), some (.int a1), some (.int a2), some (.int a3), some (.int a4), some (.int a5), some (.ref v28), some (.ref v36)], [], H)) 1 rfl (fun c44 => ?_) (fun c44 => ?_)
      · replace h := qv_pos c44 h
        refine qv_run 1 (σ := (49, [some (.ref a0), some (.int a1), some (.int a2), some (.int a3), some (.int a4), some (.int a5), some (.ref v28), some (.ref v36)], [.ref v36], H)) rfl ?_
        obtain ⟨g49, h⟩ := qv_guard h
        obtain ⟨v49, e49, h⟩ := qv_bind h
        refine qv_callV [] rfl rfl rfl (Nat.le_of_ble_eq_true rfl) g49 (th_X7_isMissing (by omega) e49) rfl ?_
        refine qv_br (c := v49 = 0) (a := (62, [some (.ref a0), some (.int a1), some (.int a2), some (.int a3), some (.int a4), some (.int a5), some (.ref v28), some (.ref v36)], [], H)) (b := (55, [some (.ref a0), some (.int a1), some (.int a2), some (.int a3), some (.int a4), some (.int a5), some (.ref v28), some (.ref v36)], [], H)) 1 rfl (fun c52 => ?_) (fun c52 => ?_)
        · replace h := qv_pos c52 h
          refine qv_run 1 (σ := (64, [some (.ref a0), some (.int a1), some (.int a2), some (.int a3), some (.int a4), some (.int a5), some (.ref v28), some (.ref v36)], [.ref v28], H)) rfl ?_
          obtain ⟨v64, e64, h⟩ := qv_bind h
          refine qv_getI rfl e64 ?_
          refine qv_run 1 (σ := (69, [some (.ref a0), some (.int a1), some (.int a2), some (.int a3), some (.int a4), some (.int a5), some (.ref v28), some (.ref v36)], [.ref v36, .int v64], H)) rfl ?_
          obtain ⟨v69, e69, h⟩ := qv_bind h
          refine qv_getI rfl e69 ?_
          refine qv_br (c := v64 = v69) (a := (82, [some (.ref a0), some (.int a1), some (.int a2), some (.int a3), some (.int a4), some (.int a5), some (.ref v28), some (.ref v36)], [], H)) (b := (75, [some (.ref a0), some (.int a1), some (.int a2), some (.int a3), some (.int a4), some (.int a5), some (.ref v28), some (.ref v36)], [], H)) 1 rfl (fun c72 => ?_) (fun c72 => ?_)
          · replace h := qv_pos c72 h
            refine qv_run 3 (σ := (87, [some (.ref a0), some (.int a1), some (.int a2), some (.int a3), some (.int a4), some (.int a5), some (.ref v28), some (.ref v36)], [.int a5, .int a2, .ref v28], H)) rfl ?_
            obtain ⟨v87, e87, h⟩ := qv_bind h
            refine qv_callV [.int a2, .int a5] rfl rfl rfl (Nat.le_of_ble_eq_true rfl) g41 (th_X7_hasStretch (by omega) e87) rfl ?_
            refine qv_br (c := v87 = 0) (a := (105, [some (.ref a0), some (.int a1), some (.int a2), some (.int a3), some (.int a4), some (.int a5), some (.ref v28), some (.ref v36)], [], H)) (b := (93, [some (.ref a0), some (.int a1), some (.int a2), some (.int a3), some (.int a4), some (.int a5), some (.ref v28), some (.ref v36)], [], H)) 1 rfl (fun c90 => ?_) (fun c90 => ?_)
            · replace h := qv_pos c90 h
              exact tb_X10_move_105 hd hR a0 (some (.int a1)) rfl (some (.int a2)) rfl (some (.int a3)) rfl (some (.int a4)) rfl (some (.int a5)) rfl (some (.ref v28)) rfl (some (.ref v36)) rfl H h
            · replace h := qv_neg c90 h
              refine qv_run 3 (σ := (99, [some (.ref a0), some (.int a1), some (.int a2), some (.int a3), some (.int a4), some (.int a5), some (.ref v28), some (.ref v36)], [.int a5, .int a4, .ref v36], H)) rfl ?_
              obtain ⟨v99, e99, h⟩ := qv_bind h
              refine qv_callV [.int a4, .int a5] rfl rfl rfl (Nat.le_of_ble_eq_true rfl) g49 (th_X7_hasStretch (by omega) e99) rfl ?_
              refine qv_br (c := v99 = 0) (a := (105, [some (.ref a0), some (.int a1), some (.int a2), some (.int a3), some (.int a4), some (.int a5), some (.ref v28), some (.ref v36)], [], H)) (b := (112, [some (.ref a0), some (.int a1), some (.int a2), some (.int a3), some (.int a4), some (.int a5), some (.ref v28), some (.ref v36)], [], H)) 1 rfl (fun c102 => ?_) (fun c102 => ?_)
              · replace h := qv_pos c102 h
                exact tb_X10_move_105 hd hR a0 (some (.int a1)) rfl (some (.int a2)) rfl (some (.int a3)) rfl (some (.int a4)) rfl (some (.int a5)) rfl (some (.ref v28)) rfl (some (.ref v36)) rfl H h
              · replace h := qv_neg c102 h
                refine qv_run 1 (σ := (114, [some (.ref a0), some (.int a1), some (.int a2), some (.int a3), some (.int a4), some (.int a5), some (.ref v28), some (.ref v36)], [.ref v28], H)) rfl ?_
                obtain ⟨v114, e114, h⟩ := qv_bind h
                refine qv_getR rfl e114 ?_
                refine qv_run 2 (σ := (120, [some (.ref a0), some (.int a1), some (.int a2), some (.int a3), some (.int a4), some (.int a5), some (.ref v28), some (.ref v36)], [.ref v36, .int a2, .ref v114], H)) rfl ?_
                obtain ⟨v120, e120, h⟩ := qv_bind h
                refine qv_getR rfl e120 ?_
                refine qv_run 2 (σ := (127, [some (.ref a0), some (.int a1), some (.int a2), some (.int a3), some (.int a4), some (.int a5), some (.ref v28), some (.ref v36)], [.int a5, .int a4, .ref v120, .int a2, .ref v114], H)) rfl ?_
                obtain ⟨H127, e127, h⟩ := qv_bind h
                refine qv_cpy rfl (Nat.le_of_ble_eq_true rfl) e127 ?_
                refine qv_run 1 (σ := (132, [some (.ref a0), some (.int a1), some (.int a2), some (.int a3), some (.int a4), some (.int a5), some (.ref v28), some (.ref v36)], [.int a5], H127)) rfl ?_
                obtain ⟨rfl, rfl⟩ := qv_pair h
                exact qv_reti rfl hR
          · replace h := qv_neg c72 h
            refine qv_run 2 (σ := (78, [some (.ref a0), some (.int a1), some (.int a2), some (.int a3), some (.int a4), some (.int a5), some (.ref v28), some (.ref v36)], [.int (-1000000005), .ref a0], H)) rfl ?_
            obtain ⟨g78, h⟩ := qv_guard h
            obtain ⟨v78, H78, e78, h⟩ := qv_bind2 h
            refine qv_callV [.int (-1000000005)] rfl rfl rfl (Nat.le_of_ble_eq_true rfl) g78 (th_X10_refuse (by omega) e78) (tl_X10_refuse e78) ?_
            obtain ⟨rfl, rfl⟩ := qv_pair h
            exact qv_reti rfl hR
        · replace h := qv_neg c52 h
          exact tb_X10_move_55 hd hR a0 (some (.int a1)) rfl (some (.int a2)) rfl (some (.int a3)) rfl (some (.int a4)) rfl (some (.int a5)) rfl (some (.ref v28)) rfl (some (.ref v36)) rfl H h
      · replace h := qv_neg c44 h
        exact tb_X10_move_55 hd hR a0 (some (.int a1)) rfl (some (.int a2)) rfl (some (.int a3)) rfl (some (.int a4)) rfl (some (.int a5)) rfl (some (.ref v28)) rfl (some (.ref v36)) rfl H h
theorem tlb_X10_move_0 {r : Int32} {H' : qx_H} (a0 : Nat) (a1 : Int32) (a2 : Int32) (a3 : Int32) (a4 : Int32) (a5 : Int32) (H : qx_H) (h : fm_X10_move a0 a1 a2 a3 a4 a5 H = some (r, H')) : H'.length = H.length := by
  unfold fm_X10_move at h
  by_cases c5 : (fm_X10_isBelow a1 4) = 0
  · replace h := qv_pos c5 h
    exact tlb_X10_move_16 a0 H h
  · replace h := qv_neg c5 h
    by_cases c13 : (fm_X10_isBelow a3 4) = 0
    · replace h := qv_pos c13 h
      exact tlb_X10_move_16 a0 H h
    · replace h := qv_neg c13 h
      obtain ⟨v24, e24, h⟩ := qv_bind h
      obtain ⟨v28, e28, h⟩ := qv_bind h
      obtain ⟨v32, e32, h⟩ := qv_bind h
      obtain ⟨v36, e36, h⟩ := qv_bind h
      obtain ⟨g41, h⟩ := qv_guard h
      obtain ⟨v41, e41, h⟩ := qv_bind h
      by_cases c44 : v41 = 0
      · replace h := qv_pos c44 h
        obtain ⟨g49, h⟩ := qv_guard h
        obtain ⟨v49, e49, h⟩ := qv_bind h
        by_cases c52 : v49 = 0
        · replace h := qv_pos c52 h
          obtain ⟨v64, e64, h⟩ := qv_bind h
          obtain ⟨v69, e69, h⟩ := qv_bind h
          by_cases c72 : v64 = v69
          · replace h := qv_pos c72 h
            obtain ⟨v87, e87, h⟩ := qv_bind h
            by_cases c90 : v87 = 0
            · replace h := qv_pos c90 h
              exact tlb_X10_move_105 a0 H h
            · replace h := qv_neg c90 h
              obtain ⟨v99, e99, h⟩ := qv_bind h
              by_cases c102 : v99 = 0
              · replace h := qv_pos c102 h
                exact tlb_X10_move_105 a0 H h
              · replace h := qv_neg c102 h
                obtain ⟨v114, e114, h⟩ := qv_bind h
                obtain ⟨v120, e120, h⟩ := qv_bind h
                obtain ⟨H127, e127, h⟩ := qv_bind h
                have q_H127 := hp_cpy_len e127
                obtain ⟨rfl, rfl⟩ := qv_pair h
                omega
          · replace h := qv_neg c72 h
            obtain ⟨g78, h⟩ := qv_guard h
            obtain ⟨v78, H78, e78, h⟩ := qv_bind2 h
            have q_H78 := tl_X10_refuse e78
            obtain ⟨rfl, rfl⟩ := qv_pair h
            omega
        · replace h := qv_neg c52 h
          exact tlb_X10_move_55 a0 H h
      · replace h := qv_neg c44 h
        exact tlb_X10_move_55 a0 H h
theorem th_X10_move {st : xT} {d : Nat} (hd : 3 ≤ d) {a0 : Nat} {a1 : Int32} {a2 : Int32} {a3 : Int32} {a4 : Int32} {a5 : Int32} {H : qx_H} {r : Int32} {H' : qx_H} (h : fm_X10_move a0 a1 a2 a3 a4 a5 H = some (r, H')) : xE st d 108 [.ref a0, .int a1, .int a2, .int a3, .int a4, .int a5] H (some (.int r)) H' := by
  obtain ⟨d, rfl⟩ : ∃ d', d = d' + 1 := ⟨d - 1, by omega⟩
  exact xE_of (xe108 st) xl108 (Nat.le_of_ble_eq_true rfl) (ls := [some (.ref a0), some (.int a1), some (.int a2), some (.int a3), some (.int a4), some (.int a5), none, none]) rfl (tb_X10_move_0 (by omega) ⟨rfl, rfl⟩ a0 a1 a2 a3 a4 a5 H h)
theorem tl_X10_move {a0 : Nat} {a1 : Int32} {a2 : Int32} {a3 : Int32} {a4 : Int32} {a5 : Int32} {H : qx_H} {r : Int32} {H' : qx_H} (h : fm_X10_move a0 a1 a2 a3 a4 a5 H = some (r, H')) : H'.length = H.length := tlb_X10_move_0 a0 a1 a2 a3 a4 a5 H h
def fm_X10_readingError (a0 : Nat) (a1 : Int32) (H : qx_H) : Option Int32 := if (fm_X10_isBelow a1 4) = 0 then (some (-1000000001)) else ((hp_gR H a0 8 8).bind fun v12 => (hp_ra H v12 a1).bind fun v16 => if hp_is H v16 5 = true then ((fm_X7_isMissing v16 H).bind fun v17 => if v17 = 0 then (some 0) else (some (-1000000002))) else none)
theorem tb_X10_readingError_0 {st : xT} {d : Nat} {R : Option Value → qx_H → Prop} (hd : 1 ≤ d) {r : Int32} {H : qx_H} (hR : R (some (.int r)) H) (a0 : Nat) (a1 : Int32) (h : fm_X10_readingError a0 a1 H = some r) : qx_V (xE st d) R (xc122 st) (0, [some (.ref a0), some (.int a1)], [], H) := by
  unfold fm_X10_readingError at h
  refine qv_run 2 (σ := (2, [some (.ref a0), some (.int a1)], [.int 4, .int a1], H)) rfl ?_
  refine qv_call [.int a1, .int 4] rfl rfl rfl (Nat.le_of_ble_eq_true rfl) (th_X10_isBelow (by omega) rfl) rfl ?_
  refine qv_br (c := (fm_X10_isBelow a1 4) = 0) (a := (8, [some (.ref a0), some (.int a1)], [], H)) (b := (11, [some (.ref a0), some (.int a1)], [], H)) 1 rfl (fun c5 => ?_) (fun c5 => ?_)
  · replace h := qv_pos c5 h
    refine qv_run 1 (σ := (10, [some (.ref a0), some (.int a1)], [.int (-1000000001)], H)) rfl ?_
    cases h
    exact qv_reti rfl hR
  · replace h := qv_neg c5 h
    refine qv_run 1 (σ := (12, [some (.ref a0), some (.int a1)], [.ref a0], H)) rfl ?_
    obtain ⟨v12, e12, h⟩ := qv_bind h
    refine qv_getR rfl e12 ?_
    refine qv_run 1 (σ := (16, [some (.ref a0), some (.int a1)], [.int a1, .ref v12], H)) rfl ?_
    obtain ⟨v16, e16, h⟩ := qv_bind h
    refine qv_ra rfl e16 ?_
    obtain ⟨g17, h⟩ := qv_guard h
    obtain ⟨v17, e17, h⟩ := qv_bind h
    refine qv_callV [] rfl rfl rfl (Nat.le_of_ble_eq_true rfl) g17 (th_X7_isMissing (by omega) e17) rfl ?_
    refine qv_br (c := v17 = 0) (a := (28, [some (.ref a0), some (.int a1)], [], H)) (b := (23, [some (.ref a0), some (.int a1)], [], H)) 1 rfl (fun c20 => ?_) (fun c20 => ?_)
    · replace h := qv_pos c20 h
      refine qv_run 1 (σ := (29, [some (.ref a0), some (.int a1)], [.int 0], H)) rfl ?_
      cases h
      exact qv_reti rfl hR
    · replace h := qv_neg c20 h
      refine qv_run 2 (σ := (29, [some (.ref a0), some (.int a1)], [.int (-1000000002)], H)) rfl ?_
      cases h
      exact qv_reti rfl hR
theorem th_X10_readingError {st : xT} {d : Nat} (hd : 2 ≤ d) {a0 : Nat} {a1 : Int32} {r : Int32} {H : qx_H} (h : fm_X10_readingError a0 a1 H = some r) : xE st d 122 [.ref a0, .int a1] H (some (.int r)) H := by
  obtain ⟨d, rfl⟩ : ∃ d', d = d' + 1 := ⟨d - 1, by omega⟩
  exact xE_of (xe122 st) xl122 (Nat.le_of_ble_eq_true rfl) (ls := [some (.ref a0), some (.int a1)]) rfl (tb_X10_readingError_0 (by omega) ⟨rfl, rfl⟩ a0 a1 h)
def fm_X10_cutAll_b26 : Nat → Nat → Nat → Int32 → qx_H → Option (Int32 × qx_H)
  | 0, _, _, _, _ => none
  | n + 1, l0, l3, l4, H => (hp_gI H l3 5 2).bind fun v29 => if v29 ≤ l4 then ((hp_gI H l3 5 2).bind fun v91 => some (v91, H)) else ((hp_gR H l3 5 0).bind fun v36 => (hp_ald H v36 l4).bind fun v41 => if (fm_X10_isBelow v41 31) = 0 then (some (l4, H)) else ((hp_gR H l0 8 0).bind fun v55 => (hp_gR H v55 4 0).bind fun v58 => if hp_is H v58 3 = true then ((fm_X5_isMissing v58 v41 H).bind fun v63 => if v63 = 0 then ((hp_gR H l0 8 0).bind fun v73 => (hp_gR H v73 4 0).bind fun v76 => if hp_is H v76 3 = true then ((fm_X5_lose v76 v41 H).bind fun H81 => fm_X10_cutAll_b26 n l0 l3 (l4 + 1) H81) else none) else (some (l4, H))) else none))
def fm_X10_cutAll (a0 : Nat) (a1 : Int32) (H : qx_H) : Option (Int32 × qx_H) := if hp_is H a0 8 = true then ((fm_X10_readingError a0 a1 H).bind fun v2 => if v2 = 0 then ((hp_gR H a0 8 8).bind fun v17 => (hp_ra H v17 a1).bind fun v21 => fm_X10_cutAll_b26 5000 a0 v21 0 H) else (ob2 (fm_X10_refuse a0 v2 H) fun v12 H12 => some (v12, H12))) else none
theorem tb_X10_cutAll_26 {st : xT} {d : Nat} {R : Option Value → qx_H → Prop} (hd : 2 ≤ d) {r : Int32} {H' : qx_H} (hR : R (some (.int r)) H') : ∀ (n : Nat) (l0 : Nat) (l3 : Nat) (l4 : Int32) (z1 : Option Value) (hz1 : qx_ns z1 = true) (z2 : Option Value) (hz2 : qx_ns z2 = true) (z5 : Option Value) (hz5 : qx_ns z5 = true) (H : qx_H) (h : fm_X10_cutAll_b26 n l0 l3 l4 H = some (r, H')), qx_V (xE st d) R (xc109 st) (26, [some (.ref l0), z1, z2, some (.ref l3), some (.int l4), z5], [], H) := by
  intro n
  induction n with
  | zero => intro l0 l3 l4 z1 hz1 z2 hz2 z5 hz5 H h; exact nomatch (show (none : Option (Int32 × qx_H)) = some (r, H') from h)
  | succ n ih =>
    intro l0 l3 l4 z1 hz1 z2 hz2 z5 hz5 H h
    unfold fm_X10_cutAll_b26 at h
    refine qv_run 2 (σ := (29, [some (.ref l0), z1, z2, some (.ref l3), some (.int l4), z5], [.ref l3, .int l4], H)) rfl ?_
    obtain ⟨v29, e29, h⟩ := qv_bind h
    refine qv_getI rfl e29 ?_
    refine qv_br (c := v29 ≤ l4) (a := (90, [some (.ref l0), z1, z2, some (.ref l3), some (.int l4), z5], [], H)) (b := (35, [some (.ref l0), z1, z2, some (.ref l3), some (.int l4), z5], [], H)) 1 rfl (fun c32 => ?_) (fun c32 => ?_)
    · replace h := qv_pos c32 h
      refine qv_run 1 (σ := (91, [some (.ref l0), z1, z2, some (.ref l3), some (.int l4), z5], [.ref l3], H)) rfl ?_
      obtain ⟨v91, e91, h⟩ := qv_bind h
      refine qv_getI rfl e91 ?_
      obtain ⟨rfl, rfl⟩ := qv_pair h
      exact qv_reti rfl hR
    · replace h := qv_neg c32 h
      refine qv_run 1 (σ := (36, [some (.ref l0), z1, z2, some (.ref l3), some (.int l4), z5], [.ref l3], H)) rfl ?_
      obtain ⟨v36, e36, h⟩ := qv_bind h
      refine qv_getR rfl e36 ?_
      refine qv_run 1 (σ := (41, [some (.ref l0), z1, z2, some (.ref l3), some (.int l4), z5], [.int l4, .ref v36], H)) rfl ?_
      obtain ⟨v41, e41, h⟩ := qv_bind h
      refine qv_ald rfl e41 ?_
      refine qv_run 3 (σ := (48, [some (.ref l0), z1, z2, some (.ref l3), some (.int l4), some (.int v41)], [.int 31, .int v41], H)) rfl ?_
      refine qv_call [.int v41, .int 31] rfl rfl rfl (Nat.le_of_ble_eq_true rfl) (th_X10_isBelow (by omega) rfl) rfl ?_
      refine qv_br (c := (fm_X10_isBelow v41 31) = 0) (a := (69, [some (.ref l0), z1, z2, some (.ref l3), some (.int l4), some (.int v41)], [], H)) (b := (54, [some (.ref l0), z1, z2, some (.ref l3), some (.int l4), some (.int v41)], [], H)) 1 rfl (fun c51 => ?_) (fun c51 => ?_)
      · replace h := qv_pos c51 h
        refine qv_run 1 (σ := (71, [some (.ref l0), z1, z2, some (.ref l3), some (.int l4), some (.int v41)], [.int l4], H)) rfl ?_
        obtain ⟨rfl, rfl⟩ := qv_pair h
        exact qv_reti rfl hR
      · replace h := qv_neg c51 h
        refine qv_run 1 (σ := (55, [some (.ref l0), z1, z2, some (.ref l3), some (.int l4), some (.int v41)], [.ref l0], H)) rfl ?_
        obtain ⟨v55, e55, h⟩ := qv_bind h
        refine qv_getR rfl e55 ?_
        obtain ⟨v58, e58, h⟩ := qv_bind h
        refine qv_getR rfl e58 ?_
        refine qv_run 1 (σ := (63, [some (.ref l0), z1, z2, some (.ref l3), some (.int l4), some (.int v41)], [.int v41, .ref v58], H)) rfl ?_
        obtain ⟨g63, h⟩ := qv_guard h
        obtain ⟨v63, e63, h⟩ := qv_bind h
        refine qv_callV [.int v41] rfl rfl rfl (Nat.le_of_ble_eq_true rfl) g63 (th_X5_isMissing (by omega) e63) rfl ?_
        refine qv_br (c := v63 = 0) (a := (72, [some (.ref l0), z1, z2, some (.ref l3), some (.int l4), some (.int v41)], [], H)) (b := (69, [some (.ref l0), z1, z2, some (.ref l3), some (.int l4), some (.int v41)], [], H)) 1 rfl (fun c66 => ?_) (fun c66 => ?_)
        · replace h := qv_pos c66 h
          refine qv_run 1 (σ := (73, [some (.ref l0), z1, z2, some (.ref l3), some (.int l4), some (.int v41)], [.ref l0], H)) rfl ?_
          obtain ⟨v73, e73, h⟩ := qv_bind h
          refine qv_getR rfl e73 ?_
          obtain ⟨v76, e76, h⟩ := qv_bind h
          refine qv_getR rfl e76 ?_
          refine qv_run 1 (σ := (81, [some (.ref l0), z1, z2, some (.ref l3), some (.int l4), some (.int v41)], [.int v41, .ref v76], H)) rfl ?_
          obtain ⟨g81, h⟩ := qv_guard h
          obtain ⟨H81, e81, h⟩ := qv_bind h
          refine qv_callV [.int v41] rfl rfl rfl (Nat.le_of_ble_eq_true rfl) g81 (th_X5_lose (by omega) e81) (tl_X5_lose e81) ?_
          refine qv_run 2 (σ := (26, [some (.ref l0), z1, z2, some (.ref l3), some (.int (l4 + 1)), some (.int v41)], [], H81)) rfl ?_
          exact ih l0 l3 (l4 + 1) z1 hz1 z2 hz2 (some (.int v41)) rfl H81 h
        · replace h := qv_neg c66 h
          refine qv_run 1 (σ := (71, [some (.ref l0), z1, z2, some (.ref l3), some (.int l4), some (.int v41)], [.int l4], H)) rfl ?_
          obtain ⟨rfl, rfl⟩ := qv_pair h
          exact qv_reti rfl hR
theorem tlb_X10_cutAll_26 {r : Int32} {H' : qx_H} : ∀ (n : Nat) (l0 : Nat) (l3 : Nat) (l4 : Int32) (H : qx_H) (h : fm_X10_cutAll_b26 n l0 l3 l4 H = some (r, H')), H'.length = H.length := by
  intro n
  induction n with
  | zero => intro l0 l3 l4 H h; exact nomatch (show (none : Option (Int32 × qx_H)) = some (r, H') from h)
  | succ n ih =>
    intro l0 l3 l4 H h
    unfold fm_X10_cutAll_b26 at h
    obtain ⟨v29, e29, h⟩ := qv_bind h
    by_cases c32 : v29 ≤ l4
    · replace h := qv_pos c32 h
      obtain ⟨v91, e91, h⟩ := qv_bind h
      obtain ⟨rfl, rfl⟩ := qv_pair h
      rfl
    · replace h := qv_neg c32 h
      obtain ⟨v36, e36, h⟩ := qv_bind h
      obtain ⟨v41, e41, h⟩ := qv_bind h
      by_cases c51 : (fm_X10_isBelow v41 31) = 0
      · replace h := qv_pos c51 h
        obtain ⟨rfl, rfl⟩ := qv_pair h
        rfl
      · replace h := qv_neg c51 h
        obtain ⟨v55, e55, h⟩ := qv_bind h
        obtain ⟨v58, e58, h⟩ := qv_bind h
        obtain ⟨g63, h⟩ := qv_guard h
        obtain ⟨v63, e63, h⟩ := qv_bind h
        by_cases c66 : v63 = 0
        · replace h := qv_pos c66 h
          obtain ⟨v73, e73, h⟩ := qv_bind h
          obtain ⟨v76, e76, h⟩ := qv_bind h
          obtain ⟨g81, h⟩ := qv_guard h
          obtain ⟨H81, e81, h⟩ := qv_bind h
          have q_H81 := tl_X5_lose e81
          have q_end := ih l0 l3 (l4 + 1) H81 h
          omega
        · replace h := qv_neg c66 h
          obtain ⟨rfl, rfl⟩ := qv_pair h
          rfl
theorem tb_X10_cutAll_0 {st : xT} {d : Nat} {R : Option Value → qx_H → Prop} (hd : 2 ≤ d) {r : Int32} {H' : qx_H} (hR : R (some (.int r)) H') (a0 : Nat) (a1 : Int32) (H : qx_H) (h : fm_X10_cutAll a0 a1 H = some (r, H')) : qx_V (xE st d) R (xc109 st) (0, [some (.ref a0), some (.int a1), none, none, none, none], [], H) := by
  unfold fm_X10_cutAll at h
  refine qv_run 2 (σ := (2, [some (.ref a0), some (.int a1), none, none, none, none], [.int a1, .ref a0], H)) rfl ?_
  obtain ⟨g2, h⟩ := qv_guard h
  obtain ⟨v2, e2, h⟩ := qv_bind h
  refine qv_callV [.int a1] rfl rfl rfl (Nat.le_of_ble_eq_true rfl) g2 (th_X10_readingError (by omega) e2) rfl ?_
  refine qv_br (c := v2 = 0) (a := (16, [some (.ref a0), some (.int a1), some (.int v2), none, none, none], [], H)) (b := (10, [some (.ref a0), some (.int a1), some (.int v2), none, none, none], [], H)) 3 rfl (fun c7 => ?_) (fun c7 => ?_)
  · replace h := qv_pos c7 h
    refine qv_run 1 (σ := (17, [some (.ref a0), some (.int a1), some (.int v2), none, none, none], [.ref a0], H)) rfl ?_
    obtain ⟨v17, e17, h⟩ := qv_bind h
    refine qv_getR rfl e17 ?_
    refine qv_run 1 (σ := (21, [some (.ref a0), some (.int a1), some (.int v2), none, none, none], [.int a1, .ref v17], H)) rfl ?_
    obtain ⟨v21, e21, h⟩ := qv_bind h
    refine qv_ra rfl e21 ?_
    refine qv_run 3 (σ := (26, [some (.ref a0), some (.int a1), some (.int v2), some (.ref v21), some (.int 0), none], [], H)) rfl ?_
    exact tb_X10_cutAll_26 hd hR 5000 a0 v21 0 (some (.int a1)) rfl (some (.int v2)) rfl none rfl H h
  · replace h := qv_neg c7 h
    refine qv_run 2 (σ := (12, [some (.ref a0), some (.int a1), some (.int v2), none, none, none], [.int v2, .ref a0], H)) rfl ?_
    obtain ⟨v12, H12, e12, h⟩ := qv_bind2 h
    refine qv_callV [.int v2] rfl rfl rfl (Nat.le_of_ble_eq_true rfl) g2 (th_X10_refuse (by omega) e12) (tl_X10_refuse e12) ?_
    obtain ⟨rfl, rfl⟩ := qv_pair h
    exact qv_reti rfl hR
theorem tlb_X10_cutAll_0 {r : Int32} {H' : qx_H} (a0 : Nat) (a1 : Int32) (H : qx_H) (h : fm_X10_cutAll a0 a1 H = some (r, H')) : H'.length = H.length := by
  unfold fm_X10_cutAll at h
  obtain ⟨g2, h⟩ := qv_guard h
  obtain ⟨v2, e2, h⟩ := qv_bind h
  by_cases c7 : v2 = 0
  · replace h := qv_pos c7 h
    obtain ⟨v17, e17, h⟩ := qv_bind h
    obtain ⟨v21, e21, h⟩ := qv_bind h
    exact tlb_X10_cutAll_26 5000 a0 v21 0 H h
  · replace h := qv_neg c7 h
    obtain ⟨v12, H12, e12, h⟩ := qv_bind2 h
    have q_H12 := tl_X10_refuse e12
    obtain ⟨rfl, rfl⟩ := qv_pair h
    omega
theorem th_X10_cutAll {st : xT} {d : Nat} (hd : 3 ≤ d) {a0 : Nat} {a1 : Int32} {H : qx_H} {r : Int32} {H' : qx_H} (h : fm_X10_cutAll a0 a1 H = some (r, H')) : xE st d 109 [.ref a0, .int a1] H (some (.int r)) H' := by
  obtain ⟨d, rfl⟩ : ∃ d', d = d' + 1 := ⟨d - 1, by omega⟩
  exact xE_of (xe109 st) xl109 (Nat.le_of_ble_eq_true rfl) (ls := [some (.ref a0), some (.int a1), none, none, none, none]) rfl (tb_X10_cutAll_0 (by omega) ⟨rfl, rfl⟩ a0 a1 H h)
theorem tl_X10_cutAll {a0 : Nat} {a1 : Int32} {H : qx_H} {r : Int32} {H' : qx_H} (h : fm_X10_cutAll a0 a1 H = some (r, H')) : H'.length = H.length := tlb_X10_cutAll_0 a0 a1 H h
def fm_X10_judge_b26 : Nat → Nat → Nat → Int32 → qx_H → Option (Int32 × qx_H)
  | 0, _, _, _, _ => none
  | n + 1, l0, l3, l4, H => (hp_gI H l3 5 2).bind fun v29 => if v29 ≤ l4 then ((hp_gI H l3 5 2).bind fun v75 => some (v75, H)) else (if 31 ≤ l4 then (some (l4, H)) else ((hp_gR H l3 5 0).bind fun v43 => (hp_ald H v43 l4).bind fun v48 => (hp_gR H l0 8 0).bind fun v50 => (hp_gR H v50 4 0).bind fun v53 => (hp_gR H v53 3 4).bind fun v56 => (hp_ald H v56 l4).bind fun v61 => if v48 = v61 then (fm_X10_judge_b26 n l0 l3 (l4 + 1) H) else (some (l4, H))))
def fm_X10_judge (a0 : Nat) (a1 : Int32) (H : qx_H) : Option (Int32 × qx_H) := if hp_is H a0 8 = true then ((fm_X10_readingError a0 a1 H).bind fun v2 => if v2 = 0 then ((hp_gR H a0 8 8).bind fun v17 => (hp_ra H v17 a1).bind fun v21 => fm_X10_judge_b26 5000 a0 v21 0 H) else (ob2 (fm_X10_refuse a0 v2 H) fun v12 H12 => some (v12, H12))) else none
theorem tb_X10_judge_26 {st : xT} {d : Nat} {R : Option Value → qx_H → Prop} (hd : 2 ≤ d) {r : Int32} {H' : qx_H} (hR : R (some (.int r)) H') : ∀ (n : Nat) (l0 : Nat) (l3 : Nat) (l4 : Int32) (z1 : Option Value) (hz1 : qx_ns z1 = true) (z2 : Option Value) (hz2 : qx_ns z2 = true) (H : qx_H) (h : fm_X10_judge_b26 n l0 l3 l4 H = some (r, H')), qx_V (xE st d) R (xc110 st) (26, [some (.ref l0), z1, z2, some (.ref l3), some (.int l4)], [], H) := by
  intro n
  induction n with
  | zero => intro l0 l3 l4 z1 hz1 z2 hz2 H h; exact nomatch (show (none : Option (Int32 × qx_H)) = some (r, H') from h)
  | succ n ih =>
    intro l0 l3 l4 z1 hz1 z2 hz2 H h
    unfold fm_X10_judge_b26 at h
    refine qv_run 2 (σ := (29, [some (.ref l0), z1, z2, some (.ref l3), some (.int l4)], [.ref l3, .int l4], H)) rfl ?_
    obtain ⟨v29, e29, h⟩ := qv_bind h
    refine qv_getI rfl e29 ?_
    refine qv_br (c := v29 ≤ l4) (a := (74, [some (.ref l0), z1, z2, some (.ref l3), some (.int l4)], [], H)) (b := (35, [some (.ref l0), z1, z2, some (.ref l3), some (.int l4)], [], H)) 1 rfl (fun c32 => ?_) (fun c32 => ?_)
    · replace h := qv_pos c32 h
      refine qv_run 1 (σ := (75, [some (.ref l0), z1, z2, some (.ref l3), some (.int l4)], [.ref l3], H)) rfl ?_
      obtain ⟨v75, e75, h⟩ := qv_bind h
      refine qv_getI rfl e75 ?_
      obtain ⟨rfl, rfl⟩ := qv_pair h
      exact qv_reti rfl hR
    · replace h := qv_neg c32 h
      refine qv_br (c := 31 ≤ l4) (a := (65, [some (.ref l0), z1, z2, some (.ref l3), some (.int l4)], [], H)) (b := (42, [some (.ref l0), z1, z2, some (.ref l3), some (.int l4)], [], H)) 3 rfl (fun c39 => ?_) (fun c39 => ?_)
      · replace h := qv_pos c39 h
        refine qv_run 1 (σ := (67, [some (.ref l0), z1, z2, some (.ref l3), some (.int l4)], [.int l4], H)) rfl ?_
        obtain ⟨rfl, rfl⟩ := qv_pair h
        exact qv_reti rfl hR
      · replace h := qv_neg c39 h
        refine qv_run 1 (σ := (43, [some (.ref l0), z1, z2, some (.ref l3), some (.int l4)], [.ref l3], H)) rfl ?_
        obtain ⟨v43, e43, h⟩ := qv_bind h
        refine qv_getR rfl e43 ?_
        refine qv_run 1 (σ := (48, [some (.ref l0), z1, z2, some (.ref l3), some (.int l4)], [.int l4, .ref v43], H)) rfl ?_
        obtain ⟨v48, e48, h⟩ := qv_bind h
        refine qv_ald rfl e48 ?_
        refine qv_run 1 (σ := (50, [some (.ref l0), z1, z2, some (.ref l3), some (.int l4)], [.ref l0, .int v48], H)) rfl ?_
        obtain ⟨v50, e50, h⟩ := qv_bind h
        refine qv_getR rfl e50 ?_
        obtain ⟨v53, e53, h⟩ := qv_bind h
        refine qv_getR rfl e53 ?_
        obtain ⟨v56, e56, h⟩ := qv_bind h
        refine qv_getR rfl e56 ?_
        refine qv_run 1 (σ := (61, [some (.ref l0), z1, z2, some (.ref l3), some (.int l4)], [.int l4, .ref v56, .int v48], H)) rfl ?_
        obtain ⟨v61, e61, h⟩ := qv_bind h
        refine qv_ald rfl e61 ?_
        refine qv_br (c := v48 = v61) (a := (68, [some (.ref l0), z1, z2, some (.ref l3), some (.int l4)], [], H)) (b := (65, [some (.ref l0), z1, z2, some (.ref l3), some (.int l4)], [], H)) 1 rfl (fun c62 => ?_) (fun c62 => ?_)
        · replace h := qv_pos c62 h
          refine qv_run 2 (σ := (26, [some (.ref l0), z1, z2, some (.ref l3), some (.int (l4 + 1))], [], H)) rfl ?_
          exact ih l0 l3 (l4 + 1) z1 hz1 z2 hz2 H h
        · replace h := qv_neg c62 h
          refine qv_run 1 (σ := (67, [some (.ref l0), z1, z2, some (.ref l3), some (.int l4)], [.int l4], H)) rfl ?_
          obtain ⟨rfl, rfl⟩ := qv_pair h
          exact qv_reti rfl hR
theorem tlb_X10_judge_26 {r : Int32} {H' : qx_H} : ∀ (n : Nat) (l0 : Nat) (l3 : Nat) (l4 : Int32) (H : qx_H) (h : fm_X10_judge_b26 n l0 l3 l4 H = some (r, H')), H'.length = H.length := by
  intro n
  induction n with
  | zero => intro l0 l3 l4 H h; exact nomatch (show (none : Option (Int32 × qx_H)) = some (r, H') from h)
  | succ n ih =>
    intro l0 l3 l4 H h
    unfold fm_X10_judge_b26 at h
    obtain ⟨v29, e29, h⟩ := qv_bind h
    by_cases c32 : v29 ≤ l4
    · replace h := qv_pos c32 h
      obtain ⟨v75, e75, h⟩ := qv_bind h
      obtain ⟨rfl, rfl⟩ := qv_pair h
      rfl
    · replace h := qv_neg c32 h
      by_cases c39 : 31 ≤ l4
      · replace h := qv_pos c39 h
        obtain ⟨rfl, rfl⟩ := qv_pair h
        rfl
      · replace h := qv_neg c39 h
        obtain ⟨v43, e43, h⟩ := qv_bind h
        obtain ⟨v48, e48, h⟩ := qv_bind h
        obtain ⟨v50, e50, h⟩ := qv_bind h
        obtain ⟨v53, e53, h⟩ := qv_bind h
        obtain ⟨v56, e56, h⟩ := qv_bind h
        obtain ⟨v61, e61, h⟩ := qv_bind h
        by_cases c62 : v48 = v61
        · replace h := qv_pos c62 h
          exact ih l0 l3 (l4 + 1) H h
        · replace h := qv_neg c62 h
          obtain ⟨rfl, rfl⟩ := qv_pair h
          rfl
theorem tb_X10_judge_0 {st : xT} {d : Nat} {R : Option Value → qx_H → Prop} (hd : 2 ≤ d) {r : Int32} {H' : qx_H} (hR : R (some (.int r)) H') (a0 : Nat) (a1 : Int32) (H : qx_H) (h : fm_X10_judge a0 a1 H = some (r, H')) : qx_V (xE st d) R (xc110 st) (0, [some (.ref a0), some (.int a1), none, none, none], [], H) := by
  unfold fm_X10_judge at h
  refine qv_run 2 (σ := (2, [some (.ref a0), some (.int a1), none, none, none], [.int a1, .ref a0], H)) rfl ?_
  obtain ⟨g2, h⟩ := qv_guard h
  obtain ⟨v2, e2, h⟩ := qv_bind h
  refine qv_callV [.int a1] rfl rfl rfl (Nat.le_of_ble_eq_true rfl) g2 (th_X10_readingError (by omega) e2) rfl ?_
  refine qv_br (c := v2 = 0) (a := (16, [some (.ref a0), some (.int a1), some (.int v2), none, none], [], H)) (b := (10, [some (.ref a0), some (.int a1), some (.int v2), none, none], [], H)) 3 rfl (fun c7 => ?_) (fun c7 => ?_)
  · replace h := qv_pos c7 h
    refine qv_run 1 (σ := (17, [some (.ref a0), some (.int a1), some (.int v2), none, none], [.ref a0], H)) rfl ?_
    obtain ⟨v17, e17, h⟩ := qv_bind h
    refine qv_getR rfl e17 ?_
    refine qv_run 1 (σ := (21, [some (.ref a0), some (.int a1), some (.int v2), none, none], [.int a1, .ref v17], H)) rfl ?_
    obtain ⟨v21, e21, h⟩ := qv_bind h
    refine qv_ra rfl e21 ?_
    refine qv_run 3 (σ := (26, [some (.ref a0), some (.int a1), some (.int v2), some (.ref v21), some (.int 0)], [], H)) rfl ?_
    exact tb_X10_judge_26 hd hR 5000 a0 v21 0 (some (.int a1)) rfl (some (.int v2)) rfl H h
  · replace h := qv_neg c7 h
    refine qv_run 2 (σ := (12, [some (.ref a0), some (.int a1), some (.int v2), none, none], [.int v2, .ref a0], H)) rfl ?_
    obtain ⟨v12, H12, e12, h⟩ := qv_bind2 h
    refine qv_callV [.int v2] rfl rfl rfl (Nat.le_of_ble_eq_true rfl) g2 (th_X10_refuse (by omega) e12) (tl_X10_refuse e12) ?_
    obtain ⟨rfl, rfl⟩ := qv_pair h
    exact qv_reti rfl hR
theorem tlb_X10_judge_0 {r : Int32} {H' : qx_H} (a0 : Nat) (a1 : Int32) (H : qx_H) (h : fm_X10_judge a0 a1 H = some (r, H')) : H'.length = H.length := by
  unfold fm_X10_judge at h
  obtain ⟨g2, h⟩ := qv_guard h
  obtain ⟨v2, e2, h⟩ := qv_bind h
  by_cases c7 : v2 = 0
  · replace h := qv_pos c7 h
    obtain ⟨v17, e17, h⟩ := qv_bind h
    obtain ⟨v21, e21, h⟩ := qv_bind h
    exact tlb_X10_judge_26 5000 a0 v21 0 H h
  · replace h := qv_neg c7 h
    obtain ⟨v12, H12, e12, h⟩ := qv_bind2 h
    have q_H12 := tl_X10_refuse e12
    obtain ⟨rfl, rfl⟩ := qv_pair h
    omega
theorem th_X10_judge {st : xT} {d : Nat} (hd : 3 ≤ d) {a0 : Nat} {a1 : Int32} {H : qx_H} {r : Int32} {H' : qx_H} (h : fm_X10_judge a0 a1 H = some (r, H')) : xE st d 110 [.ref a0, .int a1] H (some (.int r)) H' := by
  obtain ⟨d, rfl⟩ : ∃ d', d = d' + 1 := ⟨d - 1, by omega⟩
  exact xE_of (xe110 st) xl110 (Nat.le_of_ble_eq_true rfl) (ls := [some (.ref a0), some (.int a1), none, none, none]) rfl (tb_X10_judge_0 (by omega) ⟨rfl, rfl⟩ a0 a1 H h)
theorem tl_X10_judge {a0 : Nat} {a1 : Int32} {H : qx_H} {r : Int32} {H' : qx_H} (h : fm_X10_judge a0 a1 H = some (r, H')) : H'.length = H.length := tlb_X10_judge_0 a0 a1 H h
def fm_X10_image (a0 : Nat) (H : qx_H) : Option (Int32 × qx_H) := (hp_gR H a0 8 1).bind fun v1 => (hp_gR H a0 8 0).bind fun v5 => if hp_is H v1 4 = true then ((fm_X6_become v1 v5 H).bind fun H8 => (hp_gI H8 a0 8 10).bind fun v13 => (hp_put H8 a0 8 10 (.int (v13 + 1))).bind fun H18 => (hp_gI H18 a0 8 10).bind fun v22 => some (v22, H18)) else none
theorem tb_X10_image_0 {st : xT} {d : Nat} {R : Option Value → qx_H → Prop} (hd : 3 ≤ d) {r : Int32} {H' : qx_H} (hR : R (some (.int r)) H') (a0 : Nat) (H : qx_H) (h : fm_X10_image a0 H = some (r, H')) : qx_V (xE st d) R (xc111 st) (0, [some (.ref a0)], [], H) := by
  unfold fm_X10_image at h
  refine qv_run 1 (σ := (1, [some (.ref a0)], [.ref a0], H)) rfl ?_
  obtain ⟨v1, e1, h⟩ := qv_bind h
  refine qv_getR rfl e1 ?_
  refine qv_run 1 (σ := (5, [some (.ref a0)], [.ref a0, .ref v1], H)) rfl ?_
  obtain ⟨v5, e5, h⟩ := qv_bind h
  refine qv_getR rfl e5 ?_
  obtain ⟨g8, h⟩ := qv_guard h
  obtain ⟨H8, e8, h⟩ := qv_bind h
  refine qv_callV [.ref v5] rfl rfl rfl (Nat.le_of_ble_eq_true rfl) g8 (th_X6_become (by omega) e8) (tl_X6_become e8) ?_
  refine qv_run 2 (σ := (13, [some (.ref a0)], [.ref a0, .ref a0], H8)) rfl ?_
  obtain ⟨v13, e13, h⟩ := qv_bind h
  refine qv_getI rfl e13 ?_
  refine qv_run 2 (σ := (18, [some (.ref a0)], [.int (v13 + 1), .ref a0], H8)) rfl ?_
  obtain ⟨H18, e18, h⟩ := qv_bind h
  refine qv_putI rfl e18 ?_
  refine qv_run 1 (σ := (22, [some (.ref a0)], [.ref a0], H18)) rfl ?_
  obtain ⟨v22, e22, h⟩ := qv_bind h
  refine qv_getI rfl e22 ?_
  obtain ⟨rfl, rfl⟩ := qv_pair h
  exact qv_reti rfl hR
theorem tlb_X10_image_0 {r : Int32} {H' : qx_H} (a0 : Nat) (H : qx_H) (h : fm_X10_image a0 H = some (r, H')) : H'.length = H.length := by
  unfold fm_X10_image at h
  obtain ⟨v1, e1, h⟩ := qv_bind h
  obtain ⟨v5, e5, h⟩ := qv_bind h
  obtain ⟨g8, h⟩ := qv_guard h
  obtain ⟨H8, e8, h⟩ := qv_bind h
  have q_H8 := tl_X6_become e8
  obtain ⟨v13, e13, h⟩ := qv_bind h
  obtain ⟨H18, e18, h⟩ := qv_bind h
  have q_H18 := hp_put_len e18
  obtain ⟨v22, e22, h⟩ := qv_bind h
  obtain ⟨rfl, rfl⟩ := qv_pair h
  omega
theorem th_X10_image {st : xT} {d : Nat} (hd : 4 ≤ d) {a0 : Nat} {H : qx_H} {r : Int32} {H' : qx_H} (h : fm_X10_image a0 H = some (r, H')) : xE st d 111 [.ref a0] H (some (.int r)) H' := by
  obtain ⟨d, rfl⟩ : ∃ d', d = d' + 1 := ⟨d - 1, by omega⟩
  exact xE_of (xe111 st) xl111 (Nat.le_of_ble_eq_true rfl) (ls := [some (.ref a0)]) rfl (tb_X10_image_0 (by omega) ⟨rfl, rfl⟩ a0 H h)
theorem tl_X10_image {a0 : Nat} {H : qx_H} {r : Int32} {H' : qx_H} (h : fm_X10_image a0 H = some (r, H')) : H'.length = H.length := tlb_X10_image_0 a0 H h
def fm_X10_restore (a0 : Nat) (H : qx_H) : Option (Int32 × qx_H) := (hp_gI H a0 8 10).bind fun v1 => if v1 = 0 then (if hp_is H a0 8 = true then (ob2 (fm_X10_refuse a0 (-1000000002) H) fun v10 H10 => some (v10, H10)) else none) else ((hp_gR H a0 8 0).bind fun v15 => (hp_gR H a0 8 1).bind fun v19 => if hp_is H v15 4 = true then ((fm_X6_become v15 v19 H).bind fun H22 => (hp_gR H22 a0 8 0).bind fun v26 => (hp_gR H22 v26 4 0).bind fun v29 => (hp_gI H22 v29 3 10).bind fun v32 => some (v32, H22)) else none)
theorem tb_X10_restore_0 {st : xT} {d : Nat} {R : Option Value → qx_H → Prop} (hd : 3 ≤ d) {r : Int32} {H' : qx_H} (hR : R (some (.int r)) H') (a0 : Nat) (H : qx_H) (h : fm_X10_restore a0 H = some (r, H')) : qx_V (xE st d) R (xc112 st) (0, [some (.ref a0)], [], H) := by
  unfold fm_X10_restore at h
  refine qv_run 1 (σ := (1, [some (.ref a0)], [.ref a0], H)) rfl ?_
  obtain ⟨v1, e1, h⟩ := qv_bind h
  refine qv_getI rfl e1 ?_
  refine qv_br (c := v1 = 0) (a := (7, [some (.ref a0)], [], H)) (b := (14, [some (.ref a0)], [], H)) 1 rfl (fun c4 => ?_) (fun c4 => ?_)
  · replace h := qv_pos c4 h
    refine qv_run 2 (σ := (10, [some (.ref a0)], [.int (-1000000002), .ref a0], H)) rfl ?_
    obtain ⟨g10, h⟩ := qv_guard h
    obtain ⟨v10, H10, e10, h⟩ := qv_bind2 h
    refine qv_callV [.int (-1000000002)] rfl rfl rfl (Nat.le_of_ble_eq_true rfl) g10 (th_X10_refuse (by omega) e10) (tl_X10_refuse e10) ?_
    obtain ⟨rfl, rfl⟩ := qv_pair h
    exact qv_reti rfl hR
  · replace h := qv_neg c4 h
    refine qv_run 1 (σ := (15, [some (.ref a0)], [.ref a0], H)) rfl ?_
    obtain ⟨v15, e15, h⟩ := qv_bind h
    refine qv_getR rfl e15 ?_
    refine qv_run 1 (σ := (19, [some (.ref a0)], [.ref a0, .ref v15], H)) rfl ?_
    obtain ⟨v19, e19, h⟩ := qv_bind h
    refine qv_getR rfl e19 ?_
    obtain ⟨g22, h⟩ := qv_guard h
    obtain ⟨H22, e22, h⟩ := qv_bind h
    refine qv_callV [.ref v19] rfl rfl rfl (Nat.le_of_ble_eq_true rfl) g22 (th_X6_become (by omega) e22) (tl_X6_become e22) ?_
    refine qv_run 1 (σ := (26, [some (.ref a0)], [.ref a0], H22)) rfl ?_
    obtain ⟨v26, e26, h⟩ := qv_bind h
    refine qv_getR rfl e26 ?_
    obtain ⟨v29, e29, h⟩ := qv_bind h
    refine qv_getR rfl e29 ?_
    obtain ⟨v32, e32, h⟩ := qv_bind h
    refine qv_getI rfl e32 ?_
    obtain ⟨rfl, rfl⟩ := qv_pair h
    exact qv_reti rfl hR
theorem tlb_X10_restore_0 {r : Int32} {H' : qx_H} (a0 : Nat) (H : qx_H) (h : fm_X10_restore a0 H = some (r, H')) : H'.length = H.length := by
  unfold fm_X10_restore at h
  obtain ⟨v1, e1, h⟩ := qv_bind h
  by_cases c4 : v1 = 0
  · replace h := qv_pos c4 h
    obtain ⟨g10, h⟩ := qv_guard h
    obtain ⟨v10, H10, e10, h⟩ := qv_bind2 h
    have q_H10 := tl_X10_refuse e10
    obtain ⟨rfl, rfl⟩ := qv_pair h
    omega
  · replace h := qv_neg c4 h
    obtain ⟨v15, e15, h⟩ := qv_bind h
    obtain ⟨v19, e19, h⟩ := qv_bind h
    obtain ⟨g22, h⟩ := qv_guard h
    obtain ⟨H22, e22, h⟩ := qv_bind h
    have q_H22 := tl_X6_become e22
    obtain ⟨v26, e26, h⟩ := qv_bind h
    obtain ⟨v29, e29, h⟩ := qv_bind h
    obtain ⟨v32, e32, h⟩ := qv_bind h
    obtain ⟨rfl, rfl⟩ := qv_pair h
    omega
theorem th_X10_restore {st : xT} {d : Nat} (hd : 4 ≤ d) {a0 : Nat} {H : qx_H} {r : Int32} {H' : qx_H} (h : fm_X10_restore a0 H = some (r, H')) : xE st d 112 [.ref a0] H (some (.int r)) H' := by
  obtain ⟨d, rfl⟩ : ∃ d', d = d' + 1 := ⟨d - 1, by omega⟩
  exact xE_of (xe112 st) xl112 (Nat.le_of_ble_eq_true rfl) (ls := [some (.ref a0)]) rfl (tb_X10_restore_0 (by omega) ⟨rfl, rfl⟩ a0 H h)
theorem tl_X10_restore {a0 : Nat} {H : qx_H} {r : Int32} {H' : qx_H} (h : fm_X10_restore a0 H = some (r, H')) : H'.length = H.length := tlb_X10_restore_0 a0 H h
def fm_X10_tell (a0 : Nat) (a1 : Int32) (H : qx_H) : Option (Int32 × qx_H) := (hp_gR H a0 8 0).bind fun v1 => (hp_gI H v1 4 5).bind fun v4 => if v4 < 24 then ((hp_gR H a0 8 0).bind fun v20 => (hp_gR H v20 4 3).bind fun v23 => (hp_gR H a0 8 0).bind fun v27 => (hp_gI H v27 4 5).bind fun v30 => (hp_ast H v23 v30 a1).bind fun H34 => (hp_gR H34 a0 8 0).bind fun v36 => (hp_gI H34 v36 4 5).bind fun v40 => (hp_put H34 v36 4 5 (.int (v40 + 1))).bind fun H45 => (hp_gR H45 a0 8 0).bind fun v49 => (hp_gI H45 v49 4 5).bind fun v52 => some (v52, H45)) else (if hp_is H a0 8 = true then (ob2 (fm_X10_refuse a0 (-1000000004) H) fun v15 H15 => some (v15, H15)) else none)
theorem tb_X10_tell_0 {st : xT} {d : Nat} {R : Option Value → qx_H → Prop} (hd : 2 ≤ d) {r : Int32} {H' : qx_H} (hR : R (some (.int r)) H') (a0 : Nat) (a1 : Int32) (H : qx_H) (h : fm_X10_tell a0 a1 H = some (r, H')) : qx_V (xE st d) R (xc113 st) (0, [some (.ref a0), some (.int a1)], [], H) := by
  unfold fm_X10_tell at h
  refine qv_run 1 (σ := (1, [some (.ref a0), some (.int a1)], [.ref a0], H)) rfl ?_
  obtain ⟨v1, e1, h⟩ := qv_bind h
  refine qv_getR rfl e1 ?_
  obtain ⟨v4, e4, h⟩ := qv_bind h
  refine qv_getI rfl e4 ?_
  refine qv_br (c := v4 < 24) (a := (19, [some (.ref a0), some (.int a1)], [], H)) (b := (12, [some (.ref a0), some (.int a1)], [], H)) 2 rfl (fun c9 => ?_) (fun c9 => ?_)
  · replace h := qv_pos c9 h
    refine qv_run 1 (σ := (20, [some (.ref a0), some (.int a1)], [.ref a0], H)) rfl ?_
    obtain ⟨v20, e20, h⟩ := qv_bind h
    refine qv_getR rfl e20 ?_
    obtain ⟨v23, e23, h⟩ := qv_bind h
    refine qv_getR rfl e23 ?_
    refine qv_run 1 (σ := (27, [some (.ref a0), some (.int a1)], [.ref a0, .ref v23], H)) rfl ?_
    obtain ⟨v27, e27, h⟩ := qv_bind h
    refine qv_getR rfl e27 ?_
    obtain ⟨v30, e30, h⟩ := qv_bind h
    refine qv_getI rfl e30 ?_
    refine qv_run 1 (σ := (34, [some (.ref a0), some (.int a1)], [.int a1, .int v30, .ref v23], H)) rfl ?_
    obtain ⟨H34, e34, h⟩ := qv_bind h
    refine qv_ast rfl e34 ?_
    refine qv_run 1 (σ := (36, [some (.ref a0), some (.int a1)], [.ref a0], H34)) rfl ?_
    obtain ⟨v36, e36, h⟩ := qv_bind h
    refine qv_getR rfl e36 ?_
    refine qv_run 1 (σ := (40, [some (.ref a0), some (.int a1)], [.ref v36, .ref v36], H34)) rfl ?_
    obtain ⟨v40, e40, h⟩ := qv_bind h
    refine qv_getI rfl e40 ?_
    refine qv_run 2 (σ := (45, [some (.ref a0), some (.int a1)], [.int (v40 + 1), .ref v36], H34)) rfl ?_
    obtain ⟨H45, e45, h⟩ := qv_bind h
    refine qv_putI rfl e45 ?_
    refine qv_run 1 (σ := (49, [some (.ref a0), some (.int a1)], [.ref a0], H45)) rfl ?_
    obtain ⟨v49, e49, h⟩ := qv_bind h
    refine qv_getR rfl e49 ?_
    obtain ⟨v52, e52, h⟩ := qv_bind h
    refine qv_getI rfl e52 ?_
    obtain ⟨rfl, rfl⟩ := qv_pair h
    exact qv_reti rfl hR
  · replace h := qv_neg c9 h
    refine qv_run 2 (σ := (15, [some (.ref a0), some (.int a1)], [.int (-1000000004), .ref a0], H)) rfl ?_
    obtain ⟨g15, h⟩ := qv_guard h
    obtain ⟨v15, H15, e15, h⟩ := qv_bind2 h
    refine qv_callV [.int (-1000000004)] rfl rfl rfl (Nat.le_of_ble_eq_true rfl) g15 (th_X10_refuse (by omega) e15) (tl_X10_refuse e15) ?_
    obtain ⟨rfl, rfl⟩ := qv_pair h
    exact qv_reti rfl hR
theorem tlb_X10_tell_0 {r : Int32} {H' : qx_H} (a0 : Nat) (a1 : Int32) (H : qx_H) (h : fm_X10_tell a0 a1 H = some (r, H')) : H'.length = H.length := by
  unfold fm_X10_tell at h
  obtain ⟨v1, e1, h⟩ := qv_bind h
  obtain ⟨v4, e4, h⟩ := qv_bind h
  by_cases c9 : v4 < 24
  · replace h := qv_pos c9 h
    obtain ⟨v20, e20, h⟩ := qv_bind h
    obtain ⟨v23, e23, h⟩ := qv_bind h
    obtain ⟨v27, e27, h⟩ := qv_bind h
    obtain ⟨v30, e30, h⟩ := qv_bind h
    obtain ⟨H34, e34, h⟩ := qv_bind h
    have q_H34 := hp_ast_len e34
    obtain ⟨v36, e36, h⟩ := qv_bind h
    obtain ⟨v40, e40, h⟩ := qv_bind h
    obtain ⟨H45, e45, h⟩ := qv_bind h
    have q_H45 := hp_put_len e45
    obtain ⟨v49, e49, h⟩ := qv_bind h
    obtain ⟨v52, e52, h⟩ := qv_bind h
    obtain ⟨rfl, rfl⟩ := qv_pair h
    omega
  · replace h := qv_neg c9 h
    obtain ⟨g15, h⟩ := qv_guard h
    obtain ⟨v15, H15, e15, h⟩ := qv_bind2 h
    have q_H15 := tl_X10_refuse e15
    obtain ⟨rfl, rfl⟩ := qv_pair h
    omega
theorem th_X10_tell {st : xT} {d : Nat} (hd : 3 ≤ d) {a0 : Nat} {a1 : Int32} {H : qx_H} {r : Int32} {H' : qx_H} (h : fm_X10_tell a0 a1 H = some (r, H')) : xE st d 113 [.ref a0, .int a1] H (some (.int r)) H' := by
  obtain ⟨d, rfl⟩ : ∃ d', d = d' + 1 := ⟨d - 1, by omega⟩
  exact xE_of (xe113 st) xl113 (Nat.le_of_ble_eq_true rfl) (ls := [some (.ref a0), some (.int a1)]) rfl (tb_X10_tell_0 (by omega) ⟨rfl, rfl⟩ a0 a1 H h)
theorem tl_X10_tell {a0 : Nat} {a1 : Int32} {H : qx_H} {r : Int32} {H' : qx_H} (h : fm_X10_tell a0 a1 H = some (r, H')) : H'.length = H.length := tlb_X10_tell_0 a0 a1 H h
def fm_X10_check_b32 : Nat → Nat → Int32 → Int32 → qx_H → Option (Int32 × qx_H)
  | 0, _, _, _, _ => none
  | n + 1, l0, l1, l2, H => if l1 ≤ l2 then (some (0, H)) else ((hp_gR H l0 8 2).bind fun v38 => if hp_is H v38 3 = true then ((fm_X5_passDay v38 H).bind fun H41 => (hp_gR H41 l0 8 0).bind fun v45 => (hp_gR H41 v45 4 3).bind fun v48 => (hp_ald H41 v48 l2).bind fun v52 => (hp_gR H41 l0 8 2).bind fun v54 => if hp_is H41 v54 3 = true then ((fm_X5_missingThreads v54 H41).bind fun v57 => if v52 = v57 then (fm_X10_check_b32 n l0 l1 (l2 + 1) H41) else (some (1 + l2, H41))) else none) else none)
def fm_X10_check (a0 : Nat) (H : qx_H) : Option (Int32 × qx_H) := (hp_gR H a0 8 0).bind fun v1 => (hp_gI H v1 4 5).bind fun v4 => (hp_gR H a0 8 0).bind fun v9 => (hp_put H v9 4 5 (.int 0)).bind fun H13 => (hp_gR H13 a0 8 2).bind fun v17 => (hp_gR H13 a0 8 0).bind fun v21 => (hp_gR H13 v21 4 0).bind fun v24 => if hp_is H13 v17 3 = true then ((fm_X5_become v17 v24 H13).bind fun H27 => fm_X10_check_b32 5000 a0 v4 0 H27) else none
theorem tb_X10_check_32 {st : xT} {d : Nat} {R : Option Value → qx_H → Prop} (hd : 4 ≤ d) {r : Int32} {H' : qx_H} (hR : R (some (.int r)) H') : ∀ (n : Nat) (l0 : Nat) (l1 : Int32) (l2 : Int32) (H : qx_H) (h : fm_X10_check_b32 n l0 l1 l2 H = some (r, H')), qx_V (xE st d) R (xc114 st) (32, [some (.ref l0), some (.int l1), some (.int l2)], [], H) := by
  intro n
  induction n with
  | zero => intro l0 l1 l2 H h; exact nomatch (show (none : Option (Int32 × qx_H)) = some (r, H') from h)
  | succ n ih =>
    intro l0 l1 l2 H h
    unfold fm_X10_check_b32 at h
    refine qv_br (c := l1 ≤ l2) (a := (73, [some (.ref l0), some (.int l1), some (.int l2)], [], H)) (b := (37, [some (.ref l0), some (.int l1), some (.int l2)], [], H)) 3 rfl (fun c34 => ?_) (fun c34 => ?_)
    · replace h := qv_pos c34 h
      refine qv_run 1 (σ := (74, [some (.ref l0), some (.int l1), some (.int l2)], [.int 0], H)) rfl ?_
      obtain ⟨rfl, rfl⟩ := qv_pair h
      exact qv_reti rfl hR
    · replace h := qv_neg c34 h
      refine qv_run 1 (σ := (38, [some (.ref l0), some (.int l1), some (.int l2)], [.ref l0], H)) rfl ?_
      obtain ⟨v38, e38, h⟩ := qv_bind h
      refine qv_getR rfl e38 ?_
      obtain ⟨g41, h⟩ := qv_guard h
      obtain ⟨H41, e41, h⟩ := qv_bind h
      refine qv_callV [] rfl rfl rfl (Nat.le_of_ble_eq_true rfl) g41 (th_X5_passDay (by omega) e41) (tl_X5_passDay e41) ?_
      refine qv_run 1 (σ := (45, [some (.ref l0), some (.int l1), some (.int l2)], [.ref l0], H41)) rfl ?_
      obtain ⟨v45, e45, h⟩ := qv_bind h
      refine qv_getR rfl e45 ?_
      obtain ⟨v48, e48, h⟩ := qv_bind h
      refine qv_getR rfl e48 ?_
      refine qv_run 1 (σ := (52, [some (.ref l0), some (.int l1), some (.int l2)], [.int l2, .ref v48], H41)) rfl ?_
      obtain ⟨v52, e52, h⟩ := qv_bind h
      refine qv_ald rfl e52 ?_
      refine qv_run 1 (σ := (54, [some (.ref l0), some (.int l1), some (.int l2)], [.ref l0, .int v52], H41)) rfl ?_
      obtain ⟨v54, e54, h⟩ := qv_bind h
      refine qv_getR rfl e54 ?_
      obtain ⟨g57, h⟩ := qv_guard h
      obtain ⟨v57, e57, h⟩ := qv_bind h
      refine qv_callV [] rfl rfl rfl (Nat.le_of_ble_eq_true rfl) g57 (th_X5_missingThreads (by omega) e57) rfl ?_
      refine qv_br (c := v52 = v57) (a := (67, [some (.ref l0), some (.int l1), some (.int l2)], [], H41)) (b := (63, [some (.ref l0), some (.int l1), some (.int l2)], [], H41)) 1 rfl (fun c60 => ?_) (fun c60 => ?_)
      · replace h := qv_pos c60 h
        refine qv_run 2 (σ := (32, [some (.ref l0), some (.int l1), some (.int (l2 + 1))], [], H41)) rfl ?_
        exact ih l0 l1 (l2 + 1) H41 h
      · replace h := qv_neg c60 h
        refine qv_run 3 (σ := (66, [some (.ref l0), some (.int l1), some (.int l2)], [.int (1 + l2)], H41)) rfl ?_
        obtain ⟨rfl, rfl⟩ := qv_pair h
        exact qv_reti rfl hR
theorem tlb_X10_check_32 {r : Int32} {H' : qx_H} : ∀ (n : Nat) (l0 : Nat) (l1 : Int32) (l2 : Int32) (H : qx_H) (h : fm_X10_check_b32 n l0 l1 l2 H = some (r, H')), H'.length = H.length := by
  intro n
  induction n with
  | zero => intro l0 l1 l2 H h; exact nomatch (show (none : Option (Int32 × qx_H)) = some (r, H') from h)
  | succ n ih =>
    intro l0 l1 l2 H h
    unfold fm_X10_check_b32 at h
    by_cases c34 : l1 ≤ l2
    · replace h := qv_pos c34 h
      obtain ⟨rfl, rfl⟩ := qv_pair h
      rfl
    · replace h := qv_neg c34 h
      obtain ⟨v38, e38, h⟩ := qv_bind h
      obtain ⟨g41, h⟩ := qv_guard h
      obtain ⟨H41, e41, h⟩ := qv_bind h
      have q_H41 := tl_X5_passDay e41
      obtain ⟨v45, e45, h⟩ := qv_bind h
      obtain ⟨v48, e48, h⟩ := qv_bind h
      obtain ⟨v52, e52, h⟩ := qv_bind h
      obtain ⟨v54, e54, h⟩ := qv_bind h
      obtain ⟨g57, h⟩ := qv_guard h
      obtain ⟨v57, e57, h⟩ := qv_bind h
      by_cases c60 : v52 = v57
      · replace h := qv_pos c60 h
        have q_end := ih l0 l1 (l2 + 1) H41 h
        omega
      · replace h := qv_neg c60 h
        obtain ⟨rfl, rfl⟩ := qv_pair h
        omega
theorem tb_X10_check_0 {st : xT} {d : Nat} {R : Option Value → qx_H → Prop} (hd : 4 ≤ d) {r : Int32} {H' : qx_H} (hR : R (some (.int r)) H') (a0 : Nat) (H : qx_H) (h : fm_X10_check a0 H = some (r, H')) : qx_V (xE st d) R (xc114 st) (0, [some (.ref a0), none, none], [], H) := by
  unfold fm_X10_check at h
  refine qv_run 1 (σ := (1, [some (.ref a0), none, none], [.ref a0], H)) rfl ?_
  obtain ⟨v1, e1, h⟩ := qv_bind h
  refine qv_getR rfl e1 ?_
  obtain ⟨v4, e4, h⟩ := qv_bind h
  refine qv_getI rfl e4 ?_
  refine qv_run 2 (σ := (9, [some (.ref a0), some (.int v4), none], [.ref a0], H)) rfl ?_
  obtain ⟨v9, e9, h⟩ := qv_bind h
  refine qv_getR rfl e9 ?_
  refine qv_run 1 (σ := (13, [some (.ref a0), some (.int v4), none], [.int 0, .ref v9], H)) rfl ?_
  obtain ⟨H13, e13, h⟩ := qv_bind h
  refine qv_putI rfl e13 ?_
  refine qv_run 1 (σ := (17, [some (.ref a0), some (.int v4), none], [.ref a0], H13)) rfl ?_
  obtain ⟨v17, e17, h⟩ := qv_bind h
  refine qv_getR rfl e17 ?_
  refine qv_run 1 (σ := (21, [some (.ref a0), some (.int v4), none], [.ref a0, .ref v17], H13)) rfl ?_
  obtain ⟨v21, e21, h⟩ := qv_bind h
  refine qv_getR rfl e21 ?_
  obtain ⟨v24, e24, h⟩ := qv_bind h
  refine qv_getR rfl e24 ?_
  obtain ⟨g27, h⟩ := qv_guard h
  obtain ⟨H27, e27, h⟩ := qv_bind h
  refine qv_callV [.ref v24] rfl rfl rfl (Nat.le_of_ble_eq_true rfl) g27 (th_X5_become (by omega) e27) (tl_X5_become e27) ?_
  refine qv_run 2 (σ := (32, [some (.ref a0), some (.int v4), some (.int 0)], [], H27)) rfl ?_
  exact tb_X10_check_32 hd hR 5000 a0 v4 0 H27 h
theorem tlb_X10_check_0 {r : Int32} {H' : qx_H} (a0 : Nat) (H : qx_H) (h : fm_X10_check a0 H = some (r, H')) : H'.length = H.length := by
  unfold fm_X10_check at h
  obtain ⟨v1, e1, h⟩ := qv_bind h
  obtain ⟨v4, e4, h⟩ := qv_bind h
  obtain ⟨v9, e9, h⟩ := qv_bind h
  obtain ⟨H13, e13, h⟩ := qv_bind h
  have q_H13 := hp_put_len e13
  obtain ⟨v17, e17, h⟩ := qv_bind h
  obtain ⟨v21, e21, h⟩ := qv_bind h
  obtain ⟨v24, e24, h⟩ := qv_bind h
  obtain ⟨g27, h⟩ := qv_guard h
  obtain ⟨H27, e27, h⟩ := qv_bind h
  have q_H27 := tl_X5_become e27
  have q_end := tlb_X10_check_32 5000 a0 v4 0 H27 h
  omega
theorem th_X10_check {st : xT} {d : Nat} (hd : 5 ≤ d) {a0 : Nat} {H : qx_H} {r : Int32} {H' : qx_H} (h : fm_X10_check a0 H = some (r, H')) : xE st d 114 [.ref a0] H (some (.int r)) H' := by
  obtain ⟨d, rfl⟩ : ∃ d', d = d' + 1 := ⟨d - 1, by omega⟩
  exact xE_of (xe114 st) xl114 (Nat.le_of_ble_eq_true rfl) (ls := [some (.ref a0), none, none]) rfl (tb_X10_check_0 (by omega) ⟨rfl, rfl⟩ a0 H h)
theorem tl_X10_check {a0 : Nat} {H : qx_H} {r : Int32} {H' : qx_H} (h : fm_X10_check a0 H = some (r, H')) : H'.length = H.length := tlb_X10_check_0 a0 H h
def fm_X10_count (a0 : Nat) (a1 : Int32) (H : qx_H) : Option (Int32 × qx_H) := if a1 = 0 then ((hp_gR H a0 8 0).bind fun v53 => (hp_gR H v53 4 0).bind fun v56 => (hp_gI H v56 3 10).bind fun v59 => some (v59, H)) else if a1 = 1 then ((hp_gR H a0 8 0).bind fun v64 => (hp_gR H v64 4 0).bind fun v67 => if hp_is H v67 3 = true then ((fm_X5_missingThreads v67 H).bind fun v70 => some (v70, H)) else none) else if a1 = 2 then ((hp_gR H a0 8 0).bind fun v75 => (hp_gR H v75 4 0).bind fun v78 => if hp_is H v78 3 = true then ((fm_X5_firstThreads v78 H).bind fun v81 => some (v81, H)) else none) else if a1 = 3 then ((hp_gR H a0 8 0).bind fun v86 => (hp_gI H v86 4 6).bind fun v89 => some (v89, H)) else if a1 = 4 then ((hp_gR H a0 8 0).bind fun v94 => (hp_gR H v94 4 0).bind fun v97 => if hp_is H v97 3 = true then ((fm_X5_wornInAll v97 H).bind fun v100 => some (v100, H)) else none) else if a1 = 5 then ((hp_gR H a0 8 0).bind fun v105 => (hp_gI H v105 4 4).bind fun v108 => some (v108, H)) else if a1 = 6 then ((hp_gR H a0 8 0).bind fun v113 => (hp_gI H v113 4 5).bind fun v116 => some (v116, H)) else if a1 = 7 then ((hp_gR H a0 8 7).bind fun v121 => (hp_gI H v121 7 1).bind fun v124 => some (v124, H)) else if a1 = 8 then ((hp_gR H a0 8 0).bind fun v129 => (hp_gI H v129 4 7).bind fun v132 => some (v132, H)) else (if (fm_X10_isWithin a1 9 11) = 0 then (if hp_is H a0 8 = true then (ob2 (fm_X10_refuse a0 (-1000000001) H) fun v165 H165 => some (v165, H165)) else none) else ((hp_gR H a0 8 0).bind fun v148 => (hp_gR H v148 4 1).bind fun v151 => (hp_ald H v151 (a1 - 9)).bind fun v158 => some (v158, H)))
theorem tb_X10_count_0 {st : xT} {d : Nat} {R : Option Value → qx_H → Prop} (hd : 2 ≤ d) {r : Int32} {H' : qx_H} (hR : R (some (.int r)) H') (a0 : Nat) (a1 : Int32) (H : qx_H) (h : fm_X10_count a0 a1 H = some (r, H')) : qx_V (xE st d) R (xc115 st) (0, [some (.ref a0), some (.int a1)], [], H) := by
  unfold fm_X10_count at h
  refine qv_run 2 (σ := (qx_swt a1 136 [(0, 52), (1, 63), (2, 74), (3, 85), (4, 93), (5, 104), (6, 112), (7, 120), (8, 128)], [some (.ref a0), some (.int a1)], [], H)) rfl ?_
  refine qv_swt (fun c1_0 => ?_) (fun c1_0 => ?_)
  · replace h := qv_pos c1_0 h
    refine qv_run 1 (σ := (53, [some (.ref a0), some (.int a1)], [.ref a0], H)) rfl ?_
    obtain ⟨v53, e53, h⟩ := qv_bind h
    refine qv_getR rfl e53 ?_
    obtain ⟨v56, e56, h⟩ := qv_bind h
    refine qv_getR rfl e56 ?_
    obtain ⟨v59, e59, h⟩ := qv_bind h
    refine qv_getI rfl e59 ?_
    obtain ⟨rfl, rfl⟩ := qv_pair h
    exact qv_reti rfl hR
  · replace h := qv_neg c1_0 h
    refine qv_swt (fun c1_1 => ?_) (fun c1_1 => ?_)
    · replace h := qv_pos c1_1 h
      refine qv_run 1 (σ := (64, [some (.ref a0), some (.int a1)], [.ref a0], H)) rfl ?_
      obtain ⟨v64, e64, h⟩ := qv_bind h
      refine qv_getR rfl e64 ?_
      obtain ⟨v67, e67, h⟩ := qv_bind h
      refine qv_getR rfl e67 ?_
      obtain ⟨g70, h⟩ := qv_guard h
      obtain ⟨v70, e70, h⟩ := qv_bind h
      refine qv_callV [] rfl rfl rfl (Nat.le_of_ble_eq_true rfl) g70 (th_X5_missingThreads (by omega) e70) rfl ?_
      obtain ⟨rfl, rfl⟩ := qv_pair h
      exact qv_reti rfl hR
    · replace h := qv_neg c1_1 h
      refine qv_swt (fun c1_2 => ?_) (fun c1_2 => ?_)
      · replace h := qv_pos c1_2 h
        refine qv_run 1 (σ := (75, [some (.ref a0), some (.int a1)], [.ref a0], H)) rfl ?_
        obtain ⟨v75, e75, h⟩ := qv_bind h
        refine qv_getR rfl e75 ?_
        obtain ⟨v78, e78, h⟩ := qv_bind h
        refine qv_getR rfl e78 ?_
        obtain ⟨g81, h⟩ := qv_guard h
        obtain ⟨v81, e81, h⟩ := qv_bind h
        refine qv_callV [] rfl rfl rfl (Nat.le_of_ble_eq_true rfl) g81 (th_X5_firstThreads (by omega) e81) rfl ?_
        obtain ⟨rfl, rfl⟩ := qv_pair h
        exact qv_reti rfl hR
      · replace h := qv_neg c1_2 h
        refine qv_swt (fun c1_3 => ?_) (fun c1_3 => ?_)
        · replace h := qv_pos c1_3 h
          refine qv_run 1 (σ := (86, [some (.ref a0), some (.int a1)], [.ref a0], H)) rfl ?_
          obtain ⟨v86, e86, h⟩ := qv_bind h
          refine qv_getR rfl e86 ?_
          obtain ⟨v89, e89, h⟩ := qv_bind h
          refine qv_getI rfl e89 ?_
          obtain ⟨rfl, rfl⟩ := qv_pair h
          exact qv_reti rfl hR
        · replace h := qv_neg c1_3 h
          refine qv_swt (fun c1_4 => ?_) (fun c1_4 => ?_)
          · replace h := qv_pos c1_4 h
            refine qv_run 1 (σ := (94, [some (.ref a0), some (.int a1)], [.ref a0], H)) rfl ?_
            obtain ⟨v94, e94, h⟩ := qv_bind h
            refine qv_getR rfl e94 ?_
            obtain ⟨v97, e97, h⟩ := qv_bind h
            refine qv_getR rfl e97 ?_
            obtain ⟨g100, h⟩ := qv_guard h
            obtain ⟨v100, e100, h⟩ := qv_bind h
            refine qv_callV [] rfl rfl rfl (Nat.le_of_ble_eq_true rfl) g100 (th_X5_wornInAll (by omega) e100) rfl ?_
            obtain ⟨rfl, rfl⟩ := qv_pair h
            exact qv_reti rfl hR
          · replace h := qv_neg c1_4 h
            refine qv_swt (fun c1_5 => ?_) (fun c1_5 => ?_)
            · replace h := qv_pos c1_5 h
              refine qv_run 1 (σ := (105, [some (.ref a0), some (.int a1)], [.ref a0], H)) rfl ?_
              obtain ⟨v105, e105, h⟩ := qv_bind h
              refine qv_getR rfl e105 ?_
              obtain ⟨v108, e108, h⟩ := qv_bind h
              refine qv_getI rfl e108 ?_
              obtain ⟨rfl, rfl⟩ := qv_pair h
              exact qv_reti rfl hR
            · replace h := qv_neg c1_5 h
              refine qv_swt (fun c1_6 => ?_) (fun c1_6 => ?_)
              · replace h := qv_pos c1_6 h
                refine qv_run 1 (σ := (113, [some (.ref a0), some (.int a1)], [.ref a0], H)) rfl ?_
                obtain ⟨v113, e113, h⟩ := qv_bind h
                refine qv_getR rfl e113 ?_
                obtain ⟨v116, e116, h⟩ := qv_bind h
                refine qv_getI rfl e116 ?_
                obtain ⟨rfl, rfl⟩ := qv_pair h
                exact qv_reti rfl hR
              · replace h := qv_neg c1_6 h
                refine qv_swt (fun c1_7 => ?_) (fun c1_7 => ?_)
                · replace h := qv_pos c1_7 h
                  refine qv_run 1 (σ := (121, [some (.ref a0), some (.int a1)], [.ref a0], H)) rfl ?_
                  obtain ⟨v121, e121, h⟩ := qv_bind h
                  refine qv_getR rfl e121 ?_
                  obtain ⟨v124, e124, h⟩ := qv_bind h
                  refine qv_getI rfl e124 ?_
                  obtain ⟨rfl, rfl⟩ := qv_pair h
                  exact qv_reti rfl hR
                · replace h := qv_neg c1_7 h
                  refine qv_swt (fun c1_8 => ?_) (fun c1_8 => ?_)
                  · replace h := qv_pos c1_8 h
                    refine qv_run 1 (σ := (129, [some (.ref a0), some (.int a1)], [.ref a0], H)) rfl ?_
                    obtain ⟨v129, e129, h⟩ := qv_bind h
                    refine qv_getR rfl e129 ?_
                    obtain ⟨v132, e132, h⟩ := qv_bind h
                    refine qv_getI rfl e132 ?_
                    obtain ⟨rfl, rfl⟩ := qv_pair h
                    exact qv_reti rfl hR
                  · replace h := qv_neg c1_8 h
                    refine qv_sw0 ?_
                    refine qv_run 3 (σ := (141, [some (.ref a0), some (.int a1)], [.int 11, .int 9, .int a1], H)) rfl ?_
                    refine qv_call [.int a1, .int 9, .int 11] rfl rfl rfl (Nat.le_of_ble_eq_true rfl) (th_X10_isWithin (by omega) rfl) rfl ?_
                    refine qv_br (c := (fm_X10_isWithin a1 9 11) = 0) (a := (162, [some (.ref a0), some (.int a1)], [], H)) (b := (147, [some (.ref a0), some (.int a1)], [], H)) 1 rfl (fun c144 => ?_) (fun c144 => ?_)
                    · replace h := qv_pos c144 h
                      refine qv_run 2 (σ := (165, [some (.ref a0), some (.int a1)], [.int (-1000000001), .ref a0], H)) rfl ?_
                      obtain ⟨g165, h⟩ := qv_guard h
                      obtain ⟨v165, H165, e165, h⟩ := qv_bind2 h
                      refine qv_callV [.int (-1000000001)] rfl rfl rfl (Nat.le_of_ble_eq_true rfl) g165 (th_X10_refuse (by omega) e165) (tl_X10_refuse e165) ?_
                      obtain ⟨rfl, rfl⟩ := qv_pair h
                      exact qv_reti rfl hR
                    · replace h := qv_neg c144 h
                      refine qv_run 1 (σ := (148, [some (.ref a0), some (.int a1)], [.ref a0], H)) rfl ?_
                      obtain ⟨v148, e148, h⟩ := qv_bind h
                      refine qv_getR rfl e148 ?_
                      obtain ⟨v151, e151, h⟩ := qv_bind h
                      refine qv_getR rfl e151 ?_
                      refine qv_run 3 (σ := (158, [some (.ref a0), some (.int a1)], [.int (a1 - 9), .ref v151], H)) rfl ?_
                      obtain ⟨v158, e158, h⟩ := qv_bind h
                      refine qv_ald rfl e158 ?_
                      refine qv_run 1 (σ := (168, [some (.ref a0), some (.int a1)], [.int v158], H)) rfl ?_
                      obtain ⟨rfl, rfl⟩ := qv_pair h
                      exact qv_reti rfl hR
theorem tlb_X10_count_0 {r : Int32} {H' : qx_H} (a0 : Nat) (a1 : Int32) (H : qx_H) (h : fm_X10_count a0 a1 H = some (r, H')) : H'.length = H.length := by
  unfold fm_X10_count at h
  by_cases c1_0 : a1 = 0
  · replace h := qv_pos c1_0 h
    obtain ⟨v53, e53, h⟩ := qv_bind h
    obtain ⟨v56, e56, h⟩ := qv_bind h
    obtain ⟨v59, e59, h⟩ := qv_bind h
    obtain ⟨rfl, rfl⟩ := qv_pair h
    rfl
  · replace h := qv_neg c1_0 h
    by_cases c1_1 : a1 = 1
    · replace h := qv_pos c1_1 h
      obtain ⟨v64, e64, h⟩ := qv_bind h
      obtain ⟨v67, e67, h⟩ := qv_bind h
      obtain ⟨g70, h⟩ := qv_guard h
      obtain ⟨v70, e70, h⟩ := qv_bind h
      obtain ⟨rfl, rfl⟩ := qv_pair h
      rfl
    · replace h := qv_neg c1_1 h
      by_cases c1_2 : a1 = 2
      · replace h := qv_pos c1_2 h
        obtain ⟨v75, e75, h⟩ := qv_bind h
        obtain ⟨v78, e78, h⟩ := qv_bind h
        obtain ⟨g81, h⟩ := qv_guard h
        obtain ⟨v81, e81, h⟩ := qv_bind h
        obtain ⟨rfl, rfl⟩ := qv_pair h
        rfl
      · replace h := qv_neg c1_2 h
        by_cases c1_3 : a1 = 3
        · replace h := qv_pos c1_3 h
          obtain ⟨v86, e86, h⟩ := qv_bind h
          obtain ⟨v89, e89, h⟩ := qv_bind h
          obtain ⟨rfl, rfl⟩ := qv_pair h
          rfl
        · replace h := qv_neg c1_3 h
          by_cases c1_4 : a1 = 4
          · replace h := qv_pos c1_4 h
            obtain ⟨v94, e94, h⟩ := qv_bind h
            obtain ⟨v97, e97, h⟩ := qv_bind h
            obtain ⟨g100, h⟩ := qv_guard h
            obtain ⟨v100, e100, h⟩ := qv_bind h
            obtain ⟨rfl, rfl⟩ := qv_pair h
            rfl
          · replace h := qv_neg c1_4 h
            by_cases c1_5 : a1 = 5
            · replace h := qv_pos c1_5 h
              obtain ⟨v105, e105, h⟩ := qv_bind h
              obtain ⟨v108, e108, h⟩ := qv_bind h
              obtain ⟨rfl, rfl⟩ := qv_pair h
              rfl
            · replace h := qv_neg c1_5 h
              by_cases c1_6 : a1 = 6
              · replace h := qv_pos c1_6 h
                obtain ⟨v113, e113, h⟩ := qv_bind h
                obtain ⟨v116, e116, h⟩ := qv_bind h
                obtain ⟨rfl, rfl⟩ := qv_pair h
                rfl
              · replace h := qv_neg c1_6 h
                by_cases c1_7 : a1 = 7
                · replace h := qv_pos c1_7 h
                  obtain ⟨v121, e121, h⟩ := qv_bind h
                  obtain ⟨v124, e124, h⟩ := qv_bind h
                  obtain ⟨rfl, rfl⟩ := qv_pair h
                  rfl
                · replace h := qv_neg c1_7 h
                  by_cases c1_8 : a1 = 8
                  · replace h := qv_pos c1_8 h
                    obtain ⟨v129, e129, h⟩ := qv_bind h
                    obtain ⟨v132, e132, h⟩ := qv_bind h
                    obtain ⟨rfl, rfl⟩ := qv_pair h
                    rfl
                  · replace h := qv_neg c1_8 h
                    by_cases c144 : (fm_X10_isWithin a1 9 11) = 0
                    · replace h := qv_pos c144 h
                      obtain ⟨g165, h⟩ := qv_guard h
                      obtain ⟨v165, H165, e165, h⟩ := qv_bind2 h
                      have q_H165 := tl_X10_refuse e165
                      obtain ⟨rfl, rfl⟩ := qv_pair h
                      omega
                    · replace h := qv_neg c144 h
                      obtain ⟨v148, e148, h⟩ := qv_bind h
                      obtain ⟨v151, e151, h⟩ := qv_bind h
                      obtain ⟨v158, e158, h⟩ := qv_bind h
                      obtain ⟨rfl, rfl⟩ := qv_pair h
                      rfl
theorem th_X10_count {st : xT} {d : Nat} (hd : 3 ≤ d) {a0 : Nat} {a1 : Int32} {H : qx_H} {r : Int32} {H' : qx_H} (h : fm_X10_count a0 a1 H = some (r, H')) : xE st d 115 [.ref a0, .int a1] H (some (.int r)) H' := by
  obtain ⟨d, rfl⟩ : ∃ d', d = d' + 1 := ⟨d - 1, by omega⟩
  exact xE_of (xe115 st) xl115 (Nat.le_of_ble_eq_true rfl) (ls := [some (.ref a0), some (.int a1)]) rfl (tb_X10_count_0 (by omega) ⟨rfl, rfl⟩ a0 a1 H h)
theorem tl_X10_count {a0 : Nat} {a1 : Int32} {H : qx_H} {r : Int32} {H' : qx_H} (h : fm_X10_count a0 a1 H = some (r, H')) : H'.length = H.length := tlb_X10_count_0 a0 a1 H h
def fm_X10_told (a0 : Nat) (a1 : Int32) (H : qx_H) : Option (Int32 × qx_H) := if (fm_X10_isWithin a1 1 6) = 0 then (if hp_is H a0 8 = true then (ob2 (fm_X10_refuse a0 (-1000000001) H) fun v13 H13 => some (v13, H13)) else none) else ((hp_gR H a0 8 9).bind fun v18 => (hp_ald H v18 a1).bind fun v22 => some (v22, H))
theorem tb_X10_told_0 {st : xT} {d : Nat} {R : Option Value → qx_H → Prop} (hd : 2 ≤ d) {r : Int32} {H' : qx_H} (hR : R (some (.int r)) H') (a0 : Nat) (a1 : Int32) (H : qx_H) (h : fm_X10_told a0 a1 H = some (r, H')) : qx_V (xE st d) R (xc116 st) (0, [some (.ref a0), some (.int a1)], [], H) := by
  unfold fm_X10_told at h
  refine qv_run 3 (σ := (4, [some (.ref a0), some (.int a1)], [.int 6, .int 1, .int a1], H)) rfl ?_
  refine qv_call [.int a1, .int 1, .int 6] rfl rfl rfl (Nat.le_of_ble_eq_true rfl) (th_X10_isWithin (by omega) rfl) rfl ?_
  refine qv_br (c := (fm_X10_isWithin a1 1 6) = 0) (a := (10, [some (.ref a0), some (.int a1)], [], H)) (b := (17, [some (.ref a0), some (.int a1)], [], H)) 1 rfl (fun c7 => ?_) (fun c7 => ?_)
  · replace h := qv_pos c7 h
    refine qv_run 2 (σ := (13, [some (.ref a0), some (.int a1)], [.int (-1000000001), .ref a0], H)) rfl ?_
    obtain ⟨g13, h⟩ := qv_guard h
    obtain ⟨v13, H13, e13, h⟩ := qv_bind2 h
    refine qv_callV [.int (-1000000001)] rfl rfl rfl (Nat.le_of_ble_eq_true rfl) g13 (th_X10_refuse (by omega) e13) (tl_X10_refuse e13) ?_
    obtain ⟨rfl, rfl⟩ := qv_pair h
    exact qv_reti rfl hR
  · replace h := qv_neg c7 h
    refine qv_run 1 (σ := (18, [some (.ref a0), some (.int a1)], [.ref a0], H)) rfl ?_
    obtain ⟨v18, e18, h⟩ := qv_bind h
    refine qv_getR rfl e18 ?_
    refine qv_run 1 (σ := (22, [some (.ref a0), some (.int a1)], [.int a1, .ref v18], H)) rfl ?_
    obtain ⟨v22, e22, h⟩ := qv_bind h
    refine qv_ald rfl e22 ?_
    obtain ⟨rfl, rfl⟩ := qv_pair h
    exact qv_reti rfl hR
theorem tlb_X10_told_0 {r : Int32} {H' : qx_H} (a0 : Nat) (a1 : Int32) (H : qx_H) (h : fm_X10_told a0 a1 H = some (r, H')) : H'.length = H.length := by
  unfold fm_X10_told at h
  by_cases c7 : (fm_X10_isWithin a1 1 6) = 0
  · replace h := qv_pos c7 h
    obtain ⟨g13, h⟩ := qv_guard h
    obtain ⟨v13, H13, e13, h⟩ := qv_bind2 h
    have q_H13 := tl_X10_refuse e13
    obtain ⟨rfl, rfl⟩ := qv_pair h
    omega
  · replace h := qv_neg c7 h
    obtain ⟨v18, e18, h⟩ := qv_bind h
    obtain ⟨v22, e22, h⟩ := qv_bind h
    obtain ⟨rfl, rfl⟩ := qv_pair h
    rfl
theorem th_X10_told {st : xT} {d : Nat} (hd : 3 ≤ d) {a0 : Nat} {a1 : Int32} {H : qx_H} {r : Int32} {H' : qx_H} (h : fm_X10_told a0 a1 H = some (r, H')) : xE st d 116 [.ref a0, .int a1] H (some (.int r)) H' := by
  obtain ⟨d, rfl⟩ : ∃ d', d = d' + 1 := ⟨d - 1, by omega⟩
  exact xE_of (xe116 st) xl116 (Nat.le_of_ble_eq_true rfl) (ls := [some (.ref a0), some (.int a1)]) rfl (tb_X10_told_0 (by omega) ⟨rfl, rfl⟩ a0 a1 H h)
theorem tl_X10_told {a0 : Nat} {a1 : Int32} {H : qx_H} {r : Int32} {H' : qx_H} (h : fm_X10_told a0 a1 H = some (r, H')) : H'.length = H.length := tlb_X10_told_0 a0 a1 H h
def fm_X11_init_b192 : Nat → Nat → Int32 → qx_H → Option qx_H
  | 0, _, _, _ => none
  | n + 1, l0, l1, H => if 31 ≤ l1 then (some H) else ((hp_gR H l0 9 0).bind fun v199 => (hp_ast H v199 ((88 + (3 * l1)) + 0) 1).bind fun H211 => fm_X11_init_b192 n l0 (l1 + 1) H211)
def fm_X11_init_b164 : Nat → Nat → Int32 → qx_H → Option qx_H
  | 0, _, _, _ => none
  | n + 1, l0, l1, H => if 20 ≤ l1 then (fm_X11_init_b192 5000 l0 0 H) else ((hp_gR H l0 9 0).bind fun v171 => (hp_ast H v171 ((8 + (4 * l1)) + 1) 5).bind fun H183 => fm_X11_init_b164 n l0 (l1 + 1) H183)
def fm_X11_init_b142 : Nat → Nat → Int32 → qx_H → Option qx_H
  | 0, _, _, _ => none
  | n + 1, l0, l1, H => if 3 ≤ l1 then (fm_X11_init_b164 5000 l0 0 H) else ((hp_gR H l0 9 0).bind fun v148 => (hp_ast H v148 (5 + l1) 5).bind fun H155 => fm_X11_init_b142 n l0 (l1 + 1) H155)
def fm_X11_init (a0 : Nat) (H : qx_H) : Option qx_H := if ¬ ((515 : Int32) < 0 ∨ 100000 < Int32.toNatClampNeg 515) ∧ qx_ok [some (.ref a0), none] [.ref a0] H = true then ((hp_put (H ++ ([.inl (Int32.toNatClampNeg 515, .inl fun _ => 0)] : qx_H)) a0 9 0 (.ref H.length)).bind fun H10 => if ¬ ((515 : Int32) < 0 ∨ 100000 < Int32.toNatClampNeg 515) ∧ qx_ok [some (.ref a0), none] [.ref a0] H10 = true then ((hp_put (H10 ++ ([.inl (Int32.toNatClampNeg 515, .inl fun _ => 0)] : qx_H)) a0 9 1 (.ref H10.length)).bind fun H19 => if ¬ ((181 : Int32) < 0 ∨ 100000 < Int32.toNatClampNeg 181) ∧ qx_ok [some (.ref a0), none] [.ref a0] H19 = true then ((hp_put (H19 ++ ([.inl (Int32.toNatClampNeg 181, .inl fun _ => 0)] : qx_H)) a0 9 2 (.ref H19.length)).bind fun H28 => if ¬ ((7 : Int32) < 0 ∨ 100000 < Int32.toNatClampNeg 7) ∧ qx_ok [some (.ref a0), none] [.ref a0] H28 = true then ((hp_put (H28 ++ ([.inl (Int32.toNatClampNeg 7, .inl fun _ => 0)] : qx_H)) a0 9 4 (.ref H28.length)).bind fun H36 => if ¬ ((124 : Int32) < 0 ∨ 100000 < Int32.toNatClampNeg 124) ∧ qx_ok [some (.ref a0), none] [.ref a0] H36 = true then ((hp_put (H36 ++ ([.inl (Int32.toNatClampNeg 124, .inl fun _ => 0)] : qx_H)) a0 9 9 (.ref H36.length)).bind fun H44 => if ¬ ((128 : Int32) < 0 ∨ 100000 < Int32.toNatClampNeg 128) ∧ qx_ok [some (.ref a0), none] [.ref a0] H44 = true then ((hp_put (H44 ++ ([.inl (Int32.toNatClampNeg 128, .inl fun _ => 0)] : qx_H)) a0 9 10 (.ref H44.length)).bind fun H53 => if ¬ ((64 : Int32) < 0 ∨ 100000 < Int32.toNatClampNeg 64) ∧ qx_ok [some (.ref a0), none] [.ref a0] H53 = true then ((hp_put (H53 ++ ([.inl (Int32.toNatClampNeg 64, .inl fun _ => 0)] : qx_H)) a0 9 11 (.ref H53.length)).bind fun H61 => if ¬ ((3 : Int32) < 0 ∨ 100000 < Int32.toNatClampNeg 3) ∧ qx_ok [some (.ref a0), none] [.ref a0] H61 = true then ((hp_put (H61 ++ ([.inl (Int32.toNatClampNeg 3, .inl fun _ => 0)] : qx_H)) a0 9 12 (.ref H61.length)).bind fun H68 => if ¬ ((31 : Int32) < 0 ∨ 100000 < Int32.toNatClampNeg 31) ∧ qx_ok [some (.ref a0), none] [.ref a0] H68 = true then ((hp_put (H68 ++ ([.inl (Int32.toNatClampNeg 31, .inl fun _ => 0)] : qx_H)) a0 9 13 (.ref H68.length)).bind fun H76 => if ¬ ((3 : Int32) < 0 ∨ 100000 < Int32.toNatClampNeg 3) ∧ qx_ok [some (.ref a0), none] [.ref a0] H76 = true then ((hp_put (H76 ++ ([.inl (Int32.toNatClampNeg 3, .inl fun _ => 0)] : qx_H)) a0 9 14 (.ref H76.length)).bind fun H83 => if ¬ ((30 : Int32) < 0 ∨ 100000 < Int32.toNatClampNeg 30) ∧ qx_ok [some (.ref a0), none] [.ref a0] H83 = true then ((hp_put (H83 ++ ([.inl (Int32.toNatClampNeg 30, .inl fun _ => 0)] : qx_H)) a0 9 15 (.ref H83.length)).bind fun H91 => if ¬ ((4 : Int32) < 0 ∨ 100000 < Int32.toNatClampNeg 4) ∧ qx_ok [some (.ref a0), none] [.ref a0] H91 = true then ((hp_put (H91 ++ ([.inl (Int32.toNatClampNeg 4, .inl fun _ => 0)] : qx_H)) a0 9 19 (.ref H91.length)).bind fun H98 => if ¬ ((4 : Int32) < 0 ∨ 100000 < Int32.toNatClampNeg 4) ∧ qx_ok [some (.ref a0), none] [.ref a0] H98 = true then ((hp_put (H98 ++ ([.inl (Int32.toNatClampNeg 4, .inl fun _ => 0)] : qx_H)) a0 9 20 (.ref H98.length)).bind fun H105 => if ¬ ((160 : Int32) < 0 ∨ 100000 < Int32.toNatClampNeg 160) ∧ qx_ok [some (.ref a0), none] [.ref a0] H105 = true then ((hp_put (H105 ++ ([.inl (Int32.toNatClampNeg 160, .inl fun _ => 0)] : qx_H)) a0 9 21 (.ref H105.length)).bind fun H114 => if ¬ ((40 : Int32) < 0 ∨ 100000 < Int32.toNatClampNeg 40) ∧ qx_ok [some (.ref a0), none] [.ref a0] H114 = true then ((hp_put (H114 ++ ([.inl (Int32.toNatClampNeg 40, .inl fun _ => 0)] : qx_H)) a0 9 22 (.ref H114.length)).bind fun H122 => (hp_gR H122 a0 9 0).bind fun v126 => (hp_ast H122 v126 4 1).bind fun H131 => (hp_gR H131 a0 9 0).bind fun v133 => (hp_ast H131 v133 1 100).bind fun H139 => fm_X11_init_b142 5000 a0 0 H139) else none) else none) else none) else none) else none) else none) else none) else none) else none) else none) else none) else none) else none) else none) else none
theorem tb_X11_init_192 {st : xT} {d : Nat} {R : Option Value → qx_H → Prop} (hd : 0 ≤ d) {H' : qx_H} (hR : R (none) H') : ∀ (n : Nat) (l0 : Nat) (l1 : Int32) (H : qx_H) (h : fm_X11_init_b192 n l0 l1 H = some H'), qx_V (xE st d) R (xc123 st) (192, [some (.ref l0), some (.int l1)], [], H) := by
  intro n
  induction n with
  | zero => intro l0 l1 H h; exact nomatch (show (none : Option qx_H) = some H' from h)
  | succ n ih =>
    intro l0 l1 H h
    unfold fm_X11_init_b192 at h
    refine qv_br (c := 31 ≤ l1) (a := (218, [some (.ref l0), some (.int l1)], [], H)) (b := (198, [some (.ref l0), some (.int l1)], [], H)) 3 rfl (fun c195 => ?_) (fun c195 => ?_)
    · replace h := qv_pos c195 h
      cases h
      exact qv_ret0 rfl hR
    · replace h := qv_neg c195 h
      refine qv_run 1 (σ := (199, [some (.ref l0), some (.int l1)], [.ref l0], H)) rfl ?_
      obtain ⟨v199, e199, h⟩ := qv_bind h
      refine qv_getR rfl e199 ?_
      refine qv_run 8 (σ := (211, [some (.ref l0), some (.int l1)], [.int 1, .int ((88 + (3 * l1)) + 0), .ref v199], H)) rfl ?_
      obtain ⟨H211, e211, h⟩ := qv_bind h
      refine qv_ast rfl e211 ?_
      refine qv_run 2 (σ := (192, [some (.ref l0), some (.int (l1 + 1))], [], H211)) rfl ?_
      exact ih l0 (l1 + 1) H211 h
theorem tb_X11_init_164 {st : xT} {d : Nat} {R : Option Value → qx_H → Prop} (hd : 0 ≤ d) {H' : qx_H} (hR : R (none) H') : ∀ (n : Nat) (l0 : Nat) (l1 : Int32) (H : qx_H) (h : fm_X11_init_b164 n l0 l1 H = some H'), qx_V (xE st d) R (xc123 st) (164, [some (.ref l0), some (.int l1)], [], H) := by
  intro n
  induction n with
  | zero => intro l0 l1 H h; exact nomatch (show (none : Option qx_H) = some H' from h)
  | succ n ih =>
    intro l0 l1 H h
    unfold fm_X11_init_b164 at h
    refine qv_br (c := 20 ≤ l1) (a := (190, [some (.ref l0), some (.int l1)], [], H)) (b := (170, [some (.ref l0), some (.int l1)], [], H)) 3 rfl (fun c167 => ?_) (fun c167 => ?_)
    · replace h := qv_pos c167 h
      refine qv_run 2 (σ := (192, [some (.ref l0), some (.int 0)], [], H)) rfl ?_
      exact tb_X11_init_192 hd hR 5000 l0 0 H h
    · replace h := qv_neg c167 h
      refine qv_run 1 (σ := (171, [some (.ref l0), some (.int l1)], [.ref l0], H)) rfl ?_
      obtain ⟨v171, e171, h⟩ := qv_bind h
      refine qv_getR rfl e171 ?_
      refine qv_run 8 (σ := (183, [some (.ref l0), some (.int l1)], [.int 5, .int ((8 + (4 * l1)) + 1), .ref v171], H)) rfl ?_
      obtain ⟨H183, e183, h⟩ := qv_bind h
      refine qv_ast rfl e183 ?_
      refine qv_run 2 (σ := (164, [some (.ref l0), some (.int (l1 + 1))], [], H183)) rfl ?_
      exact ih l0 (l1 + 1) H183 h
theorem tb_X11_init_142 {st : xT} {d : Nat} {R : Option Value → qx_H → Prop} (hd : 0 ≤ d) {H' : qx_H} (hR : R (none) H') : ∀ (n : Nat) (l0 : Nat) (l1 : Int32) (H : qx_H) (h : fm_X11_init_b142 n l0 l1 H = some H'), qx_V (xE st d) R (xc123 st) (142, [some (.ref l0), some (.int l1)], [], H) := by
  intro n
  induction n with
  | zero => intro l0 l1 H h; exact nomatch (show (none : Option qx_H) = some H' from h)
  | succ n ih =>
    intro l0 l1 H h
    unfold fm_X11_init_b142 at h
    refine qv_br (c := 3 ≤ l1) (a := (162, [some (.ref l0), some (.int l1)], [], H)) (b := (147, [some (.ref l0), some (.int l1)], [], H)) 3 rfl (fun c144 => ?_) (fun c144 => ?_)
    · replace h := qv_pos c144 h
      refine qv_run 2 (σ := (164, [some (.ref l0), some (.int 0)], [], H)) rfl ?_
      exact tb_X11_init_164 hd hR 5000 l0 0 H h
    · replace h := qv_neg c144 h
      refine qv_run 1 (σ := (148, [some (.ref l0), some (.int l1)], [.ref l0], H)) rfl ?_
      obtain ⟨v148, e148, h⟩ := qv_bind h
      refine qv_getR rfl e148 ?_
      refine qv_run 4 (σ := (155, [some (.ref l0), some (.int l1)], [.int 5, .int (5 + l1), .ref v148], H)) rfl ?_
      obtain ⟨H155, e155, h⟩ := qv_bind h
      refine qv_ast rfl e155 ?_
      refine qv_run 2 (σ := (142, [some (.ref l0), some (.int (l1 + 1))], [], H155)) rfl ?_
      exact ih l0 (l1 + 1) H155 h
theorem tb_X11_init_0 {st : xT} {d : Nat} {R : Option Value → qx_H → Prop} (hd : 0 ≤ d) {H' : qx_H} (hR : R (none) H') (a0 : Nat) (H : qx_H) (h : fm_X11_init a0 H = some H') : qx_V (xE st d) R (xc123 st) (0, [some (.ref a0), none], [], H) := by
  unfold fm_X11_init at h
  refine qv_run 4 (σ := (8, [some (.ref a0), none], [.int 515, .ref a0], H)) rfl ?_
  obtain ⟨e8, h⟩ := qv_guard h
  refine qv_newa rfl e8.1 e8.2 ?_
  obtain ⟨H10, e10, h⟩ := qv_bind h
  refine qv_putR rfl e10 ?_
  refine qv_run 2 (σ := (17, [some (.ref a0), none], [.int 515, .ref a0], H10)) rfl ?_
  obtain ⟨e17, h⟩ := qv_guard h
  refine qv_newa rfl e17.1 e17.2 ?_
  obtain ⟨H19, e19, h⟩ := qv_bind h
  refine qv_putR rfl e19 ?_
  refine qv_run 2 (σ := (26, [some (.ref a0), none], [.int 181, .ref a0], H19)) rfl ?_
  obtain ⟨e26, h⟩ := qv_guard h
  refine qv_newa rfl e26.1 e26.2 ?_
  obtain ⟨H28, e28, h⟩ := qv_bind h
  refine qv_putR rfl e28 ?_
  refine qv_run 2 (σ := (34, [some (.ref a0), none], [.int 7, .ref a0], H28)) rfl ?_
  obtain ⟨e34, h⟩ := qv_guard h
  refine qv_newa rfl e34.1 e34.2 ?_
  obtain ⟨H36, e36, h⟩ := qv_bind h
  refine qv_putR rfl e36 ?_
  refine qv_run 2 (σ := (42, [some (.ref a0), none], [.int 124, .ref a0], H36)) rfl ?_
  obtain ⟨e42, h⟩ := qv_guard h
  refine qv_newa rfl e42.1 e42.2 ?_
  obtain ⟨H44, e44, h⟩ := qv_bind h
  refine qv_putR rfl e44 ?_
  refine qv_run 2 (σ := (51, [some (.ref a0), none], [.int 128, .ref a0], H44)) rfl ?_
  obtain ⟨e51, h⟩ := qv_guard h
  refine qv_newa rfl e51.1 e51.2 ?_
  obtain ⟨H53, e53, h⟩ := qv_bind h
  refine qv_putR rfl e53 ?_
  refine qv_run 2 (σ := (59, [some (.ref a0), none], [.int 64, .ref a0], H53)) rfl ?_
  obtain ⟨e59, h⟩ := qv_guard h
  refine qv_newa rfl e59.1 e59.2 ?_
  obtain ⟨H61, e61, h⟩ := qv_bind h
  refine qv_putR rfl e61 ?_
  refine qv_run 2 (σ := (66, [some (.ref a0), none], [.int 3, .ref a0], H61)) rfl ?_
  obtain ⟨e66, h⟩ := qv_guard h
  refine qv_newa rfl e66.1 e66.2 ?_
  obtain ⟨H68, e68, h⟩ := qv_bind h
  refine qv_putR rfl e68 ?_
  refine qv_run 2 (σ := (74, [some (.ref a0), none], [.int 31, .ref a0], H68)) rfl ?_
  obtain ⟨e74, h⟩ := qv_guard h
  refine qv_newa rfl e74.1 e74.2 ?_
  obtain ⟨H76, e76, h⟩ := qv_bind h
  refine qv_putR rfl e76 ?_
  refine qv_run 2 (σ := (81, [some (.ref a0), none], [.int 3, .ref a0], H76)) rfl ?_
  obtain ⟨e81, h⟩ := qv_guard h
  refine qv_newa rfl e81.1 e81.2 ?_
  obtain ⟨H83, e83, h⟩ := qv_bind h
  refine qv_putR rfl e83 ?_
  refine qv_run 2 (σ := (89, [some (.ref a0), none], [.int 30, .ref a0], H83)) rfl ?_
  obtain ⟨e89, h⟩ := qv_guard h
  refine qv_newa rfl e89.1 e89.2 ?_
  obtain ⟨H91, e91, h⟩ := qv_bind h
  refine qv_putR rfl e91 ?_
  refine qv_run 2 (σ := (96, [some (.ref a0), none], [.int 4, .ref a0], H91)) rfl ?_
  obtain ⟨e96, h⟩ := qv_guard h
  refine qv_newa rfl e96.1 e96.2 ?_
  obtain ⟨H98, e98, h⟩ := qv_bind h
  refine qv_putR rfl e98 ?_
  refine qv_run 2 (σ := (103, [some (.ref a0), none], [.int 4, .ref a0], H98)) rfl ?_
  obtain ⟨e103, h⟩ := qv_guard h
  refine qv_newa rfl e103.1 e103.2 ?_
  obtain ⟨H105, e105, h⟩ := qv_bind h
  refine qv_putR rfl e105 ?_
  refine qv_run 2 (σ := (112, [some (.ref a0), none], [.int 160, .ref a0], H105)) rfl ?_
  obtain ⟨e112, h⟩ := qv_guard h
  refine qv_newa rfl e112.1 e112.2 ?_
  obtain ⟨H114, e114, h⟩ := qv_bind h
  refine qv_putR rfl e114 ?_
  refine qv_run 2 (σ := (120, [some (.ref a0), none], [.int 40, .ref a0], H114)) rfl ?_
  obtain ⟨e120, h⟩ := qv_guard h
  refine qv_newa rfl e120.1 e120.2 ?_
  obtain ⟨H122, e122, h⟩ := qv_bind h
  refine qv_putR rfl e122 ?_
  refine qv_run 1 (σ := (126, [some (.ref a0), none], [.ref a0], H122)) rfl ?_
  obtain ⟨v126, e126, h⟩ := qv_bind h
  refine qv_getR rfl e126 ?_
  refine qv_run 2 (σ := (131, [some (.ref a0), none], [.int 1, .int 4, .ref v126], H122)) rfl ?_
  obtain ⟨H131, e131, h⟩ := qv_bind h
  refine qv_ast rfl e131 ?_
  refine qv_run 1 (σ := (133, [some (.ref a0), none], [.ref a0], H131)) rfl ?_
  obtain ⟨v133, e133, h⟩ := qv_bind h
  refine qv_getR rfl e133 ?_
  refine qv_run 2 (σ := (139, [some (.ref a0), none], [.int 100, .int 1, .ref v133], H131)) rfl ?_
  obtain ⟨H139, e139, h⟩ := qv_bind h
  refine qv_ast rfl e139 ?_
  refine qv_run 2 (σ := (142, [some (.ref a0), some (.int 0)], [], H139)) rfl ?_
  exact tb_X11_init_142 hd hR 5000 a0 0 H139 h
theorem th_X11_init {st : xT} {d : Nat} (hd : 1 ≤ d) {a0 : Nat} {H : qx_H} {H' : qx_H} (h : fm_X11_init a0 H = some H') : xE st d 123 [.ref a0] H (none) H' := by
  obtain ⟨d, rfl⟩ : ∃ d', d = d' + 1 := ⟨d - 1, by omega⟩
  exact xE_of (xe123 st) xl123 (Nat.le_of_ble_eq_true rfl) (ls := [some (.ref a0), none]) rfl (tb_X11_init_0 (by omega) ⟨rfl, rfl⟩ a0 H h)
def fm_X11_error (a0 : Nat) (a1 : Int32) (H : qx_H) : Option (Int32 × qx_H) := (hp_gR H a0 9 4).bind fun v1 => (hp_ald H v1 a1).bind fun v6 => (hp_ast H v1 a1 (v6 + 1)).bind fun H9 => some ((-1000000000) - a1, H9)
theorem tb_X11_error_0 {st : xT} {d : Nat} {R : Option Value → qx_H → Prop} (hd : 0 ≤ d) {r : Int32} {H' : qx_H} (hR : R (some (.int r)) H') (a0 : Nat) (a1 : Int32) (H : qx_H) (h : fm_X11_error a0 a1 H = some (r, H')) : qx_V (xE st d) R (xc124 st) (0, [some (.ref a0), some (.int a1)], [], H) := by
  unfold fm_X11_error at h
  refine qv_run 1 (σ := (1, [some (.ref a0), some (.int a1)], [.ref a0], H)) rfl ?_
  obtain ⟨v1, e1, h⟩ := qv_bind h
  refine qv_getR rfl e1 ?_
  refine qv_run 2 (σ := (6, [some (.ref a0), some (.int a1)], [.int a1, .ref v1, .int a1, .ref v1], H)) rfl ?_
  obtain ⟨v6, e6, h⟩ := qv_bind h
  refine qv_ald rfl e6 ?_
  refine qv_run 2 (σ := (9, [some (.ref a0), some (.int a1)], [.int (v6 + 1), .int a1, .ref v1], H)) rfl ?_
  obtain ⟨H9, e9, h⟩ := qv_bind h
  refine qv_ast rfl e9 ?_
  refine qv_run 3 (σ := (14, [some (.ref a0), some (.int a1)], [.int ((-1000000000) - a1)], H9)) rfl ?_
  obtain ⟨rfl, rfl⟩ := qv_pair h
  exact qv_reti rfl hR
theorem tlb_X11_error_0 {r : Int32} {H' : qx_H} (a0 : Nat) (a1 : Int32) (H : qx_H) (h : fm_X11_error a0 a1 H = some (r, H')) : H'.length = H.length := by
  unfold fm_X11_error at h
  obtain ⟨v1, e1, h⟩ := qv_bind h
  obtain ⟨v6, e6, h⟩ := qv_bind h
  obtain ⟨H9, e9, h⟩ := qv_bind h
  have q_H9 := hp_ast_len e9
  obtain ⟨rfl, rfl⟩ := qv_pair h
  omega
theorem th_X11_error {st : xT} {d : Nat} (hd : 1 ≤ d) {a0 : Nat} {a1 : Int32} {H : qx_H} {r : Int32} {H' : qx_H} (h : fm_X11_error a0 a1 H = some (r, H')) : xE st d 124 [.ref a0, .int a1] H (some (.int r)) H' := by
  obtain ⟨d, rfl⟩ : ∃ d', d = d' + 1 := ⟨d - 1, by omega⟩
  exact xE_of (xe124 st) xl124 (Nat.le_of_ble_eq_true rfl) (ls := [some (.ref a0), some (.int a1)]) rfl (tb_X11_error_0 (by omega) ⟨rfl, rfl⟩ a0 a1 H h)
theorem tl_X11_error {a0 : Nat} {a1 : Int32} {H : qx_H} {r : Int32} {H' : qx_H} (h : fm_X11_error a0 a1 H = some (r, H')) : H'.length = H.length := tlb_X11_error_0 a0 a1 H h
def fm_X11_in (a0 : Int32) (a1 : Int32) (a2 : Int32) : Int32 := if a0 < a1 then (0) else (if a2 < a0 then (0) else (1))
theorem tb_X11_in_0 {st : xT} {d : Nat} {R : Option Value → qx_H → Prop} (hd : 0 ≤ d) {r : Int32} {H : qx_H} (hR : R (some (.int r)) H) (a0 : Int32) (a1 : Int32) (a2 : Int32) (h : fm_X11_in a0 a1 a2 = r) : qx_V (xE st d) R (xc125 st) (0, [some (.int a0), some (.int a1), some (.int a2)], [], H) := by
  unfold fm_X11_in at h
  refine qv_br (c := a0 < a1) (a := (14, [some (.int a0), some (.int a1), some (.int a2)], [], H)) (b := (5, [some (.int a0), some (.int a1), some (.int a2)], [], H)) 3 rfl (fun c2 => ?_) (fun c2 => ?_)
  · replace h := qv_pos c2 h
    refine qv_run 1 (σ := (15, [some (.int a0), some (.int a1), some (.int a2)], [.int 0], H)) rfl ?_
    subst h
    exact qv_retz rfl (Or.inl rfl) hR
  · replace h := qv_neg c2 h
    refine qv_br (c := a2 < a0) (a := (14, [some (.int a0), some (.int a1), some (.int a2)], [], H)) (b := (10, [some (.int a0), some (.int a1), some (.int a2)], [], H)) 3 rfl (fun c7 => ?_) (fun c7 => ?_)
    · replace h := qv_pos c7 h
      refine qv_run 1 (σ := (15, [some (.int a0), some (.int a1), some (.int a2)], [.int 0], H)) rfl ?_
      subst h
      exact qv_retz rfl (Or.inl rfl) hR
    · replace h := qv_neg c7 h
      refine qv_run 2 (σ := (15, [some (.int a0), some (.int a1), some (.int a2)], [.int 1], H)) rfl ?_
      subst h
      exact qv_retz rfl (Or.inr rfl) hR
theorem tzb_X11_in_0 {r : Int32} (a0 : Int32) (a1 : Int32) (a2 : Int32) (h : fm_X11_in a0 a1 a2 = r) : r = 0 ∨ r = 1 := by
  unfold fm_X11_in at h
  by_cases c2 : a0 < a1
  · replace h := qv_pos c2 h
    subst h
    exact Or.inl rfl
  · replace h := qv_neg c2 h
    by_cases c7 : a2 < a0
    · replace h := qv_pos c7 h
      subst h
      exact Or.inl rfl
    · replace h := qv_neg c7 h
      subst h
      exact Or.inr rfl
theorem th_X11_in {st : xT} {d : Nat} (hd : 1 ≤ d) {a0 : Int32} {a1 : Int32} {a2 : Int32} {r : Int32} {H : qx_H} (h : fm_X11_in a0 a1 a2 = r) : xE st d 125 [.int a0, .int a1, .int a2] H (some (.int r)) H := by
  obtain ⟨d, rfl⟩ : ∃ d', d = d' + 1 := ⟨d - 1, by omega⟩
  exact xE_of (xe125 st) xl125 (Nat.le_of_ble_eq_true rfl) (ls := [some (.int a0), some (.int a1), some (.int a2)]) rfl (tb_X11_in_0 (by omega) ⟨rfl, rfl⟩ a0 a1 a2 h)
theorem tz_X11_in {a0 : Int32} {a1 : Int32} {a2 : Int32} {r : Int32} (h : fm_X11_in a0 a1 a2 = r) : r = 0 ∨ r = 1 := tzb_X11_in_0 a0 a1 a2 h
theorem fz_X11_in {a0 : Int32} {a1 : Int32} {a2 : Int32} : fm_X11_in a0 a1 a2 = 0 ∨ fm_X11_in a0 a1 a2 = 1 := tz_X11_in rfl
def fm_X11_held (a0 : Int32) (a1 : Int32) (a2 : Int32) : Int32 := if a1 ≤ a0 then (if a0 ≤ a2 then (a0) else (a2)) else (a1)
theorem tb_X11_held_0 {st : xT} {d : Nat} {R : Option Value → qx_H → Prop} (hd : 0 ≤ d) {r : Int32} {H : qx_H} (hR : R (some (.int r)) H) (a0 : Int32) (a1 : Int32) (a2 : Int32) (h : fm_X11_held a0 a1 a2 = r) : qx_V (xE st d) R (xc126 st) (0, [some (.int a0), some (.int a1), some (.int a2)], [], H) := by
  unfold fm_X11_held at h
  refine qv_br (c := a1 ≤ a0) (a := (9, [some (.int a0), some (.int a1), some (.int a2)], [], H)) (b := (5, [some (.int a0), some (.int a1), some (.int a2)], [], H)) 3 rfl (fun c2 => ?_) (fun c2 => ?_)
  · replace h := qv_pos c2 h
    refine qv_br (c := a0 ≤ a2) (a := (18, [some (.int a0), some (.int a1), some (.int a2)], [], H)) (b := (14, [some (.int a0), some (.int a1), some (.int a2)], [], H)) 3 rfl (fun c11 => ?_) (fun c11 => ?_)
    · replace h := qv_pos c11 h
      refine qv_run 1 (σ := (19, [some (.int a0), some (.int a1), some (.int a2)], [.int a0], H)) rfl ?_
      subst h
      exact qv_reti rfl hR
    · replace h := qv_neg c11 h
      refine qv_run 2 (σ := (19, [some (.int a0), some (.int a1), some (.int a2)], [.int a2], H)) rfl ?_
      subst h
      exact qv_reti rfl hR
  · replace h := qv_neg c2 h
    refine qv_run 2 (σ := (19, [some (.int a0), some (.int a1), some (.int a2)], [.int a1], H)) rfl ?_
    subst h
    exact qv_reti rfl hR
theorem th_X11_held {st : xT} {d : Nat} (hd : 1 ≤ d) {a0 : Int32} {a1 : Int32} {a2 : Int32} {r : Int32} {H : qx_H} (h : fm_X11_held a0 a1 a2 = r) : xE st d 126 [.int a0, .int a1, .int a2] H (some (.int r)) H := by
  obtain ⟨d, rfl⟩ : ∃ d', d = d' + 1 := ⟨d - 1, by omega⟩
  exact xE_of (xe126 st) xl126 (Nat.le_of_ble_eq_true rfl) (ls := [some (.int a0), some (.int a1), some (.int a2)]) rfl (tb_X11_held_0 (by omega) ⟨rfl, rfl⟩ a0 a1 a2 h)
def fm_X11_carry_b2 : Nat → Nat → Nat → Int32 → Int32 → qx_H → Option qx_H
  | 0, _, _, _, _, _ => none
  | n + 1, l0, l1, l2, l3, H => if l2 ≤ l3 then (some H) else ((hp_ald H l0 l3).bind fun v11 => (hp_ast H l1 l3 v11).bind fun H12 => fm_X11_carry_b2 n l0 l1 l2 (l3 + 1) H12)
def fm_X11_carry (a0 : Nat) (a1 : Nat) (a2 : Int32) (H : qx_H) : Option qx_H := fm_X11_carry_b2 5000 a0 a1 a2 0 H
theorem tb_X11_carry_2 {st : xT} {d : Nat} {R : Option Value → qx_H → Prop} (hd : 0 ≤ d) {H' : qx_H} (hR : R (none) H') : ∀ (n : Nat) (l0 : Nat) (l1 : Nat) (l2 : Int32) (l3 : Int32) (H : qx_H) (h : fm_X11_carry_b2 n l0 l1 l2 l3 H = some H'), qx_V (xE st d) R (xc127 st) (2, [some (.ref l0), some (.ref l1), some (.int l2), some (.int l3)], [], H) := by
  intro n
  induction n with
  | zero => intro l0 l1 l2 l3 H h; exact nomatch (show (none : Option qx_H) = some H' from h)
  | succ n ih =>
    intro l0 l1 l2 l3 H h
    unfold fm_X11_carry_b2 at h
    refine qv_br (c := l2 ≤ l3) (a := (19, [some (.ref l0), some (.ref l1), some (.int l2), some (.int l3)], [], H)) (b := (7, [some (.ref l0), some (.ref l1), some (.int l2), some (.int l3)], [], H)) 3 rfl (fun c4 => ?_) (fun c4 => ?_)
    · replace h := qv_pos c4 h
      cases h
      exact qv_ret0 rfl hR
    · replace h := qv_neg c4 h
      refine qv_run 4 (σ := (11, [some (.ref l0), some (.ref l1), some (.int l2), some (.int l3)], [.int l3, .ref l0, .int l3, .ref l1], H)) rfl ?_
      obtain ⟨v11, e11, h⟩ := qv_bind h
      refine qv_ald rfl e11 ?_
      obtain ⟨H12, e12, h⟩ := qv_bind h
      refine qv_ast rfl e12 ?_
      refine qv_run 2 (σ := (2, [some (.ref l0), some (.ref l1), some (.int l2), some (.int (l3 + 1))], [], H12)) rfl ?_
      exact ih l0 l1 l2 (l3 + 1) H12 h
theorem tlb_X11_carry_2 {H' : qx_H} : ∀ (n : Nat) (l0 : Nat) (l1 : Nat) (l2 : Int32) (l3 : Int32) (H : qx_H) (h : fm_X11_carry_b2 n l0 l1 l2 l3 H = some H'), H'.length = H.length := by
  intro n
  induction n with
  | zero => intro l0 l1 l2 l3 H h; exact nomatch (show (none : Option qx_H) = some H' from h)
  | succ n ih =>
    intro l0 l1 l2 l3 H h
    unfold fm_X11_carry_b2 at h
    by_cases c4 : l2 ≤ l3
    · replace h := qv_pos c4 h
      cases h
      rfl
    · replace h := qv_neg c4 h
      obtain ⟨v11, e11, h⟩ := qv_bind h
      obtain ⟨H12, e12, h⟩ := qv_bind h
      have q_H12 := hp_ast_len e12
      have q_end := ih l0 l1 l2 (l3 + 1) H12 h
      omega
theorem tb_X11_carry_0 {st : xT} {d : Nat} {R : Option Value → qx_H → Prop} (hd : 0 ≤ d) {H' : qx_H} (hR : R (none) H') (a0 : Nat) (a1 : Nat) (a2 : Int32) (H : qx_H) (h : fm_X11_carry a0 a1 a2 H = some H') : qx_V (xE st d) R (xc127 st) (0, [some (.ref a0), some (.ref a1), some (.int a2), none], [], H) := by
  unfold fm_X11_carry at h
  refine qv_run 2 (σ := (2, [some (.ref a0), some (.ref a1), some (.int a2), some (.int 0)], [], H)) rfl ?_
  exact tb_X11_carry_2 hd hR 5000 a0 a1 a2 0 H h
theorem tlb_X11_carry_0 {H' : qx_H} (a0 : Nat) (a1 : Nat) (a2 : Int32) (H : qx_H) (h : fm_X11_carry a0 a1 a2 H = some H') : H'.length = H.length := by
  unfold fm_X11_carry at h
  exact tlb_X11_carry_2 5000 a0 a1 a2 0 H h
theorem th_X11_carry {st : xT} {d : Nat} (hd : 1 ≤ d) {a0 : Nat} {a1 : Nat} {a2 : Int32} {H : qx_H} {H' : qx_H} (h : fm_X11_carry a0 a1 a2 H = some H') : xE st d 127 [.ref a0, .ref a1, .int a2] H (none) H' := by
  obtain ⟨d, rfl⟩ : ∃ d', d = d' + 1 := ⟨d - 1, by omega⟩
  exact xE_of (xe127 st) xl127 (Nat.le_of_ble_eq_true rfl) (ls := [some (.ref a0), some (.ref a1), some (.int a2), none]) rfl (tb_X11_carry_0 (by omega) ⟨rfl, rfl⟩ a0 a1 a2 H h)
theorem tl_X11_carry {a0 : Nat} {a1 : Nat} {a2 : Int32} {H : qx_H} {H' : qx_H} (h : fm_X11_carry a0 a1 a2 H = some H') : H'.length = H.length := tlb_X11_carry_0 a0 a1 a2 H h
def fm_X11_layDown (a0 : Nat) (H : qx_H) : Option qx_H := (hp_gR H a0 9 0).bind fun v1 => (hp_gR H a0 9 2).bind fun v5 => (fm_X11_carry v1 v5 181 H).bind fun H11 => some H11
theorem tb_X11_layDown_0 {st : xT} {d : Nat} {R : Option Value → qx_H → Prop} (hd : 1 ≤ d) {H' : qx_H} (hR : R (none) H') (a0 : Nat) (H : qx_H) (h : fm_X11_layDown a0 H = some H') : qx_V (xE st d) R (xc128 st) (0, [some (.ref a0)], [], H) := by
  unfold fm_X11_layDown at h
  refine qv_run 1 (σ := (1, [some (.ref a0)], [.ref a0], H)) rfl ?_
  obtain ⟨v1, e1, h⟩ := qv_bind h
  refine qv_getR rfl e1 ?_
  refine qv_run 1 (σ := (5, [some (.ref a0)], [.ref a0, .ref v1], H)) rfl ?_
  obtain ⟨v5, e5, h⟩ := qv_bind h
  refine qv_getR rfl e5 ?_
  refine qv_run 1 (σ := (11, [some (.ref a0)], [.int 181, .ref v5, .ref v1], H)) rfl ?_
  obtain ⟨H11, e11, h⟩ := qv_bind h
  refine qv_call [.ref v1, .ref v5, .int 181] rfl rfl rfl (Nat.le_of_ble_eq_true rfl) (th_X11_carry (by omega) e11) (tl_X11_carry e11) ?_
  cases h
  exact qv_ret0 rfl hR
theorem tlb_X11_layDown_0 {H' : qx_H} (a0 : Nat) (H : qx_H) (h : fm_X11_layDown a0 H = some H') : H'.length = H.length := by
  unfold fm_X11_layDown at h
  obtain ⟨v1, e1, h⟩ := qv_bind h
  obtain ⟨v5, e5, h⟩ := qv_bind h
  obtain ⟨H11, e11, h⟩ := qv_bind h
  have q_H11 := tl_X11_carry e11
  cases h
  omega
theorem th_X11_layDown {st : xT} {d : Nat} (hd : 2 ≤ d) {a0 : Nat} {H : qx_H} {H' : qx_H} (h : fm_X11_layDown a0 H = some H') : xE st d 128 [.ref a0] H (none) H' := by
  obtain ⟨d, rfl⟩ : ∃ d', d = d' + 1 := ⟨d - 1, by omega⟩
  exact xE_of (xe128 st) xl128 (Nat.le_of_ble_eq_true rfl) (ls := [some (.ref a0)]) rfl (tb_X11_layDown_0 (by omega) ⟨rfl, rfl⟩ a0 H h)
theorem tl_X11_layDown {a0 : Nat} {H : qx_H} {H' : qx_H} (h : fm_X11_layDown a0 H = some H') : H'.length = H.length := tlb_X11_layDown_0 a0 H h
def fm_X11_layBack (a0 : Nat) (H : qx_H) : Option qx_H := (hp_gR H a0 9 2).bind fun v1 => (hp_gR H a0 9 0).bind fun v5 => (fm_X11_carry v1 v5 181 H).bind fun H11 => some H11
theorem tb_X11_layBack_0 {st : xT} {d : Nat} {R : Option Value → qx_H → Prop} (hd : 1 ≤ d) {H' : qx_H} (hR : R (none) H') (a0 : Nat) (H : qx_H) (h : fm_X11_layBack a0 H = some H') : qx_V (xE st d) R (xc129 st) (0, [some (.ref a0)], [], H) := by
  unfold fm_X11_layBack at h
  refine qv_run 1 (σ := (1, [some (.ref a0)], [.ref a0], H)) rfl ?_
  obtain ⟨v1, e1, h⟩ := qv_bind h
  refine qv_getR rfl e1 ?_
  refine qv_run 1 (σ := (5, [some (.ref a0)], [.ref a0, .ref v1], H)) rfl ?_
  obtain ⟨v5, e5, h⟩ := qv_bind h
  refine qv_getR rfl e5 ?_
  refine qv_run 1 (σ := (11, [some (.ref a0)], [.int 181, .ref v5, .ref v1], H)) rfl ?_
  obtain ⟨H11, e11, h⟩ := qv_bind h
  refine qv_call [.ref v1, .ref v5, .int 181] rfl rfl rfl (Nat.le_of_ble_eq_true rfl) (th_X11_carry (by omega) e11) (tl_X11_carry e11) ?_
  cases h
  exact qv_ret0 rfl hR
theorem tlb_X11_layBack_0 {H' : qx_H} (a0 : Nat) (H : qx_H) (h : fm_X11_layBack a0 H = some H') : H'.length = H.length := by
  unfold fm_X11_layBack at h
  obtain ⟨v1, e1, h⟩ := qv_bind h
  obtain ⟨v5, e5, h⟩ := qv_bind h
  obtain ⟨H11, e11, h⟩ := qv_bind h
  have q_H11 := tl_X11_carry e11
  cases h
  omega
theorem th_X11_layBack {st : xT} {d : Nat} (hd : 2 ≤ d) {a0 : Nat} {H : qx_H} {H' : qx_H} (h : fm_X11_layBack a0 H = some H') : xE st d 129 [.ref a0] H (none) H' := by
  obtain ⟨d, rfl⟩ : ∃ d', d = d' + 1 := ⟨d - 1, by omega⟩
  exact xE_of (xe129 st) xl129 (Nat.le_of_ble_eq_true rfl) (ls := [some (.ref a0)]) rfl (tb_X11_layBack_0 (by omega) ⟨rfl, rfl⟩ a0 H h)
theorem tl_X11_layBack {a0 : Nat} {H : qx_H} {H' : qx_H} (h : fm_X11_layBack a0 H = some H') : H'.length = H.length := tlb_X11_layBack_0 a0 H h
def fm_X11_isKnot (a0 : Int32) : Int32 := (fm_X11_in a0 0 19)
theorem tb_X11_isKnot_0 {st : xT} {d : Nat} {R : Option Value → qx_H → Prop} (hd : 1 ≤ d) {r : Int32} {H : qx_H} (hR : R (some (.int r)) H) (a0 : Int32) (h : fm_X11_isKnot a0 = r) : qx_V (xE st d) R (xc130 st) (0, [some (.int a0)], [], H) := by
  unfold fm_X11_isKnot at h
  refine qv_run 3 (σ := (4, [some (.int a0)], [.int 19, .int 0, .int a0], H)) rfl ?_
  refine qv_call [.int a0, .int 0, .int 19] rfl rfl rfl (Nat.le_of_ble_eq_true rfl) (th_X11_in (by omega) rfl) rfl ?_
  subst h
  exact qv_retz rfl (fz_X11_in) hR
theorem tzb_X11_isKnot_0 {r : Int32} (a0 : Int32) (h : fm_X11_isKnot a0 = r) : r = 0 ∨ r = 1 := by
  unfold fm_X11_isKnot at h
  subst h
  exact (fz_X11_in)
theorem th_X11_isKnot {st : xT} {d : Nat} (hd : 2 ≤ d) {a0 : Int32} {r : Int32} {H : qx_H} (h : fm_X11_isKnot a0 = r) : xE st d 130 [.int a0] H (some (.int r)) H := by
  obtain ⟨d, rfl⟩ : ∃ d', d = d' + 1 := ⟨d - 1, by omega⟩
  exact xE_of (xe130 st) xl130 (Nat.le_of_ble_eq_true rfl) (ls := [some (.int a0)]) rfl (tb_X11_isKnot_0 (by omega) ⟨rfl, rfl⟩ a0 h)
theorem tz_X11_isKnot {a0 : Int32} {r : Int32} (h : fm_X11_isKnot a0 = r) : r = 0 ∨ r = 1 := tzb_X11_isKnot_0 a0 h
theorem fz_X11_isKnot {a0 : Int32} : fm_X11_isKnot a0 = 0 ∨ fm_X11_isKnot a0 = 1 := tz_X11_isKnot rfl
def fm_X11_isThread (a0 : Int32) : Int32 := (fm_X11_in a0 0 30)
theorem tb_X11_isThread_0 {st : xT} {d : Nat} {R : Option Value → qx_H → Prop} (hd : 1 ≤ d) {r : Int32} {H : qx_H} (hR : R (some (.int r)) H) (a0 : Int32) (h : fm_X11_isThread a0 = r) : qx_V (xE st d) R (xc131 st) (0, [some (.int a0)], [], H) := by
  unfold fm_X11_isThread at h
  refine qv_run 3 (σ := (4, [some (.int a0)], [.int 30, .int 0, .int a0], H)) rfl ?_
  refine qv_call [.int a0, .int 0, .int 30] rfl rfl rfl (Nat.le_of_ble_eq_true rfl) (th_X11_in (by omega) rfl) rfl ?_
  subst h
  exact qv_retz rfl (fz_X11_in) hR
theorem tzb_X11_isThread_0 {r : Int32} (a0 : Int32) (h : fm_X11_isThread a0 = r) : r = 0 ∨ r = 1 := by
  unfold fm_X11_isThread at h
  subst h
  exact (fz_X11_in)
theorem th_X11_isThread {st : xT} {d : Nat} (hd : 2 ≤ d) {a0 : Int32} {r : Int32} {H : qx_H} (h : fm_X11_isThread a0 = r) : xE st d 131 [.int a0] H (some (.int r)) H := by
  obtain ⟨d, rfl⟩ : ∃ d', d = d' + 1 := ⟨d - 1, by omega⟩
  exact xE_of (xe131 st) xl131 (Nat.le_of_ble_eq_true rfl) (ls := [some (.int a0)]) rfl (tb_X11_isThread_0 (by omega) ⟨rfl, rfl⟩ a0 h)
theorem tz_X11_isThread {a0 : Int32} {r : Int32} (h : fm_X11_isThread a0 = r) : r = 0 ∨ r = 1 := tzb_X11_isThread_0 a0 h
theorem fz_X11_isThread {a0 : Int32} : fm_X11_isThread a0 = 0 ∨ fm_X11_isThread a0 = 1 := tz_X11_isThread rfl
def fm_X11_isHand (a0 : Int32) : Int32 := (fm_X11_in a0 0 4)
theorem tb_X11_isHand_0 {st : xT} {d : Nat} {R : Option Value → qx_H → Prop} (hd : 1 ≤ d) {r : Int32} {H : qx_H} (hR : R (some (.int r)) H) (a0 : Int32) (h : fm_X11_isHand a0 = r) : qx_V (xE st d) R (xc132 st) (0, [some (.int a0)], [], H) := by
  unfold fm_X11_isHand at h
  refine qv_run 3 (σ := (3, [some (.int a0)], [.int 4, .int 0, .int a0], H)) rfl ?_
  refine qv_call [.int a0, .int 0, .int 4] rfl rfl rfl (Nat.le_of_ble_eq_true rfl) (th_X11_in (by omega) rfl) rfl ?_
  subst h
  exact qv_retz rfl (fz_X11_in) hR
theorem tzb_X11_isHand_0 {r : Int32} (a0 : Int32) (h : fm_X11_isHand a0 = r) : r = 0 ∨ r = 1 := by
  unfold fm_X11_isHand at h
  subst h
  exact (fz_X11_in)
theorem th_X11_isHand {st : xT} {d : Nat} (hd : 2 ≤ d) {a0 : Int32} {r : Int32} {H : qx_H} (h : fm_X11_isHand a0 = r) : xE st d 132 [.int a0] H (some (.int r)) H := by
  obtain ⟨d, rfl⟩ : ∃ d', d = d' + 1 := ⟨d - 1, by omega⟩
  exact xE_of (xe132 st) xl132 (Nat.le_of_ble_eq_true rfl) (ls := [some (.int a0)]) rfl (tb_X11_isHand_0 (by omega) ⟨rfl, rfl⟩ a0 h)
theorem tz_X11_isHand {a0 : Int32} {r : Int32} (h : fm_X11_isHand a0 = r) : r = 0 ∨ r = 1 := tzb_X11_isHand_0 a0 h
theorem fz_X11_isHand {a0 : Int32} : fm_X11_isHand a0 = 0 ∨ fm_X11_isHand a0 = 1 := tz_X11_isHand rfl
def fm_X11_its (a0 : Nat) (a1 : Int32) (a2 : Int32) (H : qx_H) : Option Int32 := (hp_gR H a0 9 0).bind fun v1 => (hp_ald H v1 ((8 + (4 * a1)) + a2)).bind fun v12 => some v12
theorem tb_X11_its_0 {st : xT} {d : Nat} {R : Option Value → qx_H → Prop} (hd : 0 ≤ d) {r : Int32} {H : qx_H} (hR : R (some (.int r)) H) (a0 : Nat) (a1 : Int32) (a2 : Int32) (h : fm_X11_its a0 a1 a2 H = some r) : qx_V (xE st d) R (xc133 st) (0, [some (.ref a0), some (.int a1), some (.int a2)], [], H) := by
  unfold fm_X11_its at h
  refine qv_run 1 (σ := (1, [some (.ref a0), some (.int a1), some (.int a2)], [.ref a0], H)) rfl ?_
  obtain ⟨v1, e1, h⟩ := qv_bind h
  refine qv_getR rfl e1 ?_
  refine qv_run 7 (σ := (12, [some (.ref a0), some (.int a1), some (.int a2)], [.int ((8 + (4 * a1)) + a2), .ref v1], H)) rfl ?_
  obtain ⟨v12, e12, h⟩ := qv_bind h
  refine qv_ald rfl e12 ?_
  cases h
  exact qv_reti rfl hR
theorem th_X11_its {st : xT} {d : Nat} (hd : 1 ≤ d) {a0 : Nat} {a1 : Int32} {a2 : Int32} {r : Int32} {H : qx_H} (h : fm_X11_its a0 a1 a2 H = some r) : xE st d 133 [.ref a0, .int a1, .int a2] H (some (.int r)) H := by
  obtain ⟨d, rfl⟩ : ∃ d', d = d' + 1 := ⟨d - 1, by omega⟩
  exact xE_of (xe133 st) xl133 (Nat.le_of_ble_eq_true rfl) (ls := [some (.ref a0), some (.int a1), some (.int a2)]) rfl (tb_X11_its_0 (by omega) ⟨rfl, rfl⟩ a0 a1 a2 h)
def fm_X11_of (a0 : Nat) (a1 : Int32) (a2 : Int32) (H : qx_H) : Option Int32 := (hp_gR H a0 9 0).bind fun v1 => (hp_ald H v1 ((88 + (3 * a1)) + a2)).bind fun v12 => some v12
theorem tb_X11_of_0 {st : xT} {d : Nat} {R : Option Value → qx_H → Prop} (hd : 0 ≤ d) {r : Int32} {H : qx_H} (hR : R (some (.int r)) H) (a0 : Nat) (a1 : Int32) (a2 : Int32) (h : fm_X11_of a0 a1 a2 H = some r) : qx_V (xE st d) R (xc134 st) (0, [some (.ref a0), some (.int a1), some (.int a2)], [], H) := by
  unfold fm_X11_of at h
  refine qv_run 1 (σ := (1, [some (.ref a0), some (.int a1), some (.int a2)], [.ref a0], H)) rfl ?_
  obtain ⟨v1, e1, h⟩ := qv_bind h
  refine qv_getR rfl e1 ?_
  refine qv_run 7 (σ := (12, [some (.ref a0), some (.int a1), some (.int a2)], [.int ((88 + (3 * a1)) + a2), .ref v1], H)) rfl ?_
  obtain ⟨v12, e12, h⟩ := qv_bind h
  refine qv_ald rfl e12 ?_
  cases h
  exact qv_reti rfl hR
theorem th_X11_of {st : xT} {d : Nat} (hd : 1 ≤ d) {a0 : Nat} {a1 : Int32} {a2 : Int32} {r : Int32} {H : qx_H} (h : fm_X11_of a0 a1 a2 H = some r) : xE st d 134 [.ref a0, .int a1, .int a2] H (some (.int r)) H := by
  obtain ⟨d, rfl⟩ : ∃ d', d = d' + 1 := ⟨d - 1, by omega⟩
  exact xE_of (xe134 st) xl134 (Nat.le_of_ble_eq_true rfl) (ls := [some (.ref a0), some (.int a1), some (.int a2)]) rfl (tb_X11_of_0 (by omega) ⟨rfl, rfl⟩ a0 a1 a2 h)
def fm_X11_isMissing (a0 : Nat) (a1 : Int32) (H : qx_H) : Option Int32 := if hp_is H a0 9 = true then ((fm_X11_of a0 a1 0 H).bind fun v3 => if v3 = 0 then (some 1) else (some 0)) else none
theorem tb_X11_isMissing_0 {st : xT} {d : Nat} {R : Option Value → qx_H → Prop} (hd : 1 ≤ d) {r : Int32} {H : qx_H} (hR : R (some (.int r)) H) (a0 : Nat) (a1 : Int32) (h : fm_X11_isMissing a0 a1 H = some r) : qx_V (xE st d) R (xc135 st) (0, [some (.ref a0), some (.int a1)], [], H) := by
  unfold fm_X11_isMissing at h
  refine qv_run 3 (σ := (3, [some (.ref a0), some (.int a1)], [.int 0, .int a1, .ref a0], H)) rfl ?_
  obtain ⟨g3, h⟩ := qv_guard h
  obtain ⟨v3, e3, h⟩ := qv_bind h
  refine qv_callV [.int a1, .int 0] rfl rfl rfl (Nat.le_of_ble_eq_true rfl) g3 (th_X11_of (by omega) e3) rfl ?_
  refine qv_br (c := v3 = 0) (a := (9, [some (.ref a0), some (.int a1)], [], H)) (b := (13, [some (.ref a0), some (.int a1)], [], H)) 1 rfl (fun c6 => ?_) (fun c6 => ?_)
  · replace h := qv_pos c6 h
    refine qv_run 2 (σ := (14, [some (.ref a0), some (.int a1)], [.int 1], H)) rfl ?_
    cases h
    exact qv_retz rfl (Or.inr rfl) hR
  · replace h := qv_neg c6 h
    refine qv_run 1 (σ := (14, [some (.ref a0), some (.int a1)], [.int 0], H)) rfl ?_
    cases h
    exact qv_retz rfl (Or.inl rfl) hR
theorem tzb_X11_isMissing_0 {r : Int32} {H : qx_H} (a0 : Nat) (a1 : Int32) (h : fm_X11_isMissing a0 a1 H = some r) : r = 0 ∨ r = 1 := by
  unfold fm_X11_isMissing at h
  obtain ⟨g3, h⟩ := qv_guard h
  obtain ⟨v3, e3, h⟩ := qv_bind h
  by_cases c6 : v3 = 0
  · replace h := qv_pos c6 h
    cases h
    exact Or.inr rfl
  · replace h := qv_neg c6 h
    cases h
    exact Or.inl rfl
theorem th_X11_isMissing {st : xT} {d : Nat} (hd : 2 ≤ d) {a0 : Nat} {a1 : Int32} {r : Int32} {H : qx_H} (h : fm_X11_isMissing a0 a1 H = some r) : xE st d 135 [.ref a0, .int a1] H (some (.int r)) H := by
  obtain ⟨d, rfl⟩ : ∃ d', d = d' + 1 := ⟨d - 1, by omega⟩
  exact xE_of (xe135 st) xl135 (Nat.le_of_ble_eq_true rfl) (ls := [some (.ref a0), some (.int a1)]) rfl (tb_X11_isMissing_0 (by omega) ⟨rfl, rfl⟩ a0 a1 h)
theorem tz_X11_isMissing {a0 : Nat} {a1 : Int32} {r : Int32} {H : qx_H} (h : fm_X11_isMissing a0 a1 H = some r) : r = 0 ∨ r = 1 := tzb_X11_isMissing_0 a0 a1 h
def fm_X11_lessOf (a0 : Int32) : Int32 := if 16 ≤ a0 then (a0 - 16) else ((5 * (a0 / 4)) + (ji_rem a0 4))
theorem tb_X11_lessOf_0 {st : xT} {d : Nat} {R : Option Value → qx_H → Prop} (hd : 0 ≤ d) {r : Int32} {H : qx_H} (hR : R (some (.int r)) H) (a0 : Int32) (h : fm_X11_lessOf a0 = r) : qx_V (xE st d) R (xc136 st) (0, [some (.int a0)], [], H) := by
  unfold fm_X11_lessOf at h
  refine qv_br (c := 16 ≤ a0) (a := (18, [some (.int a0)], [], H)) (b := (6, [some (.int a0)], [], H)) 3 rfl (fun c3 => ?_) (fun c3 => ?_)
  · replace h := qv_pos c3 h
    refine qv_run 3 (σ := (22, [some (.int a0)], [.int (a0 - 16)], H)) rfl ?_
    subst h
    exact qv_reti rfl hR
  · replace h := qv_neg c3 h
    refine qv_run 3 (σ := (9, [some (.int a0)], [.int 4, .int a0, .int 5], H)) rfl ?_
    refine qv_div rfl (by decide) ?_
    refine qv_run 3 (σ := (13, [some (.int a0)], [.int 4, .int a0, .int (5 * (a0 / 4))], H)) rfl ?_
    refine qv_div rfl (by decide) ?_
    refine qv_run 2 (σ := (22, [some (.int a0)], [.int ((5 * (a0 / 4)) + (ji_rem a0 4))], H)) rfl ?_
    subst h
    exact qv_reti rfl hR
theorem th_X11_lessOf {st : xT} {d : Nat} (hd : 1 ≤ d) {a0 : Int32} {r : Int32} {H : qx_H} (h : fm_X11_lessOf a0 = r) : xE st d 136 [.int a0] H (some (.int r)) H := by
  obtain ⟨d, rfl⟩ : ∃ d', d = d' + 1 := ⟨d - 1, by omega⟩
  exact xE_of (xe136 st) xl136 (Nat.le_of_ble_eq_true rfl) (ls := [some (.int a0)]) rfl (tb_X11_lessOf_0 (by omega) ⟨rfl, rfl⟩ a0 h)
def fm_X11_otherOf (a0 : Int32) : Int32 := if 16 ≤ a0 then ((fm_X11_lessOf a0) + 5) else ((fm_X11_lessOf a0) + 1)
theorem tb_X11_otherOf_0 {st : xT} {d : Nat} {R : Option Value → qx_H → Prop} (hd : 1 ≤ d) {r : Int32} {H : qx_H} (hR : R (some (.int r)) H) (a0 : Int32) (h : fm_X11_otherOf a0 = r) : qx_V (xE st d) R (xc137 st) (0, [some (.int a0)], [], H) := by
  unfold fm_X11_otherOf at h
  refine qv_br (c := 16 ≤ a0) (a := (15, [some (.int a0)], [], H)) (b := (6, [some (.int a0)], [], H)) 3 rfl (fun c3 => ?_) (fun c3 => ?_)
  · replace h := qv_pos c3 h
    refine qv_run 1 (σ := (16, [some (.int a0)], [.int a0], H)) rfl ?_
    refine qv_call [.int a0] rfl rfl rfl (Nat.le_of_ble_eq_true rfl) (th_X11_lessOf (by omega) rfl) rfl ?_
    refine qv_run 2 (σ := (21, [some (.int a0)], [.int ((fm_X11_lessOf a0) + 5)], H)) rfl ?_
    subst h
    exact qv_reti rfl hR
  · replace h := qv_neg c3 h
    refine qv_run 1 (σ := (7, [some (.int a0)], [.int a0], H)) rfl ?_
    refine qv_call [.int a0] rfl rfl rfl (Nat.le_of_ble_eq_true rfl) (th_X11_lessOf (by omega) rfl) rfl ?_
    refine qv_run 3 (σ := (21, [some (.int a0)], [.int ((fm_X11_lessOf a0) + 1)], H)) rfl ?_
    subst h
    exact qv_reti rfl hR
theorem th_X11_otherOf {st : xT} {d : Nat} (hd : 2 ≤ d) {a0 : Int32} {r : Int32} {H : qx_H} (h : fm_X11_otherOf a0 = r) : xE st d 137 [.int a0] H (some (.int r)) H := by
  obtain ⟨d, rfl⟩ : ∃ d', d = d' + 1 := ⟨d - 1, by omega⟩
  exact xE_of (xe137 st) xl137 (Nat.le_of_ble_eq_true rfl) (ls := [some (.int a0)]) rfl (tb_X11_otherOf_0 (by omega) ⟨rfl, rfl⟩ a0 h)
def fm_X11_ends (a0 : Int32) (a1 : Int32) : Int32 := if (fm_X11_lessOf a0) = a1 then (1) else (if (fm_X11_otherOf a0) = a1 then (1) else (0))
theorem tb_X11_ends_0 {st : xT} {d : Nat} {R : Option Value → qx_H → Prop} (hd : 2 ≤ d) {r : Int32} {H : qx_H} (hR : R (some (.int r)) H) (a0 : Int32) (a1 : Int32) (h : fm_X11_ends a0 a1 = r) : qx_V (xE st d) R (xc138 st) (0, [some (.int a0), some (.int a1)], [], H) := by
  unfold fm_X11_ends at h
  refine qv_run 1 (σ := (1, [some (.int a0), some (.int a1)], [.int a0], H)) rfl ?_
  refine qv_call [.int a0] rfl rfl rfl (Nat.le_of_ble_eq_true rfl) (th_X11_lessOf (by omega) rfl) rfl ?_
  refine qv_br (c := (fm_X11_lessOf a0) = a1) (a := (16, [some (.int a0), some (.int a1)], [], H)) (b := (8, [some (.int a0), some (.int a1)], [], H)) 2 rfl (fun c5 => ?_) (fun c5 => ?_)
  · replace h := qv_pos c5 h
    refine qv_run 2 (σ := (21, [some (.int a0), some (.int a1)], [.int 1], H)) rfl ?_
    subst h
    exact qv_retz rfl (Or.inr rfl) hR
  · replace h := qv_neg c5 h
    refine qv_run 1 (σ := (9, [some (.int a0), some (.int a1)], [.int a0], H)) rfl ?_
    refine qv_call [.int a0] rfl rfl rfl (Nat.le_of_ble_eq_true rfl) (th_X11_otherOf (by omega) rfl) rfl ?_
    refine qv_br (c := (fm_X11_otherOf a0) = a1) (a := (16, [some (.int a0), some (.int a1)], [], H)) (b := (20, [some (.int a0), some (.int a1)], [], H)) 2 rfl (fun c13 => ?_) (fun c13 => ?_)
    · replace h := qv_pos c13 h
      refine qv_run 2 (σ := (21, [some (.int a0), some (.int a1)], [.int 1], H)) rfl ?_
      subst h
      exact qv_retz rfl (Or.inr rfl) hR
    · replace h := qv_neg c13 h
      refine qv_run 1 (σ := (21, [some (.int a0), some (.int a1)], [.int 0], H)) rfl ?_
      subst h
      exact qv_retz rfl (Or.inl rfl) hR
theorem tzb_X11_ends_0 {r : Int32} (a0 : Int32) (a1 : Int32) (h : fm_X11_ends a0 a1 = r) : r = 0 ∨ r = 1 := by
  unfold fm_X11_ends at h
  by_cases c5 : (fm_X11_lessOf a0) = a1
  · replace h := qv_pos c5 h
    subst h
    exact Or.inr rfl
  · replace h := qv_neg c5 h
    by_cases c13 : (fm_X11_otherOf a0) = a1
    · replace h := qv_pos c13 h
      subst h
      exact Or.inr rfl
    · replace h := qv_neg c13 h
      subst h
      exact Or.inl rfl
theorem th_X11_ends {st : xT} {d : Nat} (hd : 3 ≤ d) {a0 : Int32} {a1 : Int32} {r : Int32} {H : qx_H} (h : fm_X11_ends a0 a1 = r) : xE st d 138 [.int a0, .int a1] H (some (.int r)) H := by
  obtain ⟨d, rfl⟩ : ∃ d', d = d' + 1 := ⟨d - 1, by omega⟩
  exact xE_of (xe138 st) xl138 (Nat.le_of_ble_eq_true rfl) (ls := [some (.int a0), some (.int a1)]) rfl (tb_X11_ends_0 (by omega) ⟨rfl, rfl⟩ a0 a1 h)
theorem tz_X11_ends {a0 : Int32} {a1 : Int32} {r : Int32} (h : fm_X11_ends a0 a1 = r) : r = 0 ∨ r = 1 := tzb_X11_ends_0 a0 a1 h
theorem fz_X11_ends {a0 : Int32} {a1 : Int32} : fm_X11_ends a0 a1 = 0 ∨ fm_X11_ends a0 a1 = 1 := tz_X11_ends rfl
def fm_X11_between (a0 : Int32) (a1 : Int32) : Int32 := if ((if a1 ≤ a0 then a0 else a1) : Int32) = ((if a1 ≤ a0 then a1 else a0) + 5) then (16 + (if a1 ≤ a0 then a1 else a0)) else (if ((if a1 ≤ a0 then a0 else a1) : Int32) = ((if a1 ≤ a0 then a1 else a0) + 1) then (if 4 ≤ (ji_rem (if a1 ≤ a0 then a1 else a0) 5) then ((-1)) else ((4 * ((if a1 ≤ a0 then a1 else a0) / 5)) + (ji_rem (if a1 ≤ a0 then a1 else a0) 5))) else ((-1)))
theorem tb_X11_between_0 {st : xT} {d : Nat} {R : Option Value → qx_H → Prop} (hd : 0 ≤ d) {r : Int32} {H : qx_H} (hR : R (some (.int r)) H) (a0 : Int32) (a1 : Int32) (h : fm_X11_between a0 a1 = r) : qx_V (xE st d) R (xc139 st) (0, [some (.int a0), some (.int a1), none, none], [], H) := by
  unfold fm_X11_between at h
  refine qv_dia (c := a1 ≤ a0) (a := (9, [some (.int a0), some (.int a1), none, none], [], H)) (b := (5, [some (.int a0), some (.int a1), none, none], [], H)) (σ' := (10, [some (.int a0), some (.int a1), none, none], [.int (if a1 ≤ a0 then a1 else a0)], H)) 3 rfl ?_ (fun c2 kk => qv_run 1 (σ := (10, [some (.int a0), some (.int a1), none, none], [.int a1], H)) rfl (qv_eq (by simp only [if_pos c2]) kk)) (fun c2 kk => qv_run 2 (σ := (10, [some (.int a0), some (.int a1), none, none], [.int a0], H)) rfl (qv_eq (by simp only [if_neg c2]) kk))
  refine qv_dia (c := a1 ≤ a0) (a := (20, [some (.int a0), some (.int a1), some (.int (if a1 ≤ a0 then a1 else a0)), none], [], H)) (b := (16, [some (.int a0), some (.int a1), some (.int (if a1 ≤ a0 then a1 else a0)), none], [], H)) (σ' := (21, [some (.int a0), some (.int a1), some (.int (if a1 ≤ a0 then a1 else a0)), none], [.int (if a1 ≤ a0 then a0 else a1)], H)) 4 rfl ?_ (fun c13 kk => qv_run 1 (σ := (21, [some (.int a0), some (.int a1), some (.int (if a1 ≤ a0 then a1 else a0)), none], [.int a0], H)) rfl (qv_eq (by simp only [if_pos c13]) kk)) (fun c13 kk => qv_run 2 (σ := (21, [some (.int a0), some (.int a1), some (.int (if a1 ≤ a0 then a1 else a0)), none], [.int a1], H)) rfl (qv_eq (by simp only [if_neg c13]) kk))
  refine qv_br (c := ((if a1 ≤ a0 then a0 else a1) : Int32) = ((if a1 ≤ a0 then a1 else a0) + 5)) (a := (29, [some (.int a0), some (.int a1), some (.int (if a1 ≤ a0 then a1 else a0)), some (.int (if a1 ≤ a0 then a0 else a1))], [], H)) (b := (34, [some (.int a0), some (.int a1), some (.int (if a1 ≤ a0 then a1 else a0)), some (.int (if a1 ≤ a0 then a0 else a1))], [], H)) 6 rfl (fun c26 => ?_) (fun c26 => ?_)
  · replace h := qv_pos c26 h
    refine qv_run 3 (σ := (33, [some (.int a0), some (.int a1), some (.int (if a1 ≤ a0 then a1 else a0)), some (.int (if a1 ≤ a0 then a0 else a1))], [.int (16 + (if a1 ≤ a0 then a1 else a0))], H)) rfl ?_
    subst h
    exact qv_reti rfl hR
  · replace h := qv_neg c26 h
    refine qv_br (c := ((if a1 ≤ a0 then a0 else a1) : Int32) = ((if a1 ≤ a0 then a1 else a0) + 1)) (a := (41, [some (.int a0), some (.int a1), some (.int (if a1 ≤ a0 then a1 else a0)), some (.int (if a1 ≤ a0 then a0 else a1))], [], H)) (b := (60, [some (.int a0), some (.int a1), some (.int (if a1 ≤ a0 then a1 else a0)), some (.int (if a1 ≤ a0 then a0 else a1))], [], H)) 5 rfl (fun c38 => ?_) (fun c38 => ?_)
    · replace h := qv_pos c38 h
      refine qv_run 2 (σ := (43, [some (.int a0), some (.int a1), some (.int (if a1 ≤ a0 then a1 else a0)), some (.int (if a1 ≤ a0 then a0 else a1))], [.int 5, .int (if a1 ≤ a0 then a1 else a0)], H)) rfl ?_
      refine qv_div rfl (by decide) ?_
      refine qv_br (c := 4 ≤ (ji_rem (if a1 ≤ a0 then a1 else a0) 5)) (a := (60, [some (.int a0), some (.int a1), some (.int (if a1 ≤ a0 then a1 else a0)), some (.int (if a1 ≤ a0 then a0 else a1))], [], H)) (b := (48, [some (.int a0), some (.int a1), some (.int (if a1 ≤ a0 then a1 else a0)), some (.int (if a1 ≤ a0 then a0 else a1))], [], H)) 2 rfl (fun c45 => ?_) (fun c45 => ?_)
      · replace h := qv_pos c45 h
        refine qv_run 1 (σ := (61, [some (.int a0), some (.int a1), some (.int (if a1 ≤ a0 then a1 else a0)), some (.int (if a1 ≤ a0 then a0 else a1))], [.int (-1)], H)) rfl ?_
        subst h
        exact qv_reti rfl hR
      · replace h := qv_neg c45 h
        refine qv_run 3 (σ := (51, [some (.int a0), some (.int a1), some (.int (if a1 ≤ a0 then a1 else a0)), some (.int (if a1 ≤ a0 then a0 else a1))], [.int 5, .int (if a1 ≤ a0 then a1 else a0), .int 4], H)) rfl ?_
        refine qv_div rfl (by decide) ?_
        refine qv_run 3 (σ := (55, [some (.int a0), some (.int a1), some (.int (if a1 ≤ a0 then a1 else a0)), some (.int (if a1 ≤ a0 then a0 else a1))], [.int 5, .int (if a1 ≤ a0 then a1 else a0), .int (4 * ((if a1 ≤ a0 then a1 else a0) / 5))], H)) rfl ?_
        refine qv_div rfl (by decide) ?_
        refine qv_run 2 (σ := (61, [some (.int a0), some (.int a1), some (.int (if a1 ≤ a0 then a1 else a0)), some (.int (if a1 ≤ a0 then a0 else a1))], [.int ((4 * ((if a1 ≤ a0 then a1 else a0) / 5)) + (ji_rem (if a1 ≤ a0 then a1 else a0) 5))], H)) rfl ?_
        subst h
        exact qv_reti rfl hR
    · replace h := qv_neg c38 h
      refine qv_run 1 (σ := (61, [some (.int a0), some (.int a1), some (.int (if a1 ≤ a0 then a1 else a0)), some (.int (if a1 ≤ a0 then a0 else a1))], [.int (-1)], H)) rfl ?_
      subst h
      exact qv_reti rfl hR
theorem th_X11_between {st : xT} {d : Nat} (hd : 1 ≤ d) {a0 : Int32} {a1 : Int32} {r : Int32} {H : qx_H} (h : fm_X11_between a0 a1 = r) : xE st d 139 [.int a0, .int a1] H (some (.int r)) H := by
  obtain ⟨d, rfl⟩ : ∃ d', d = d' + 1 := ⟨d - 1, by omega⟩
  exact xE_of (xe139 st) xl139 (Nat.le_of_ble_eq_true rfl) (ls := [some (.int a0), some (.int a1), none, none]) rfl (tb_X11_between_0 (by omega) ⟨rfl, rfl⟩ a0 a1 h)
def fm_X11_change1 (a0 : Nat) (a1 : Int32) (a2 : Int32) (H : qx_H) : Option (Int32 × qx_H) := (hp_gR H a0 9 0).bind fun v1 => (hp_ald H v1 a1).bind fun v5 => (hp_gR H a0 9 0).bind fun v8 => (hp_ast H v8 a1 a2).bind fun H13 => some (v5, H13)
theorem tb_X11_change1_0 {st : xT} {d : Nat} {R : Option Value → qx_H → Prop} (hd : 0 ≤ d) {r : Int32} {H' : qx_H} (hR : R (some (.int r)) H') (a0 : Nat) (a1 : Int32) (a2 : Int32) (H : qx_H) (h : fm_X11_change1 a0 a1 a2 H = some (r, H')) : qx_V (xE st d) R (xc140 st) (0, [some (.ref a0), some (.int a1), some (.int a2), none], [], H) := by
  unfold fm_X11_change1 at h
  refine qv_run 1 (σ := (1, [some (.ref a0), some (.int a1), some (.int a2), none], [.ref a0], H)) rfl ?_
  obtain ⟨v1, e1, h⟩ := qv_bind h
  refine qv_getR rfl e1 ?_
  refine qv_run 1 (σ := (5, [some (.ref a0), some (.int a1), some (.int a2), none], [.int a1, .ref v1], H)) rfl ?_
  obtain ⟨v5, e5, h⟩ := qv_bind h
  refine qv_ald rfl e5 ?_
  refine qv_run 2 (σ := (8, [some (.ref a0), some (.int a1), some (.int a2), some (.int v5)], [.ref a0], H)) rfl ?_
  obtain ⟨v8, e8, h⟩ := qv_bind h
  refine qv_getR rfl e8 ?_
  refine qv_run 2 (σ := (13, [some (.ref a0), some (.int a1), some (.int a2), some (.int v5)], [.int a2, .int a1, .ref v8], H)) rfl ?_
  obtain ⟨H13, e13, h⟩ := qv_bind h
  refine qv_ast rfl e13 ?_
  refine qv_run 1 (σ := (15, [some (.ref a0), some (.int a1), some (.int a2), some (.int v5)], [.int v5], H13)) rfl ?_
  obtain ⟨rfl, rfl⟩ := qv_pair h
  exact qv_reti rfl hR
theorem tlb_X11_change1_0 {r : Int32} {H' : qx_H} (a0 : Nat) (a1 : Int32) (a2 : Int32) (H : qx_H) (h : fm_X11_change1 a0 a1 a2 H = some (r, H')) : H'.length = H.length := by
  unfold fm_X11_change1 at h
  obtain ⟨v1, e1, h⟩ := qv_bind h
  obtain ⟨v5, e5, h⟩ := qv_bind h
  obtain ⟨v8, e8, h⟩ := qv_bind h
  obtain ⟨H13, e13, h⟩ := qv_bind h
  have q_H13 := hp_ast_len e13
  obtain ⟨rfl, rfl⟩ := qv_pair h
  omega
theorem th_X11_change1 {st : xT} {d : Nat} (hd : 1 ≤ d) {a0 : Nat} {a1 : Int32} {a2 : Int32} {H : qx_H} {r : Int32} {H' : qx_H} (h : fm_X11_change1 a0 a1 a2 H = some (r, H')) : xE st d 140 [.ref a0, .int a1, .int a2] H (some (.int r)) H' := by
  obtain ⟨d, rfl⟩ : ∃ d', d = d' + 1 := ⟨d - 1, by omega⟩
  exact xE_of (xe140 st) xl140 (Nat.le_of_ble_eq_true rfl) (ls := [some (.ref a0), some (.int a1), some (.int a2), none]) rfl (tb_X11_change1_0 (by omega) ⟨rfl, rfl⟩ a0 a1 a2 H h)
theorem tl_X11_change1 {a0 : Nat} {a1 : Int32} {a2 : Int32} {H : qx_H} {r : Int32} {H' : qx_H} (h : fm_X11_change1 a0 a1 a2 H = some (r, H')) : H'.length = H.length := tlb_X11_change1_0 a0 a1 a2 H h
def fm_X11_missing_b4 : Nat → Nat → Int32 → Int32 → qx_H → Option Int32
  | 0, _, _, _, _ => none
  | n + 1, l0, l1, l2, H => if 31 ≤ l2 then (some l1) else (if hp_is H l0 9 = true then ((fm_X11_isMissing l0 l2 H).bind fun v13 => fm_X11_missing_b4 n l0 (l1 + (if v13 = 0 then 0 else 1)) (l2 + 1) H) else none)
def fm_X11_missing (a0 : Nat) (H : qx_H) : Option Int32 := fm_X11_missing_b4 5000 a0 0 0 H
theorem tb_X11_missing_4 {st : xT} {d : Nat} {R : Option Value → qx_H → Prop} (hd : 2 ≤ d) {r : Int32} {H : qx_H} (hR : R (some (.int r)) H) : ∀ (n : Nat) (l0 : Nat) (l1 : Int32) (l2 : Int32) (h : fm_X11_missing_b4 n l0 l1 l2 H = some r), qx_V (xE st d) R (xc141 st) (4, [some (.ref l0), some (.int l1), some (.int l2)], [], H) := by
  intro n
  induction n with
  | zero => intro l0 l1 l2 h; exact nomatch (show (none : Option Int32) = some r from h)
  | succ n ih =>
    intro l0 l1 l2 h
    unfold fm_X11_missing_b4 at h
    refine qv_br (c := 31 ≤ l2) (a := (32, [some (.ref l0), some (.int l1), some (.int l2)], [], H)) (b := (10, [some (.ref l0), some (.int l1), some (.int l2)], [], H)) 3 rfl (fun c7 => ?_) (fun c7 => ?_)
    · replace h := qv_pos c7 h
      refine qv_run 1 (σ := (33, [some (.ref l0), some (.int l1), some (.int l2)], [.int l1], H)) rfl ?_
      cases h
      exact qv_reti rfl hR
    · replace h := qv_neg c7 h
      refine qv_run 3 (σ := (13, [some (.ref l0), some (.int l1), some (.int l2)], [.int l2, .ref l0, .int l1], H)) rfl ?_
      obtain ⟨g13, h⟩ := qv_guard h
      obtain ⟨v13, e13, h⟩ := qv_bind h
      refine qv_callV [.int l2] rfl rfl rfl (Nat.le_of_ble_eq_true rfl) g13 (th_X11_isMissing (by omega) e13) rfl ?_
      refine qv_dia (c := v13 = 0) (a := (23, [some (.ref l0), some (.int l1), some (.int l2)], [.int l1], H)) (b := (19, [some (.ref l0), some (.int l1), some (.int l2)], [.int l1], H)) (σ' := (24, [some (.ref l0), some (.int l1), some (.int l2)], [.int (if v13 = 0 then 0 else 1), .int l1], H)) 1 rfl ?_ (fun c16 kk => qv_run 1 (σ := (24, [some (.ref l0), some (.int l1), some (.int l2)], [.int 0, .int l1], H)) rfl (qv_eq (by simp only [if_pos c16]) kk)) (fun c16 kk => qv_run 2 (σ := (24, [some (.ref l0), some (.int l1), some (.int l2)], [.int 1, .int l1], H)) rfl (qv_eq (by simp only [if_neg c16]) kk))
      refine qv_run 4 (σ := (4, [some (.ref l0), some (.int (l1 + (if v13 = 0 then 0 else 1))), some (.int (l2 + 1))], [], H)) rfl ?_
      exact ih l0 (l1 + (if v13 = 0 then 0 else 1)) (l2 + 1) h
theorem tb_X11_missing_0 {st : xT} {d : Nat} {R : Option Value → qx_H → Prop} (hd : 2 ≤ d) {r : Int32} {H : qx_H} (hR : R (some (.int r)) H) (a0 : Nat) (h : fm_X11_missing a0 H = some r) : qx_V (xE st d) R (xc141 st) (0, [some (.ref a0), none, none], [], H) := by
  unfold fm_X11_missing at h
  refine qv_run 4 (σ := (4, [some (.ref a0), some (.int 0), some (.int 0)], [], H)) rfl ?_
  exact tb_X11_missing_4 hd hR 5000 a0 0 0 h
theorem th_X11_missing {st : xT} {d : Nat} (hd : 3 ≤ d) {a0 : Nat} {r : Int32} {H : qx_H} (h : fm_X11_missing a0 H = some r) : xE st d 141 [.ref a0] H (some (.int r)) H := by
  obtain ⟨d, rfl⟩ : ∃ d', d = d' + 1 := ⟨d - 1, by omega⟩
  exact xE_of (xe141 st) xl141 (Nat.le_of_ble_eq_true rfl) (ls := [some (.ref a0), none, none]) rfl (tb_X11_missing_0 (by omega) ⟨rfl, rfl⟩ a0 h)
def fm_X11_gone_b4 : Nat → Nat → Int32 → Int32 → qx_H → Option Int32
  | 0, _, _, _, _ => none
  | n + 1, l0, l1, l2, H => if 31 ≤ l2 then (some l1) else (if hp_is H l0 9 = true then ((fm_X11_isMissing l0 l2 H).bind fun v13 => fm_X11_gone_b4 n l0 (l1 ||| (if v13 = 0 then 0 else ji_shl 1 l2)) (l2 + 1) H) else none)
def fm_X11_gone (a0 : Nat) (H : qx_H) : Option Int32 := fm_X11_gone_b4 5000 a0 0 0 H
theorem tb_X11_gone_4 {st : xT} {d : Nat} {R : Option Value → qx_H → Prop} (hd : 2 ≤ d) {r : Int32} {H : qx_H} (hR : R (some (.int r)) H) : ∀ (n : Nat) (l0 : Nat) (l1 : Int32) (l2 : Int32) (h : fm_X11_gone_b4 n l0 l1 l2 H = some r), qx_V (xE st d) R (xc142 st) (4, [some (.ref l0), some (.int l1), some (.int l2)], [], H) := by
  intro n
  induction n with
  | zero => intro l0 l1 l2 h; exact nomatch (show (none : Option Int32) = some r from h)
  | succ n ih =>
    intro l0 l1 l2 h
    unfold fm_X11_gone_b4 at h
    refine qv_br (c := 31 ≤ l2) (a := (34, [some (.ref l0), some (.int l1), some (.int l2)], [], H)) (b := (10, [some (.ref l0), some (.int l1), some (.int l2)], [], H)) 3 rfl (fun c7 => ?_) (fun c7 => ?_)
    · replace h := qv_pos c7 h
      refine qv_run 1 (σ := (35, [some (.ref l0), some (.int l1), some (.int l2)], [.int l1], H)) rfl ?_
      cases h
      exact qv_reti rfl hR
    · replace h := qv_neg c7 h
      refine qv_run 3 (σ := (13, [some (.ref l0), some (.int l1), some (.int l2)], [.int l2, .ref l0, .int l1], H)) rfl ?_
      obtain ⟨g13, h⟩ := qv_guard h
      obtain ⟨v13, e13, h⟩ := qv_bind h
      refine qv_callV [.int l2] rfl rfl rfl (Nat.le_of_ble_eq_true rfl) g13 (th_X11_isMissing (by omega) e13) rfl ?_
      refine qv_dia (c := v13 = 0) (a := (25, [some (.ref l0), some (.int l1), some (.int l2)], [.int l1], H)) (b := (19, [some (.ref l0), some (.int l1), some (.int l2)], [.int l1], H)) (σ' := (26, [some (.ref l0), some (.int l1), some (.int l2)], [.int (if v13 = 0 then 0 else ji_shl 1 l2), .int l1], H)) 1 rfl ?_ (fun c16 kk => qv_run 1 (σ := (26, [some (.ref l0), some (.int l1), some (.int l2)], [.int 0, .int l1], H)) rfl (qv_eq (by simp only [if_pos c16]) kk)) (fun c16 kk => qv_run 4 (σ := (26, [some (.ref l0), some (.int l1), some (.int l2)], [.int (ji_shl 1 l2), .int l1], H)) rfl (qv_eq (by simp only [if_neg c16]) kk))
      refine qv_run 4 (σ := (4, [some (.ref l0), some (.int (l1 ||| (if v13 = 0 then 0 else ji_shl 1 l2))), some (.int (l2 + 1))], [], H)) rfl ?_
      exact ih l0 (l1 ||| (if v13 = 0 then 0 else ji_shl 1 l2)) (l2 + 1) h
theorem tb_X11_gone_0 {st : xT} {d : Nat} {R : Option Value → qx_H → Prop} (hd : 2 ≤ d) {r : Int32} {H : qx_H} (hR : R (some (.int r)) H) (a0 : Nat) (h : fm_X11_gone a0 H = some r) : qx_V (xE st d) R (xc142 st) (0, [some (.ref a0), none, none], [], H) := by
  unfold fm_X11_gone at h
  refine qv_run 4 (σ := (4, [some (.ref a0), some (.int 0), some (.int 0)], [], H)) rfl ?_
  exact tb_X11_gone_4 hd hR 5000 a0 0 0 h
theorem th_X11_gone {st : xT} {d : Nat} (hd : 3 ≤ d) {a0 : Nat} {r : Int32} {H : qx_H} (h : fm_X11_gone a0 H = some r) : xE st d 142 [.ref a0] H (some (.int r)) H := by
  obtain ⟨d, rfl⟩ : ∃ d', d = d' + 1 := ⟨d - 1, by omega⟩
  exact xE_of (xe142 st) xl142 (Nat.le_of_ble_eq_true rfl) (ls := [some (.ref a0), none, none]) rfl (tb_X11_gone_0 (by omega) ⟨rfl, rfl⟩ a0 h)
def fm_X11_isIn (a0 : Int32) (a1 : Int32) : Int32 := if ((ji_ushr a0 a1) &&& 1) = 1 then (1) else (0)
theorem tb_X11_isIn_0 {st : xT} {d : Nat} {R : Option Value → qx_H → Prop} (hd : 0 ≤ d) {r : Int32} {H : qx_H} (hR : R (some (.int r)) H) (a0 : Int32) (a1 : Int32) (h : fm_X11_isIn a0 a1 = r) : qx_V (xE st d) R (xc143 st) (0, [some (.int a0), some (.int a1)], [], H) := by
  unfold fm_X11_isIn at h
  refine qv_br (c := ((ji_ushr a0 a1) &&& 1) = 1) (a := (9, [some (.int a0), some (.int a1)], [], H)) (b := (13, [some (.int a0), some (.int a1)], [], H)) 7 rfl (fun c6 => ?_) (fun c6 => ?_)
  · replace h := qv_pos c6 h
    refine qv_run 2 (σ := (14, [some (.int a0), some (.int a1)], [.int 1], H)) rfl ?_
    subst h
    exact qv_retz rfl (Or.inr rfl) hR
  · replace h := qv_neg c6 h
    refine qv_run 1 (σ := (14, [some (.int a0), some (.int a1)], [.int 0], H)) rfl ?_
    subst h
    exact qv_retz rfl (Or.inl rfl) hR
theorem tzb_X11_isIn_0 {r : Int32} (a0 : Int32) (a1 : Int32) (h : fm_X11_isIn a0 a1 = r) : r = 0 ∨ r = 1 := by
  unfold fm_X11_isIn at h
  by_cases c6 : ((ji_ushr a0 a1) &&& 1) = 1
  · replace h := qv_pos c6 h
    subst h
    exact Or.inr rfl
  · replace h := qv_neg c6 h
    subst h
    exact Or.inl rfl
theorem th_X11_isIn {st : xT} {d : Nat} (hd : 1 ≤ d) {a0 : Int32} {a1 : Int32} {r : Int32} {H : qx_H} (h : fm_X11_isIn a0 a1 = r) : xE st d 143 [.int a0, .int a1] H (some (.int r)) H := by
  obtain ⟨d, rfl⟩ : ∃ d', d = d' + 1 := ⟨d - 1, by omega⟩
  exact xE_of (xe143 st) xl143 (Nat.le_of_ble_eq_true rfl) (ls := [some (.int a0), some (.int a1)]) rfl (tb_X11_isIn_0 (by omega) ⟨rfl, rfl⟩ a0 a1 h)
theorem tz_X11_isIn {a0 : Int32} {a1 : Int32} {r : Int32} (h : fm_X11_isIn a0 a1 = r) : r = 0 ∨ r = 1 := tzb_X11_isIn_0 a0 a1 h
theorem fz_X11_isIn {a0 : Int32} {a1 : Int32} : fm_X11_isIn a0 a1 = 0 ∨ fm_X11_isIn a0 a1 = 1 := tz_X11_isIn rfl
def fm_X11_feed_b38 : Nat → Nat → Int64 → Int32 → Int32 → qx_H → Option (Int32 × qx_H)
  | 0, _, _, _, _, _ => none
  | n + 1, l0, l1, l3, l4, H => if l3 ≤ l4 then ((hp_gR H l0 9 0).bind fun v88 => (hp_ald H v88 2).bind fun v92 => some (v92, H)) else ((hp_gR H l0 9 0).bind fun v45 => (hp_gR H l0 9 0).bind fun v52 => (hp_ald H v52 2).bind fun v56 => (hp_ast H v45 (431 + v56) (Int64.toInt32 ((jl_shr l1 (8 * l4)) &&& 255))).bind fun H70 => (hp_gR H70 l0 9 0).bind fun v72 => (hp_ald H70 v72 2).bind fun v77 => (hp_ast H70 v72 2 (v77 + 1)).bind fun H80 => fm_X11_feed_b38 n l0 l1 l3 (l4 + 1) H80)
def fm_X11_feed (a0 : Nat) (a1 : Int64) (a3 : Int32) (H : qx_H) : Option (Int32 × qx_H) := if (fm_X11_in a3 1 8) = 0 then (if hp_is H a0 9 = true then (ob2 (fm_X11_error a0 1 H) fun v12 H12 => some (v12, H12)) else none) else ((hp_gR H a0 9 0).bind fun v17 => (hp_ald H v17 2).bind fun v21 => if (v21 + a3) ≤ 60 then (fm_X11_feed_b38 5000 a0 a1 a3 0 H) else (if hp_is H a0 9 = true then (ob2 (fm_X11_error a0 4 H) fun v31 H31 => some (v31, H31)) else none))
theorem tb_X11_feed_38 {st : xT} {d : Nat} {R : Option Value → qx_H → Prop} (hd : 1 ≤ d) {r : Int32} {H' : qx_H} (hR : R (some (.int r)) H') : ∀ (n : Nat) (l0 : Nat) (l1 : Int64) (l3 : Int32) (l4 : Int32) (H : qx_H) (h : fm_X11_feed_b38 n l0 l1 l3 l4 H = some (r, H')), qx_V (xE st d) R (xc144 st) (38, [some (.ref l0), some (.long l1), none, some (.int l3), some (.int l4)], [], H) := by
  intro n
  induction n with
  | zero => intro l0 l1 l3 l4 H h; exact nomatch (show (none : Option (Int32 × qx_H)) = some (r, H') from h)
  | succ n ih =>
    intro l0 l1 l3 l4 H h
    unfold fm_X11_feed_b38 at h
    refine qv_br (c := l3 ≤ l4) (a := (87, [some (.ref l0), some (.long l1), none, some (.int l3), some (.int l4)], [], H)) (b := (44, [some (.ref l0), some (.long l1), none, some (.int l3), some (.int l4)], [], H)) 3 rfl (fun c41 => ?_) (fun c41 => ?_)
    · replace h := qv_pos c41 h
      refine qv_run 1 (σ := (88, [some (.ref l0), some (.long l1), none, some (.int l3), some (.int l4)], [.ref l0], H)) rfl ?_
      obtain ⟨v88, e88, h⟩ := qv_bind h
      refine qv_getR rfl e88 ?_
      refine qv_run 1 (σ := (92, [some (.ref l0), some (.long l1), none, some (.int l3), some (.int l4)], [.int 2, .ref v88], H)) rfl ?_
      obtain ⟨v92, e92, h⟩ := qv_bind h
      refine qv_ald rfl e92 ?_
      obtain ⟨rfl, rfl⟩ := qv_pair h
      exact qv_reti rfl hR
    · replace h := qv_neg c41 h
      refine qv_run 1 (σ := (45, [some (.ref l0), some (.long l1), none, some (.int l3), some (.int l4)], [.ref l0], H)) rfl ?_
      obtain ⟨v45, e45, h⟩ := qv_bind h
      refine qv_getR rfl e45 ?_
      refine qv_run 2 (σ := (52, [some (.ref l0), some (.long l1), none, some (.int l3), some (.int l4)], [.ref l0, .int 431, .ref v45], H)) rfl ?_
      obtain ⟨v52, e52, h⟩ := qv_bind h
      refine qv_getR rfl e52 ?_
      refine qv_run 1 (σ := (56, [some (.ref l0), some (.long l1), none, some (.int l3), some (.int l4)], [.int 2, .ref v52, .int 431, .ref v45], H)) rfl ?_
      obtain ⟨v56, e56, h⟩ := qv_bind h
      refine qv_ald rfl e56 ?_
      refine qv_run 9 (σ := (70, [some (.ref l0), some (.long l1), none, some (.int l3), some (.int l4)], [.int (Int64.toInt32 ((jl_shr l1 (8 * l4)) &&& 255)), .int (431 + v56), .ref v45], H)) rfl ?_
      obtain ⟨H70, e70, h⟩ := qv_bind h
      refine qv_ast rfl e70 ?_
      refine qv_run 1 (σ := (72, [some (.ref l0), some (.long l1), none, some (.int l3), some (.int l4)], [.ref l0], H70)) rfl ?_
      obtain ⟨v72, e72, h⟩ := qv_bind h
      refine qv_getR rfl e72 ?_
      refine qv_run 2 (σ := (77, [some (.ref l0), some (.long l1), none, some (.int l3), some (.int l4)], [.int 2, .ref v72, .int 2, .ref v72], H70)) rfl ?_
      obtain ⟨v77, e77, h⟩ := qv_bind h
      refine qv_ald rfl e77 ?_
      refine qv_run 2 (σ := (80, [some (.ref l0), some (.long l1), none, some (.int l3), some (.int l4)], [.int (v77 + 1), .int 2, .ref v72], H70)) rfl ?_
      obtain ⟨H80, e80, h⟩ := qv_bind h
      refine qv_ast rfl e80 ?_
      refine qv_run 2 (σ := (38, [some (.ref l0), some (.long l1), none, some (.int l3), some (.int (l4 + 1))], [], H80)) rfl ?_
      exact ih l0 l1 l3 (l4 + 1) H80 h
theorem tlb_X11_feed_38 {r : Int32} {H' : qx_H} : ∀ (n : Nat) (l0 : Nat) (l1 : Int64) (l3 : Int32) (l4 : Int32) (H : qx_H) (h : fm_X11_feed_b38 n l0 l1 l3 l4 H = some (r, H')), H'.length = H.length := by
  intro n
  induction n with
  | zero => intro l0 l1 l3 l4 H h; exact nomatch (show (none : Option (Int32 × qx_H)) = some (r, H') from h)
  | succ n ih =>
    intro l0 l1 l3 l4 H h
    unfold fm_X11_feed_b38 at h
    by_cases c41 : l3 ≤ l4
    · replace h := qv_pos c41 h
      obtain ⟨v88, e88, h⟩ := qv_bind h
      obtain ⟨v92, e92, h⟩ := qv_bind h
      obtain ⟨rfl, rfl⟩ := qv_pair h
      rfl
    · replace h := qv_neg c41 h
      obtain ⟨v45, e45, h⟩ := qv_bind h
      obtain ⟨v52, e52, h⟩ := qv_bind h
      obtain ⟨v56, e56, h⟩ := qv_bind h
      obtain ⟨H70, e70, h⟩ := qv_bind h
      have q_H70 := hp_ast_len e70
      obtain ⟨v72, e72, h⟩ := qv_bind h
      obtain ⟨v77, e77, h⟩ := qv_bind h
      obtain ⟨H80, e80, h⟩ := qv_bind h
      have q_H80 := hp_ast_len e80
      have q_end := ih l0 l1 l3 (l4 + 1) H80 h
      omega
theorem tb_X11_feed_0 {st : xT} {d : Nat} {R : Option Value → qx_H → Prop} (hd : 1 ≤ d) {r : Int32} {H' : qx_H} (hR : R (some (.int r)) H') (a0 : Nat) (a1 : Int64) (a3 : Int32) (H : qx_H) (h : fm_X11_feed a0 a1 a3 H = some (r, H')) : qx_V (xE st d) R (xc144 st) (0, [some (.ref a0), some (.long a1), none, some (.int a3), none], [], H) := by
  unfold fm_X11_feed at h
  refine qv_run 3 (σ := (4, [some (.ref a0), some (.long a1), none, some (.int a3), none], [.int 8, .int 1, .int a3], H)) rfl ?_
  refine qv_call [.int a3, .int 1, .int 8] rfl rfl rfl (Nat.le_of_ble_eq_true rfl) (th_X11_in (by omega) rfl) rfl ?_
  refine qv_br (c := (fm_X11_in a3 1 8) = 0) (a := (10, [some (.ref a0), some (.long a1), none, some (.int a3), none], [], H)) (b := (16, [some (.ref a0), some (.long a1), none, some (.int a3), none], [], H)) 1 rfl (fun c7 => ?_) (fun c7 => ?_)
  · replace h := qv_pos c7 h
    refine qv_run 2 (σ := (12, [some (.ref a0), some (.long a1), none, some (.int a3), none], [.int 1, .ref a0], H)) rfl ?_
    obtain ⟨g12, h⟩ := qv_guard h
    obtain ⟨v12, H12, e12, h⟩ := qv_bind2 h
    refine qv_callV [.int 1] rfl rfl rfl (Nat.le_of_ble_eq_true rfl) g12 (th_X11_error (by omega) e12) (tl_X11_error e12) ?_
    obtain ⟨rfl, rfl⟩ := qv_pair h
    exact qv_reti rfl hR
  · replace h := qv_neg c7 h
    refine qv_run 1 (σ := (17, [some (.ref a0), some (.long a1), none, some (.int a3), none], [.ref a0], H)) rfl ?_
    obtain ⟨v17, e17, h⟩ := qv_bind h
    refine qv_getR rfl e17 ?_
    refine qv_run 1 (σ := (21, [some (.ref a0), some (.long a1), none, some (.int a3), none], [.int 2, .ref v17], H)) rfl ?_
    obtain ⟨v21, e21, h⟩ := qv_bind h
    refine qv_ald rfl e21 ?_
    refine qv_br (c := (v21 + a3) ≤ 60) (a := (35, [some (.ref a0), some (.long a1), none, some (.int a3), none], [], H)) (b := (29, [some (.ref a0), some (.long a1), none, some (.int a3), none], [], H)) 4 rfl (fun c26 => ?_) (fun c26 => ?_)
    · replace h := qv_pos c26 h
      refine qv_run 2 (σ := (38, [some (.ref a0), some (.long a1), none, some (.int a3), some (.int 0)], [], H)) rfl ?_
      exact tb_X11_feed_38 hd hR 5000 a0 a1 a3 0 H h
    · replace h := qv_neg c26 h
      refine qv_run 2 (σ := (31, [some (.ref a0), some (.long a1), none, some (.int a3), none], [.int 4, .ref a0], H)) rfl ?_
      obtain ⟨g31, h⟩ := qv_guard h
      obtain ⟨v31, H31, e31, h⟩ := qv_bind2 h
      refine qv_callV [.int 4] rfl rfl rfl (Nat.le_of_ble_eq_true rfl) g31 (th_X11_error (by omega) e31) (tl_X11_error e31) ?_
      obtain ⟨rfl, rfl⟩ := qv_pair h
      exact qv_reti rfl hR
theorem tlb_X11_feed_0 {r : Int32} {H' : qx_H} (a0 : Nat) (a1 : Int64) (a3 : Int32) (H : qx_H) (h : fm_X11_feed a0 a1 a3 H = some (r, H')) : H'.length = H.length := by
  unfold fm_X11_feed at h
  by_cases c7 : (fm_X11_in a3 1 8) = 0
  · replace h := qv_pos c7 h
    obtain ⟨g12, h⟩ := qv_guard h
    obtain ⟨v12, H12, e12, h⟩ := qv_bind2 h
    have q_H12 := tl_X11_error e12
    obtain ⟨rfl, rfl⟩ := qv_pair h
    omega
  · replace h := qv_neg c7 h
    obtain ⟨v17, e17, h⟩ := qv_bind h
    obtain ⟨v21, e21, h⟩ := qv_bind h
    by_cases c26 : (v21 + a3) ≤ 60
    · replace h := qv_pos c26 h
      exact tlb_X11_feed_38 5000 a0 a1 a3 0 H h
    · replace h := qv_neg c26 h
      obtain ⟨g31, h⟩ := qv_guard h
      obtain ⟨v31, H31, e31, h⟩ := qv_bind2 h
      have q_H31 := tl_X11_error e31
      obtain ⟨rfl, rfl⟩ := qv_pair h
      omega
theorem th_X11_feed {st : xT} {d : Nat} (hd : 2 ≤ d) {a0 : Nat} {a1 : Int64} {a3 : Int32} {H : qx_H} {r : Int32} {H' : qx_H} (h : fm_X11_feed a0 a1 a3 H = some (r, H')) : xE st d 144 [.ref a0, .long a1, .int a3] H (some (.int r)) H' := by
  obtain ⟨d, rfl⟩ : ∃ d', d = d' + 1 := ⟨d - 1, by omega⟩
  exact xE_of (xe144 st) xl144 (Nat.le_of_ble_eq_true rfl) (ls := [some (.ref a0), some (.long a1), none, some (.int a3), none]) rfl (tb_X11_feed_0 (by omega) ⟨rfl, rfl⟩ a0 a1 a3 H h)
theorem tl_X11_feed {a0 : Nat} {a1 : Int64} {a3 : Int32} {H : qx_H} {r : Int32} {H' : qx_H} (h : fm_X11_feed a0 a1 a3 H = some (r, H')) : H'.length = H.length := tlb_X11_feed_0 a0 a1 a3 H h
def fm_X11_look (a0 : Nat) (H : qx_H) : Option Int32 := (hp_gI H a0 9 5).bind fun v1 => (hp_gR H a0 9 0).bind fun v5 => (hp_ald H v5 2).bind fun v9 => if v9 ≤ v1 then (some (-1)) else ((hp_gR H a0 9 0).bind fun v14 => (hp_gI H a0 9 5).bind fun v21 => (hp_ald H v14 (431 + v21)).bind fun v25 => some v25)
theorem tb_X11_look_0 {st : xT} {d : Nat} {R : Option Value → qx_H → Prop} (hd : 0 ≤ d) {r : Int32} {H : qx_H} (hR : R (some (.int r)) H) (a0 : Nat) (h : fm_X11_look a0 H = some r) : qx_V (xE st d) R (xc145 st) (0, [some (.ref a0)], [], H) := by
  unfold fm_X11_look at h
  refine qv_run 1 (σ := (1, [some (.ref a0)], [.ref a0], H)) rfl ?_
  obtain ⟨v1, e1, h⟩ := qv_bind h
  refine qv_getI rfl e1 ?_
  refine qv_run 1 (σ := (5, [some (.ref a0)], [.ref a0, .int v1], H)) rfl ?_
  obtain ⟨v5, e5, h⟩ := qv_bind h
  refine qv_getR rfl e5 ?_
  refine qv_run 1 (σ := (9, [some (.ref a0)], [.int 2, .ref v5, .int v1], H)) rfl ?_
  obtain ⟨v9, e9, h⟩ := qv_bind h
  refine qv_ald rfl e9 ?_
  refine qv_br (c := v9 ≤ v1) (a := (29, [some (.ref a0)], [], H)) (b := (13, [some (.ref a0)], [], H)) 1 rfl (fun c10 => ?_) (fun c10 => ?_)
  · replace h := qv_pos c10 h
    refine qv_run 1 (σ := (30, [some (.ref a0)], [.int (-1)], H)) rfl ?_
    cases h
    exact qv_reti rfl hR
  · replace h := qv_neg c10 h
    refine qv_run 1 (σ := (14, [some (.ref a0)], [.ref a0], H)) rfl ?_
    obtain ⟨v14, e14, h⟩ := qv_bind h
    refine qv_getR rfl e14 ?_
    refine qv_run 2 (σ := (21, [some (.ref a0)], [.ref a0, .int 431, .ref v14], H)) rfl ?_
    obtain ⟨v21, e21, h⟩ := qv_bind h
    refine qv_getI rfl e21 ?_
    refine qv_run 1 (σ := (25, [some (.ref a0)], [.int (431 + v21), .ref v14], H)) rfl ?_
    obtain ⟨v25, e25, h⟩ := qv_bind h
    refine qv_ald rfl e25 ?_
    refine qv_run 1 (σ := (30, [some (.ref a0)], [.int v25], H)) rfl ?_
    cases h
    exact qv_reti rfl hR
theorem th_X11_look {st : xT} {d : Nat} (hd : 1 ≤ d) {a0 : Nat} {r : Int32} {H : qx_H} (h : fm_X11_look a0 H = some r) : xE st d 145 [.ref a0] H (some (.int r)) H := by
  obtain ⟨d, rfl⟩ : ∃ d', d = d' + 1 := ⟨d - 1, by omega⟩
  exact xE_of (xe145 st) xl145 (Nat.le_of_ble_eq_true rfl) (ls := [some (.ref a0)]) rfl (tb_X11_look_0 (by omega) ⟨rfl, rfl⟩ a0 h)
def fm_X11_isName (a0 : Nat) (a1 : Int32) (H : qx_H) : Option Int32 := (hp_gI H a0 9 8).bind fun v1 => if v1 = 0 then (if a1 = 109 then (some 1) else (if a1 = 100 then (some 1) else (if a1 = 104 then (some 1) else (some 0)))) else (if a1 = 116 then (some 1) else (if a1 = 119 then (some 1) else (if a1 = 97 then (some 1) else (some 0))))
theorem tb_X11_isName_0 {st : xT} {d : Nat} {R : Option Value → qx_H → Prop} (hd : 0 ≤ d) {r : Int32} {H : qx_H} (hR : R (some (.int r)) H) (a0 : Nat) (a1 : Int32) (h : fm_X11_isName a0 a1 H = some r) : qx_V (xE st d) R (xc146 st) (0, [some (.ref a0), some (.int a1)], [], H) := by
  unfold fm_X11_isName at h
  refine qv_run 1 (σ := (1, [some (.ref a0), some (.int a1)], [.ref a0], H)) rfl ?_
  obtain ⟨v1, e1, h⟩ := qv_bind h
  refine qv_getI rfl e1 ?_
  refine qv_br (c := v1 = 0) (a := (7, [some (.ref a0), some (.int a1)], [], H)) (b := (31, [some (.ref a0), some (.int a1)], [], H)) 1 rfl (fun c4 => ?_) (fun c4 => ?_)
  · replace h := qv_pos c4 h
    refine qv_br (c := a1 = 109) (a := (25, [some (.ref a0), some (.int a1)], [], H)) (b := (13, [some (.ref a0), some (.int a1)], [], H)) 3 rfl (fun c10 => ?_) (fun c10 => ?_)
    · replace h := qv_pos c10 h
      refine qv_run 2 (σ := (30, [some (.ref a0), some (.int a1)], [.int 1], H)) rfl ?_
      cases h
      exact qv_retz rfl (Or.inr rfl) hR
    · replace h := qv_neg c10 h
      refine qv_br (c := a1 = 100) (a := (25, [some (.ref a0), some (.int a1)], [], H)) (b := (19, [some (.ref a0), some (.int a1)], [], H)) 3 rfl (fun c16 => ?_) (fun c16 => ?_)
      · replace h := qv_pos c16 h
        refine qv_run 2 (σ := (30, [some (.ref a0), some (.int a1)], [.int 1], H)) rfl ?_
        cases h
        exact qv_retz rfl (Or.inr rfl) hR
      · replace h := qv_neg c16 h
        refine qv_br (c := a1 = 104) (a := (25, [some (.ref a0), some (.int a1)], [], H)) (b := (29, [some (.ref a0), some (.int a1)], [], H)) 3 rfl (fun c22 => ?_) (fun c22 => ?_)
        · replace h := qv_pos c22 h
          refine qv_run 2 (σ := (30, [some (.ref a0), some (.int a1)], [.int 1], H)) rfl ?_
          cases h
          exact qv_retz rfl (Or.inr rfl) hR
        · replace h := qv_neg c22 h
          refine qv_run 1 (σ := (30, [some (.ref a0), some (.int a1)], [.int 0], H)) rfl ?_
          cases h
          exact qv_retz rfl (Or.inl rfl) hR
  · replace h := qv_neg c4 h
    refine qv_br (c := a1 = 116) (a := (49, [some (.ref a0), some (.int a1)], [], H)) (b := (37, [some (.ref a0), some (.int a1)], [], H)) 3 rfl (fun c34 => ?_) (fun c34 => ?_)
    · replace h := qv_pos c34 h
      refine qv_run 2 (σ := (54, [some (.ref a0), some (.int a1)], [.int 1], H)) rfl ?_
      cases h
      exact qv_retz rfl (Or.inr rfl) hR
    · replace h := qv_neg c34 h
      refine qv_br (c := a1 = 119) (a := (49, [some (.ref a0), some (.int a1)], [], H)) (b := (43, [some (.ref a0), some (.int a1)], [], H)) 3 rfl (fun c40 => ?_) (fun c40 => ?_)
      · replace h := qv_pos c40 h
        refine qv_run 2 (σ := (54, [some (.ref a0), some (.int a1)], [.int 1], H)) rfl ?_
        cases h
        exact qv_retz rfl (Or.inr rfl) hR
      · replace h := qv_neg c40 h
        refine qv_br (c := a1 = 97) (a := (49, [some (.ref a0), some (.int a1)], [], H)) (b := (53, [some (.ref a0), some (.int a1)], [], H)) 3 rfl (fun c46 => ?_) (fun c46 => ?_)
        · replace h := qv_pos c46 h
          refine qv_run 2 (σ := (54, [some (.ref a0), some (.int a1)], [.int 1], H)) rfl ?_
          cases h
          exact qv_retz rfl (Or.inr rfl) hR
        · replace h := qv_neg c46 h
          refine qv_run 1 (σ := (54, [some (.ref a0), some (.int a1)], [.int 0], H)) rfl ?_
          cases h
          exact qv_retz rfl (Or.inl rfl) hR
theorem tzb_X11_isName_0 {r : Int32} {H : qx_H} (a0 : Nat) (a1 : Int32) (h : fm_X11_isName a0 a1 H = some r) : r = 0 ∨ r = 1 := by
  unfold fm_X11_isName at h
  obtain ⟨v1, e1, h⟩ := qv_bind h
  by_cases c4 : v1 = 0
  · replace h := qv_pos c4 h
    by_cases c10 : a1 = 109
    · replace h := qv_pos c10 h
      cases h
      exact Or.inr rfl
    · replace h := qv_neg c10 h
      by_cases c16 : a1 = 100
      · replace h := qv_pos c16 h
        cases h
        exact Or.inr rfl
      · replace h := qv_neg c16 h
        by_cases c22 : a1 = 104
        · replace h := qv_pos c22 h
          cases h
          exact Or.inr rfl
        · replace h := qv_neg c22 h
          cases h
          exact Or.inl rfl
  · replace h := qv_neg c4 h
    by_cases c34 : a1 = 116
    · replace h := qv_pos c34 h
      cases h
      exact Or.inr rfl
    · replace h := qv_neg c34 h
      by_cases c40 : a1 = 119
      · replace h := qv_pos c40 h
        cases h
        exact Or.inr rfl
      · replace h := qv_neg c40 h
        by_cases c46 : a1 = 97
        · replace h := qv_pos c46 h
          cases h
          exact Or.inr rfl
        · replace h := qv_neg c46 h
          cases h
          exact Or.inl rfl
theorem th_X11_isName {st : xT} {d : Nat} (hd : 1 ≤ d) {a0 : Nat} {a1 : Int32} {r : Int32} {H : qx_H} (h : fm_X11_isName a0 a1 H = some r) : xE st d 146 [.ref a0, .int a1] H (some (.int r)) H := by
  obtain ⟨d, rfl⟩ : ∃ d', d = d' + 1 := ⟨d - 1, by omega⟩
  exact xE_of (xe146 st) xl146 (Nat.le_of_ble_eq_true rfl) (ls := [some (.ref a0), some (.int a1)]) rfl (tb_X11_isName_0 (by omega) ⟨rfl, rfl⟩ a0 a1 h)
theorem tz_X11_isName {a0 : Nat} {a1 : Int32} {r : Int32} {H : qx_H} (h : fm_X11_isName a0 a1 H = some r) : r = 0 ∨ r = 1 := tzb_X11_isName_0 a0 a1 h
def fm_X11_step1 (a0 : Nat) (a1 : Int32) (a2 : Int32) (H : qx_H) : Option qx_H := (hp_gR H a0 9 9).bind fun v1 => (hp_gI H a0 9 7).bind fun v6 => (hp_ast H v1 (2 * v6) a1).bind fun H11 => (hp_gR H11 a0 9 9).bind fun v13 => (hp_gI H11 a0 9 7).bind fun v18 => (hp_ast H11 v13 ((2 * v18) + 1) a2).bind fun H25 => (hp_gI H25 a0 9 7).bind fun v28 => (hp_put H25 a0 9 7 (.int (v28 + 1))).bind fun H33 => some H33
theorem tb_X11_step1_0 {st : xT} {d : Nat} {R : Option Value → qx_H → Prop} (hd : 0 ≤ d) {H' : qx_H} (hR : R (none) H') (a0 : Nat) (a1 : Int32) (a2 : Int32) (H : qx_H) (h : fm_X11_step1 a0 a1 a2 H = some H') : qx_V (xE st d) R (xc147 st) (0, [some (.ref a0), some (.int a1), some (.int a2)], [], H) := by
  unfold fm_X11_step1 at h
  refine qv_run 1 (σ := (1, [some (.ref a0), some (.int a1), some (.int a2)], [.ref a0], H)) rfl ?_
  obtain ⟨v1, e1, h⟩ := qv_bind h
  refine qv_getR rfl e1 ?_
  refine qv_run 2 (σ := (6, [some (.ref a0), some (.int a1), some (.int a2)], [.ref a0, .int 2, .ref v1], H)) rfl ?_
  obtain ⟨v6, e6, h⟩ := qv_bind h
  refine qv_getI rfl e6 ?_
  refine qv_run 2 (σ := (11, [some (.ref a0), some (.int a1), some (.int a2)], [.int a1, .int (2 * v6), .ref v1], H)) rfl ?_
  obtain ⟨H11, e11, h⟩ := qv_bind h
  refine qv_ast rfl e11 ?_
  refine qv_run 1 (σ := (13, [some (.ref a0), some (.int a1), some (.int a2)], [.ref a0], H11)) rfl ?_
  obtain ⟨v13, e13, h⟩ := qv_bind h
  refine qv_getR rfl e13 ?_
  refine qv_run 2 (σ := (18, [some (.ref a0), some (.int a1), some (.int a2)], [.ref a0, .int 2, .ref v13], H11)) rfl ?_
  obtain ⟨v18, e18, h⟩ := qv_bind h
  refine qv_getI rfl e18 ?_
  refine qv_run 4 (σ := (25, [some (.ref a0), some (.int a1), some (.int a2)], [.int a2, .int ((2 * v18) + 1), .ref v13], H11)) rfl ?_
  obtain ⟨H25, e25, h⟩ := qv_bind h
  refine qv_ast rfl e25 ?_
  refine qv_run 2 (σ := (28, [some (.ref a0), some (.int a1), some (.int a2)], [.ref a0, .ref a0], H25)) rfl ?_
  obtain ⟨v28, e28, h⟩ := qv_bind h
  refine qv_getI rfl e28 ?_
  refine qv_run 2 (σ := (33, [some (.ref a0), some (.int a1), some (.int a2)], [.int (v28 + 1), .ref a0], H25)) rfl ?_
  obtain ⟨H33, e33, h⟩ := qv_bind h
  refine qv_putI rfl e33 ?_
  cases h
  exact qv_ret0 rfl hR
theorem tlb_X11_step1_0 {H' : qx_H} (a0 : Nat) (a1 : Int32) (a2 : Int32) (H : qx_H) (h : fm_X11_step1 a0 a1 a2 H = some H') : H'.length = H.length := by
  unfold fm_X11_step1 at h
  obtain ⟨v1, e1, h⟩ := qv_bind h
  obtain ⟨v6, e6, h⟩ := qv_bind h
  obtain ⟨H11, e11, h⟩ := qv_bind h
  have q_H11 := hp_ast_len e11
  obtain ⟨v13, e13, h⟩ := qv_bind h
  obtain ⟨v18, e18, h⟩ := qv_bind h
  obtain ⟨H25, e25, h⟩ := qv_bind h
  have q_H25 := hp_ast_len e25
  obtain ⟨v28, e28, h⟩ := qv_bind h
  obtain ⟨H33, e33, h⟩ := qv_bind h
  have q_H33 := hp_put_len e33
  cases h
  omega
theorem th_X11_step1 {st : xT} {d : Nat} (hd : 1 ≤ d) {a0 : Nat} {a1 : Int32} {a2 : Int32} {H : qx_H} {H' : qx_H} (h : fm_X11_step1 a0 a1 a2 H = some H') : xE st d 147 [.ref a0, .int a1, .int a2] H (none) H' := by
  obtain ⟨d, rfl⟩ : ∃ d', d = d' + 1 := ⟨d - 1, by omega⟩
  exact xE_of (xe147 st) xl147 (Nat.le_of_ble_eq_true rfl) (ls := [some (.ref a0), some (.int a1), some (.int a2)]) rfl (tb_X11_step1_0 (by omega) ⟨rfl, rfl⟩ a0 a1 a2 H h)
theorem tl_X11_step1 {a0 : Nat} {a1 : Int32} {a2 : Int32} {H : qx_H} {H' : qx_H} (h : fm_X11_step1 a0 a1 a2 H = some H') : H'.length = H.length := tlb_X11_step1_0 a0 a1 a2 H h
def fm_X11_opens (a0 : Nat) (H : qx_H) : Option (Int32 × qx_H) := (hp_gI H a0 9 6).bind fun v1 => if v1 = 5 then (some (0, H)) else ((hp_gI H a0 9 6).bind fun v12 => (hp_put H a0 9 6 (.int (v12 + 1))).bind fun H17 => (hp_gI H17 a0 9 5).bind fun v22 => (hp_put H17 a0 9 5 (.int (v22 + 1))).bind fun H27 => some (1, H27))
theorem tb_X11_opens_0 {st : xT} {d : Nat} {R : Option Value → qx_H → Prop} (hd : 0 ≤ d) {r : Int32} {H' : qx_H} (hR : R (some (.int r)) H') (a0 : Nat) (H : qx_H) (h : fm_X11_opens a0 H = some (r, H')) : qx_V (xE st d) R (xc153 st) (0, [some (.ref a0)], [], H) := by
  unfold fm_X11_opens at h
  refine qv_run 1 (σ := (1, [some (.ref a0)], [.ref a0], H)) rfl ?_
  obtain ⟨v1, e1, h⟩ := qv_bind h
  refine qv_getI rfl e1 ?_
  refine qv_br (c := v1 = 5) (a := (8, [some (.ref a0)], [], H)) (b := (10, [some (.ref a0)], [], H)) 2 rfl (fun c5 => ?_) (fun c5 => ?_)
  · replace h := qv_pos c5 h
    refine qv_run 1 (σ := (9, [some (.ref a0)], [.int 0], H)) rfl ?_
    obtain ⟨rfl, rfl⟩ := qv_pair h
    exact qv_retz rfl (Or.inl rfl) hR
  · replace h := qv_neg c5 h
    refine qv_run 2 (σ := (12, [some (.ref a0)], [.ref a0, .ref a0], H)) rfl ?_
    obtain ⟨v12, e12, h⟩ := qv_bind h
    refine qv_getI rfl e12 ?_
    refine qv_run 2 (σ := (17, [some (.ref a0)], [.int (v12 + 1), .ref a0], H)) rfl ?_
    obtain ⟨H17, e17, h⟩ := qv_bind h
    refine qv_putI rfl e17 ?_
    refine qv_run 2 (σ := (22, [some (.ref a0)], [.ref a0, .ref a0], H17)) rfl ?_
    obtain ⟨v22, e22, h⟩ := qv_bind h
    refine qv_getI rfl e22 ?_
    refine qv_run 2 (σ := (27, [some (.ref a0)], [.int (v22 + 1), .ref a0], H17)) rfl ?_
    obtain ⟨H27, e27, h⟩ := qv_bind h
    refine qv_putI rfl e27 ?_
    refine qv_run 1 (σ := (31, [some (.ref a0)], [.int 1], H27)) rfl ?_
    obtain ⟨rfl, rfl⟩ := qv_pair h
    exact qv_retz rfl (Or.inr rfl) hR
theorem tlb_X11_opens_0 {r : Int32} {H' : qx_H} (a0 : Nat) (H : qx_H) (h : fm_X11_opens a0 H = some (r, H')) : H'.length = H.length := by
  unfold fm_X11_opens at h
  obtain ⟨v1, e1, h⟩ := qv_bind h
  by_cases c5 : v1 = 5
  · replace h := qv_pos c5 h
    obtain ⟨rfl, rfl⟩ := qv_pair h
    rfl
  · replace h := qv_neg c5 h
    obtain ⟨v12, e12, h⟩ := qv_bind h
    obtain ⟨H17, e17, h⟩ := qv_bind h
    have q_H17 := hp_put_len e17
    obtain ⟨v22, e22, h⟩ := qv_bind h
    obtain ⟨H27, e27, h⟩ := qv_bind h
    have q_H27 := hp_put_len e27
    obtain ⟨rfl, rfl⟩ := qv_pair h
    omega
theorem tzb_X11_opens_0 {r : Int32} {H' : qx_H} (a0 : Nat) (H : qx_H) (h : fm_X11_opens a0 H = some (r, H')) : r = 0 ∨ r = 1 := by
  unfold fm_X11_opens at h
  obtain ⟨v1, e1, h⟩ := qv_bind h
  by_cases c5 : v1 = 5
  · replace h := qv_pos c5 h
    obtain ⟨rfl, rfl⟩ := qv_pair h
    exact Or.inl rfl
  · replace h := qv_neg c5 h
    obtain ⟨v12, e12, h⟩ := qv_bind h
    obtain ⟨H17, e17, h⟩ := qv_bind h
    obtain ⟨v22, e22, h⟩ := qv_bind h
    obtain ⟨H27, e27, h⟩ := qv_bind h
    obtain ⟨rfl, rfl⟩ := qv_pair h
    exact Or.inr rfl
theorem th_X11_opens {st : xT} {d : Nat} (hd : 1 ≤ d) {a0 : Nat} {H : qx_H} {r : Int32} {H' : qx_H} (h : fm_X11_opens a0 H = some (r, H')) : xE st d 153 [.ref a0] H (some (.int r)) H' := by
  obtain ⟨d, rfl⟩ : ∃ d', d = d' + 1 := ⟨d - 1, by omega⟩
  exact xE_of (xe153 st) xl153 (Nat.le_of_ble_eq_true rfl) (ls := [some (.ref a0)]) rfl (tb_X11_opens_0 (by omega) ⟨rfl, rfl⟩ a0 H h)
theorem tl_X11_opens {a0 : Nat} {H : qx_H} {r : Int32} {H' : qx_H} (h : fm_X11_opens a0 H = some (r, H')) : H'.length = H.length := tlb_X11_opens_0 a0 H h
theorem tz_X11_opens {a0 : Nat} {H : qx_H} {r : Int32} {H' : qx_H} (h : fm_X11_opens a0 H = some (r, H')) : r = 0 ∨ r = 1 := tzb_X11_opens_0 a0 H h
def fm_X11_product_b36 (rc : Nat → qx_H → Option (Int32 × qx_H)) (k9 : Nat → qx_H → Option (Int32 × qx_H)) (l0 : Nat) (H : qx_H) : Option (Int32 × qx_H) := if hp_is H l0 9 = true then ((fm_X11_look l0 H).bind fun v37 => (hp_gI H l0 9 5).bind fun v43 => (hp_put H l0 9 5 (.int (v43 + 1))).bind fun H48 => if hp_is H48 l0 9 = true then (ob2 (rc l0 H48) fun v52 H52 => if v52 = 0 then (some (0, H52)) else (if hp_is H52 l0 9 = true then ((fm_X11_step1 l0 3 v37 H52).bind fun H63 => k9 l0 H63) else none)) else none) else none
def fm_X11_product_b9 (rc : Nat → qx_H → Option (Int32 × qx_H)) : Nat → Nat → qx_H → Option (Int32 × qx_H)
  | 0, _, _ => none
  | n + 1, l0, H => if hp_is H l0 9 = true then ((fm_X11_look l0 H).bind fun v10 => if v10 = 42 then (fm_X11_product_b36 rc (fm_X11_product_b9 rc n) l0 H) else ((fm_X11_look l0 H).bind fun v19 => if v19 = 47 then (fm_X11_product_b36 rc (fm_X11_product_b9 rc n) l0 H) else ((fm_X11_look l0 H).bind fun v28 => if v28 = 37 then (fm_X11_product_b36 rc (fm_X11_product_b9 rc n) l0 H) else (some (1, H))))) else none
def fm_X11_product (rc : Nat → qx_H → Option (Int32 × qx_H)) (a0 : Nat) (H : qx_H) : Option (Int32 × qx_H) := if hp_is H a0 9 = true then (ob2 (rc a0 H) fun v1 H1 => if v1 = 0 then (some (0, H1)) else (fm_X11_product_b9 rc 5000 a0 H1)) else none
theorem tb_X11_product_36 {st : xT} {e : Nat} {d : Nat} {R : Option Value → qx_H → Prop} (rc : Nat → qx_H → Option (Int32 × qx_H)) (hB : 1 ≤ e) (hrc : ∀ {b0 : Nat} {H1 H2 : qx_H} {r1 : Int32}, rc b0 H1 = some (r1, H2) → xE st e 154 [.ref b0] H1 (some (.int r1)) H2) (hrl : ∀ {b0 : Nat} {H1 H2 : qx_H} {r1 : Int32}, rc b0 H1 = some (r1, H2) → H2.length = H1.length) (hrz : ∀ {b0 : Nat} {H1 H2 : qx_H} {r1 : Int32}, rc b0 H1 = some (r1, H2) → r1 = 0 ∨ r1 = 1) (hd : e + 0 ≤ d) {r : Int32} {H' : qx_H} (k9 : Nat → qx_H → Option (Int32 × qx_H)) (hk9 : ∀ (l0 : Nat) (z1 : Option Value) (hz1 : qx_ns z1 = true) (H : qx_H), k9 l0 H = some (r, H') → qx_V (xE st d) R (xc152 st) (9, [some (.ref l0), z1], [], H)) (hR : R (some (.int r)) H') (l0 : Nat) (z1 : Option Value) (hz1 : qx_ns z1 = true) (H : qx_H) (h : fm_X11_product_b36 rc k9 l0 H = some (r, H')) : qx_V (xE st d) R (xc152 st) (36, [some (.ref l0), z1], [], H) := by
  unfold fm_X11_product_b36 at h
  refine qv_run 1 (σ := (37, [some (.ref l0), z1], [.ref l0], H)) rfl ?_
  obtain ⟨g37, h⟩ := qv_guard h
  obtain ⟨v37, e37, h⟩ := qv_bind h
  refine qv_callV [] rfl rfl rfl (Nat.le_of_ble_eq_true rfl) g37 (th_X11_look (by omega) e37) rfl ?_
  refine qv_run 3 (σ := (43, [some (.ref l0), some (.int v37)], [.ref l0, .ref l0], H)) rfl ?_
  obtain ⟨v43, e43, h⟩ := qv_bind h
  refine qv_getI rfl e43 ?_
  refine qv_run 2 (σ := (48, [some (.ref l0), some (.int v37)], [.int (v43 + 1), .ref l0], H)) rfl ?_
  obtain ⟨H48, e48, h⟩ := qv_bind h
  refine qv_putI rfl e48 ?_
  refine qv_run 1 (σ := (52, [some (.ref l0), some (.int v37)], [.ref l0], H48)) rfl ?_
  obtain ⟨g52, h⟩ := qv_guard h
  obtain ⟨v52, H52, e52, h⟩ := qv_bind2 h
  refine qv_callV [] rfl rfl rfl (Nat.le_of_ble_eq_true rfl) g52 (xE_le (by omega) (hrc e52)) (hrl e52) ?_
  refine qv_br (c := v52 = 0) (a := (58, [some (.ref l0), some (.int v37)], [], H52)) (b := (60, [some (.ref l0), some (.int v37)], [], H52)) 1 rfl (fun c55 => ?_) (fun c55 => ?_)
  · replace h := qv_pos c55 h
    refine qv_run 1 (σ := (59, [some (.ref l0), some (.int v37)], [.int 0], H52)) rfl ?_
    obtain ⟨rfl, rfl⟩ := qv_pair h
    exact qv_retz rfl (Or.inl rfl) hR
  · replace h := qv_neg c55 h
    refine qv_run 3 (σ := (63, [some (.ref l0), some (.int v37)], [.int v37, .int 3, .ref l0], H52)) rfl ?_
    obtain ⟨g63, h⟩ := qv_guard h
    obtain ⟨H63, e63, h⟩ := qv_bind h
    refine qv_callV [.int 3, .int v37] rfl rfl rfl (Nat.le_of_ble_eq_true rfl) g63 (th_X11_step1 (by omega) e63) (tl_X11_step1 e63) ?_
    refine qv_run 1 (σ := (9, [some (.ref l0), some (.int v37)], [], H63)) rfl ?_
    exact hk9 l0 (some (.int v37)) rfl H63 h
theorem tlb_X11_product_36 (rc : Nat → qx_H → Option (Int32 × qx_H)) (hrl : ∀ {b0 : Nat} {H1 H2 : qx_H} {r1 : Int32}, rc b0 H1 = some (r1, H2) → H2.length = H1.length) {r : Int32} {H' : qx_H} (k9 : Nat → qx_H → Option (Int32 × qx_H)) (hk9 : ∀ (l0 : Nat) (H : qx_H), k9 l0 H = some (r, H') → H'.length = H.length) (l0 : Nat) (H : qx_H) (h : fm_X11_product_b36 rc k9 l0 H = some (r, H')) : H'.length = H.length := by
  unfold fm_X11_product_b36 at h
  obtain ⟨g37, h⟩ := qv_guard h
  obtain ⟨v37, e37, h⟩ := qv_bind h
  obtain ⟨v43, e43, h⟩ := qv_bind h
  obtain ⟨H48, e48, h⟩ := qv_bind h
  have q_H48 := hp_put_len e48
  obtain ⟨g52, h⟩ := qv_guard h
  obtain ⟨v52, H52, e52, h⟩ := qv_bind2 h
  have q_H52 := hrl e52
  by_cases c55 : v52 = 0
  · replace h := qv_pos c55 h
    obtain ⟨rfl, rfl⟩ := qv_pair h
    omega
  · replace h := qv_neg c55 h
    obtain ⟨g63, h⟩ := qv_guard h
    obtain ⟨H63, e63, h⟩ := qv_bind h
    have q_H63 := tl_X11_step1 e63
    have q_end := hk9 l0 H63 h
    omega
theorem tzb_X11_product_36 (rc : Nat → qx_H → Option (Int32 × qx_H)) (hrz : ∀ {b0 : Nat} {H1 H2 : qx_H} {r1 : Int32}, rc b0 H1 = some (r1, H2) → r1 = 0 ∨ r1 = 1) {r : Int32} {H' : qx_H} (k9 : Nat → qx_H → Option (Int32 × qx_H)) (hk9 : ∀ (l0 : Nat) (H : qx_H), k9 l0 H = some (r, H') → r = 0 ∨ r = 1) (l0 : Nat) (H : qx_H) (h : fm_X11_product_b36 rc k9 l0 H = some (r, H')) : r = 0 ∨ r = 1 := by
  unfold fm_X11_product_b36 at h
  obtain ⟨g37, h⟩ := qv_guard h
  obtain ⟨v37, e37, h⟩ := qv_bind h
  obtain ⟨v43, e43, h⟩ := qv_bind h
  obtain ⟨H48, e48, h⟩ := qv_bind h
  obtain ⟨g52, h⟩ := qv_guard h
  obtain ⟨v52, H52, e52, h⟩ := qv_bind2 h
  by_cases c55 : v52 = 0
  · replace h := qv_pos c55 h
    obtain ⟨rfl, rfl⟩ := qv_pair h
    exact Or.inl rfl
  · replace h := qv_neg c55 h
    obtain ⟨g63, h⟩ := qv_guard h
    obtain ⟨H63, e63, h⟩ := qv_bind h
    exact hk9 l0 H63 h
theorem tb_X11_product_9 {st : xT} {e : Nat} {d : Nat} {R : Option Value → qx_H → Prop} (rc : Nat → qx_H → Option (Int32 × qx_H)) (hB : 1 ≤ e) (hrc : ∀ {b0 : Nat} {H1 H2 : qx_H} {r1 : Int32}, rc b0 H1 = some (r1, H2) → xE st e 154 [.ref b0] H1 (some (.int r1)) H2) (hrl : ∀ {b0 : Nat} {H1 H2 : qx_H} {r1 : Int32}, rc b0 H1 = some (r1, H2) → H2.length = H1.length) (hrz : ∀ {b0 : Nat} {H1 H2 : qx_H} {r1 : Int32}, rc b0 H1 = some (r1, H2) → r1 = 0 ∨ r1 = 1) (hd : e + 0 ≤ d) {r : Int32} {H' : qx_H} (hR : R (some (.int r)) H') : ∀ (n : Nat) (l0 : Nat) (z1 : Option Value) (hz1 : qx_ns z1 = true) (H : qx_H) (h : fm_X11_product_b9 rc n l0 H = some (r, H')), qx_V (xE st d) R (xc152 st) (9, [some (.ref l0), z1], [], H) := by
  intro n
  induction n with
  | zero => intro l0 z1 hz1 H h; exact nomatch (show (none : Option (Int32 × qx_H)) = some (r, H') from h)
  | succ n ih =>
    intro l0 z1 hz1 H h
    unfold fm_X11_product_b9 at h
    refine qv_run 1 (σ := (10, [some (.ref l0), z1], [.ref l0], H)) rfl ?_
    obtain ⟨g10, h⟩ := qv_guard h
    obtain ⟨v10, e10, h⟩ := qv_bind h
    refine qv_callV [] rfl rfl rfl (Nat.le_of_ble_eq_true rfl) g10 (th_X11_look (by omega) e10) rfl ?_
    refine qv_br (c := v10 = 42) (a := (36, [some (.ref l0), z1], [], H)) (b := (18, [some (.ref l0), z1], [], H)) 2 rfl (fun c15 => ?_) (fun c15 => ?_)
    · replace h := qv_pos c15 h
      exact tb_X11_product_36 rc hB hrc hrl hrz hd _ ih hR l0 z1 hz1 H h
    · replace h := qv_neg c15 h
      refine qv_run 1 (σ := (19, [some (.ref l0), z1], [.ref l0], H)) rfl ?_
      obtain ⟨v19, e19, h⟩ := qv_bind h
      refine qv_callV [] rfl rfl rfl (Nat.le_of_ble_eq_true rfl) g10 (th_X11_look (by omega) e19) rfl ?_
      refine qv_br (c := v19 = 47) (a := (36, [some (.ref l0), z1], [], H)) (b := (27, [some (.ref l0), z1], [], H)) 2 rfl (fun c24 => ?_) (fun c24 => ?_)
      · replace h := qv_pos c24 h
        exact tb_X11_product_36 rc hB hrc hrl hrz hd _ ih hR l0 z1 hz1 H h
      · replace h := qv_neg c24 h
        refine qv_run 1 (σ := (28, [some (.ref l0), z1], [.ref l0], H)) rfl ?_
        obtain ⟨v28, e28, h⟩ := qv_bind h
        refine qv_callV [] rfl rfl rfl (Nat.le_of_ble_eq_true rfl) g10 (th_X11_look (by omega) e28) rfl ?_
        refine qv_br (c := v28 = 37) (a := (36, [some (.ref l0), z1], [], H)) (b := (69, [some (.ref l0), z1], [], H)) 2 rfl (fun c33 => ?_) (fun c33 => ?_)
        · replace h := qv_pos c33 h
          exact tb_X11_product_36 rc hB hrc hrl hrz hd _ ih hR l0 z1 hz1 H h
        · replace h := qv_neg c33 h
          refine qv_run 1 (σ := (70, [some (.ref l0), z1], [.int 1], H)) rfl ?_
          obtain ⟨rfl, rfl⟩ := qv_pair h
          exact qv_retz rfl (Or.inr rfl) hR
theorem tlb_X11_product_9 (rc : Nat → qx_H → Option (Int32 × qx_H)) (hrl : ∀ {b0 : Nat} {H1 H2 : qx_H} {r1 : Int32}, rc b0 H1 = some (r1, H2) → H2.length = H1.length) {r : Int32} {H' : qx_H} : ∀ (n : Nat) (l0 : Nat) (H : qx_H) (h : fm_X11_product_b9 rc n l0 H = some (r, H')), H'.length = H.length := by
  intro n
  induction n with
  | zero => intro l0 H h; exact nomatch (show (none : Option (Int32 × qx_H)) = some (r, H') from h)
  | succ n ih =>
    intro l0 H h
    unfold fm_X11_product_b9 at h
    obtain ⟨g10, h⟩ := qv_guard h
    obtain ⟨v10, e10, h⟩ := qv_bind h
    by_cases c15 : v10 = 42
    · replace h := qv_pos c15 h
      exact tlb_X11_product_36 rc hrl _ ih l0 H h
    · replace h := qv_neg c15 h
      obtain ⟨v19, e19, h⟩ := qv_bind h
      by_cases c24 : v19 = 47
      · replace h := qv_pos c24 h
        exact tlb_X11_product_36 rc hrl _ ih l0 H h
      · replace h := qv_neg c24 h
        obtain ⟨v28, e28, h⟩ := qv_bind h
        by_cases c33 : v28 = 37
        · replace h := qv_pos c33 h
          exact tlb_X11_product_36 rc hrl _ ih l0 H h
        · replace h := qv_neg c33 h
          obtain ⟨rfl, rfl⟩ := qv_pair h
          rfl
theorem tzb_X11_product_9 (rc : Nat → qx_H → Option (Int32 × qx_H)) (hrz : ∀ {b0 : Nat} {H1 H2 : qx_H} {r1 : Int32}, rc b0 H1 = some (r1, H2) → r1 = 0 ∨ r1 = 1) {r : Int32} {H' : qx_H} : ∀ (n : Nat) (l0 : Nat) (H : qx_H) (h : fm_X11_product_b9 rc n l0 H = some (r, H')), r = 0 ∨ r = 1 := by
  intro n
  induction n with
  | zero => intro l0 H h; exact nomatch (show (none : Option (Int32 × qx_H)) = some (r, H') from h)
  | succ n ih =>
    intro l0 H h
    unfold fm_X11_product_b9 at h
    obtain ⟨g10, h⟩ := qv_guard h
    obtain ⟨v10, e10, h⟩ := qv_bind h
    by_cases c15 : v10 = 42
    · replace h := qv_pos c15 h
      exact tzb_X11_product_36 rc hrz _ ih l0 H h
    · replace h := qv_neg c15 h
      obtain ⟨v19, e19, h⟩ := qv_bind h
      by_cases c24 : v19 = 47
      · replace h := qv_pos c24 h
        exact tzb_X11_product_36 rc hrz _ ih l0 H h
      · replace h := qv_neg c24 h
        obtain ⟨v28, e28, h⟩ := qv_bind h
        by_cases c33 : v28 = 37
        · replace h := qv_pos c33 h
          exact tzb_X11_product_36 rc hrz _ ih l0 H h
        · replace h := qv_neg c33 h
          obtain ⟨rfl, rfl⟩ := qv_pair h
          exact Or.inr rfl
theorem tb_X11_product_0 {st : xT} {e : Nat} {d : Nat} {R : Option Value → qx_H → Prop} (rc : Nat → qx_H → Option (Int32 × qx_H)) (hB : 1 ≤ e) (hrc : ∀ {b0 : Nat} {H1 H2 : qx_H} {r1 : Int32}, rc b0 H1 = some (r1, H2) → xE st e 154 [.ref b0] H1 (some (.int r1)) H2) (hrl : ∀ {b0 : Nat} {H1 H2 : qx_H} {r1 : Int32}, rc b0 H1 = some (r1, H2) → H2.length = H1.length) (hrz : ∀ {b0 : Nat} {H1 H2 : qx_H} {r1 : Int32}, rc b0 H1 = some (r1, H2) → r1 = 0 ∨ r1 = 1) (hd : e + 0 ≤ d) {r : Int32} {H' : qx_H} (hR : R (some (.int r)) H') (a0 : Nat) (H : qx_H) (h : fm_X11_product rc a0 H = some (r, H')) : qx_V (xE st d) R (xc152 st) (0, [some (.ref a0), none], [], H) := by
  unfold fm_X11_product at h
  refine qv_run 1 (σ := (1, [some (.ref a0), none], [.ref a0], H)) rfl ?_
  obtain ⟨g1, h⟩ := qv_guard h
  obtain ⟨v1, H1, e1, h⟩ := qv_bind2 h
  refine qv_callV [] rfl rfl rfl (Nat.le_of_ble_eq_true rfl) g1 (xE_le (by omega) (hrc e1)) (hrl e1) ?_
  refine qv_br (c := v1 = 0) (a := (7, [some (.ref a0), none], [], H1)) (b := (9, [some (.ref a0), none], [], H1)) 1 rfl (fun c4 => ?_) (fun c4 => ?_)
  · replace h := qv_pos c4 h
    refine qv_run 1 (σ := (8, [some (.ref a0), none], [.int 0], H1)) rfl ?_
    obtain ⟨rfl, rfl⟩ := qv_pair h
    exact qv_retz rfl (Or.inl rfl) hR
  · replace h := qv_neg c4 h
    exact tb_X11_product_9 rc hB hrc hrl hrz hd hR 5000 a0 none rfl H1 h
theorem tlb_X11_product_0 (rc : Nat → qx_H → Option (Int32 × qx_H)) (hrl : ∀ {b0 : Nat} {H1 H2 : qx_H} {r1 : Int32}, rc b0 H1 = some (r1, H2) → H2.length = H1.length) {r : Int32} {H' : qx_H} (a0 : Nat) (H : qx_H) (h : fm_X11_product rc a0 H = some (r, H')) : H'.length = H.length := by
  unfold fm_X11_product at h
  obtain ⟨g1, h⟩ := qv_guard h
  obtain ⟨v1, H1, e1, h⟩ := qv_bind2 h
  have q_H1 := hrl e1
  by_cases c4 : v1 = 0
  · replace h := qv_pos c4 h
    obtain ⟨rfl, rfl⟩ := qv_pair h
    omega
  · replace h := qv_neg c4 h
    have q_end := tlb_X11_product_9 rc hrl 5000 a0 H1 h
    omega
theorem tzb_X11_product_0 (rc : Nat → qx_H → Option (Int32 × qx_H)) (hrz : ∀ {b0 : Nat} {H1 H2 : qx_H} {r1 : Int32}, rc b0 H1 = some (r1, H2) → r1 = 0 ∨ r1 = 1) {r : Int32} {H' : qx_H} (a0 : Nat) (H : qx_H) (h : fm_X11_product rc a0 H = some (r, H')) : r = 0 ∨ r = 1 := by
  unfold fm_X11_product at h
  obtain ⟨g1, h⟩ := qv_guard h
  obtain ⟨v1, H1, e1, h⟩ := qv_bind2 h
  by_cases c4 : v1 = 0
  · replace h := qv_pos c4 h
    obtain ⟨rfl, rfl⟩ := qv_pair h
    exact Or.inl rfl
  · replace h := qv_neg c4 h
    exact tzb_X11_product_9 rc hrz 5000 a0 H1 h
theorem th_X11_product {st : xT} {e : Nat} (rc : Nat → qx_H → Option (Int32 × qx_H)) (hB : 1 ≤ e) (hrc : ∀ {b0 : Nat} {H1 H2 : qx_H} {r1 : Int32}, rc b0 H1 = some (r1, H2) → xE st e 154 [.ref b0] H1 (some (.int r1)) H2) (hrl : ∀ {b0 : Nat} {H1 H2 : qx_H} {r1 : Int32}, rc b0 H1 = some (r1, H2) → H2.length = H1.length) (hrz : ∀ {b0 : Nat} {H1 H2 : qx_H} {r1 : Int32}, rc b0 H1 = some (r1, H2) → r1 = 0 ∨ r1 = 1) {a0 : Nat} {H : qx_H} {r : Int32} {H' : qx_H} (h : fm_X11_product rc a0 H = some (r, H')) : xE st (e + 1) 152 [.ref a0] H (some (.int r)) H' := by
  exact xE_of (xe152 st) xl152 (Nat.le_of_ble_eq_true rfl) (ls := [some (.ref a0), none]) rfl (tb_X11_product_0 rc hB hrc hrl hrz (Nat.le_refl _) ⟨rfl, rfl⟩ a0 H h)
theorem tl_X11_product (rc : Nat → qx_H → Option (Int32 × qx_H)) (hrl : ∀ {b0 : Nat} {H1 H2 : qx_H} {r1 : Int32}, rc b0 H1 = some (r1, H2) → H2.length = H1.length) {a0 : Nat} {H : qx_H} {r : Int32} {H' : qx_H} (h : fm_X11_product rc a0 H = some (r, H')) : H'.length = H.length := tlb_X11_product_0 rc hrl a0 H h
theorem tz_X11_product (rc : Nat → qx_H → Option (Int32 × qx_H)) (hrz : ∀ {b0 : Nat} {H1 H2 : qx_H} {r1 : Int32}, rc b0 H1 = some (r1, H2) → r1 = 0 ∨ r1 = 1) {a0 : Nat} {H : qx_H} {r : Int32} {H' : qx_H} (h : fm_X11_product rc a0 H = some (r, H')) : r = 0 ∨ r = 1 := tzb_X11_product_0 rc hrz a0 H h
