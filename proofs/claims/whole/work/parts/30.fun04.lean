def fm_X10_twine (a0 : Nat) (a1 : Int32) (H : qx_H) : Option (Int32 × qx_H) := if (fm_X10_isWithin a1 0 9999) = 0 then (if hp_is H a0 8 = true then (ob2 (fm_X10_refuse a0 (-1000000001) H) fun v14 H14 => some (v14, H14)) else none) else ((hp_gR H a0 8 0).bind fun v19 => (hp_gI H v19 4 6).bind fun v22 => (hp_gR H a0 8 0).bind fun v27 => (hp_put H v27 4 6 (.int a1)).bind fun H31 => some (v22, H31))
theorem tb_X10_twine_0 {st : xT} {d : Nat} {R : Option Value → qx_H → Prop} (hd : 2 ≤ d) {r : Int32} {H' : qx_H} (hR : R (some (.int r)) H') (a0 : Nat) (a1 : Int32) (H : qx_H) (h : fm_X10_twine a0 a1 H = some (r, H')) : qx_V (xE st d) R (xc84 st) (0, [some (.ref a0), some (.int a1), none], [], H) := by
  unfold fm_X10_twine at h
  refine qv_run 3 (σ := (5, [some (.ref a0), some (.int a1), none], [.int 9999, .int 0, .int a1], H)) rfl ?_
  refine qv_call [.int a1, .int 0, .int 9999] rfl rfl rfl (Nat.le_of_ble_eq_true rfl) (th_X10_isWithin (by omega) rfl) rfl ?_
  refine qv_br (c := (fm_X10_isWithin a1 0 9999) = 0) (a := (11, [some (.ref a0), some (.int a1), none], [], H)) (b := (18, [some (.ref a0), some (.int a1), none], [], H)) 1 rfl (fun c8 => ?_) (fun c8 => ?_)
  · replace h := qv_pos c8 h
    refine qv_run 2 (σ := (14, [some (.ref a0), some (.int a1), none], [.int (-1000000001), .ref a0], H)) rfl ?_
    obtain ⟨g14, h⟩ := qv_guard h
    obtain ⟨v14, H14, e14, h⟩ := qv_bind2 h
    refine qv_callV [.int (-1000000001)] rfl rfl rfl (Nat.le_of_ble_eq_true rfl) g14 (th_X10_refuse (by omega) e14) (tl_X10_refuse e14) ?_
    obtain ⟨rfl, rfl⟩ := qv_pair h
    exact qv_reti rfl hR
  · replace h := qv_neg c8 h
    refine qv_run 1 (σ := (19, [some (.ref a0), some (.int a1), none], [.ref a0], H)) rfl ?_
    obtain ⟨v19, e19, h⟩ := qv_bind h
    refine qv_getR rfl e19 ?_
    obtain ⟨v22, e22, h⟩ := qv_bind h
    refine qv_getI rfl e22 ?_
    refine qv_run 2 (σ := (27, [some (.ref a0), some (.int a1), some (.int v22)], [.ref a0], H)) rfl ?_
    obtain ⟨v27, e27, h⟩ := qv_bind h
    refine qv_getR rfl e27 ?_
    refine qv_run 1 (σ := (31, [some (.ref a0), some (.int a1), some (.int v22)], [.int a1, .ref v27], H)) rfl ?_
    obtain ⟨H31, e31, h⟩ := qv_bind h
    refine qv_putI rfl e31 ?_
    refine qv_run 1 (σ := (35, [some (.ref a0), some (.int a1), some (.int v22)], [.int v22], H31)) rfl ?_
    obtain ⟨rfl, rfl⟩ := qv_pair h
    exact qv_reti rfl hR
theorem tlb_X10_twine_0 {r : Int32} {H' : qx_H} (a0 : Nat) (a1 : Int32) (H : qx_H) (h : fm_X10_twine a0 a1 H = some (r, H')) : H'.length = H.length := by
  unfold fm_X10_twine at h
  by_cases c8 : (fm_X10_isWithin a1 0 9999) = 0
  · replace h := qv_pos c8 h
    obtain ⟨g14, h⟩ := qv_guard h
    obtain ⟨v14, H14, e14, h⟩ := qv_bind2 h
    have q_H14 := tl_X10_refuse e14
    obtain ⟨rfl, rfl⟩ := qv_pair h
    omega
  · replace h := qv_neg c8 h
    obtain ⟨v19, e19, h⟩ := qv_bind h
    obtain ⟨v22, e22, h⟩ := qv_bind h
    obtain ⟨v27, e27, h⟩ := qv_bind h
    obtain ⟨H31, e31, h⟩ := qv_bind h
    have q_H31 := hp_put_len e31
    obtain ⟨rfl, rfl⟩ := qv_pair h
    omega
theorem th_X10_twine {st : xT} {d : Nat} (hd : 3 ≤ d) {a0 : Nat} {a1 : Int32} {H : qx_H} {r : Int32} {H' : qx_H} (h : fm_X10_twine a0 a1 H = some (r, H')) : xE st d 84 [.ref a0, .int a1] H (some (.int r)) H' := by
  obtain ⟨d, rfl⟩ : ∃ d', d = d' + 1 := ⟨d - 1, by omega⟩
  exact xE_of (xe84 st) xl84 (Nat.le_of_ble_eq_true rfl) (ls := [some (.ref a0), some (.int a1), none]) rfl (tb_X10_twine_0 (by omega) ⟨rfl, rfl⟩ a0 a1 H h)
theorem tl_X10_twine {a0 : Nat} {a1 : Int32} {H : qx_H} {r : Int32} {H' : qx_H} (h : fm_X10_twine a0 a1 H = some (r, H')) : H'.length = H.length := tlb_X10_twine_0 a0 a1 H h
def fm_X10_speed_b18 (l0 : Nat) (H : qx_H) : Option (Int32 × qx_H) := if hp_is H l0 8 = true then (ob2 (fm_X10_refuse l0 (-1000000001) H) fun v21 H21 => some (v21, H21)) else none
def fm_X10_speed (a0 : Nat) (a1 : Int32) (a2 : Int32) (H : qx_H) : Option (Int32 × qx_H) := if (fm_X10_isBelow a1 3) = 0 then (fm_X10_speed_b18 a0 H) else (if (fm_X10_isWithin a2 1 30) = 0 then (fm_X10_speed_b18 a0 H) else ((hp_gR H a0 8 0).bind fun v26 => (hp_gR H v26 4 1).bind fun v29 => (hp_ald H v29 a1).bind fun v33 => (hp_gR H a0 8 0).bind fun v36 => (hp_gR H v36 4 1).bind fun v39 => (hp_ast H v39 a1 a2).bind fun H44 => some (v33, H44)))
theorem tb_X10_speed_18 {st : xT} {d : Nat} {R : Option Value → qx_H → Prop} (hd : 2 ≤ d) {r : Int32} {H' : qx_H} (hR : R (some (.int r)) H') (l0 : Nat) (z1 : Option Value) (hz1 : qx_ns z1 = true) (z2 : Option Value) (hz2 : qx_ns z2 = true) (H : qx_H) (h : fm_X10_speed_b18 l0 H = some (r, H')) : qx_V (xE st d) R (xc85 st) (18, [some (.ref l0), z1, z2, none], [], H) := by
  unfold fm_X10_speed_b18 at h
  refine qv_run 2 (σ := (21, [some (.ref l0), z1, z2, none], [.int (-1000000001), .ref l0], H)) rfl ?_
  obtain ⟨g21, h⟩ := qv_guard h
  obtain ⟨v21, H21, e21, h⟩ := qv_bind2 h
  refine qv_callV [.int (-1000000001)] rfl rfl rfl (Nat.le_of_ble_eq_true rfl) g21 (th_X10_refuse (by omega) e21) (tl_X10_refuse e21) ?_
  obtain ⟨rfl, rfl⟩ := qv_pair h
  exact qv_reti rfl hR
theorem tlb_X10_speed_18 {r : Int32} {H' : qx_H} (l0 : Nat) (H : qx_H) (h : fm_X10_speed_b18 l0 H = some (r, H')) : H'.length = H.length := by
  unfold fm_X10_speed_b18 at h
  obtain ⟨g21, h⟩ := qv_guard h
  obtain ⟨v21, H21, e21, h⟩ := qv_bind2 h
  have q_H21 := tl_X10_refuse e21
  obtain ⟨rfl, rfl⟩ := qv_pair h
  omega
theorem tb_X10_speed_0 {st : xT} {d : Nat} {R : Option Value → qx_H → Prop} (hd : 2 ≤ d) {r : Int32} {H' : qx_H} (hR : R (some (.int r)) H') (a0 : Nat) (a1 : Int32) (a2 : Int32) (H : qx_H) (h : fm_X10_speed a0 a1 a2 H = some (r, H')) : qx_V (xE st d) R (xc85 st) (0, [some (.ref a0), some (.int a1), some (.int a2), none], [], H) := by
  unfold fm_X10_speed at h
  refine qv_run 2 (σ := (2, [some (.ref a0), some (.int a1), some (.int a2), none], [.int 3, .int a1], H)) rfl ?_
  refine qv_call [.int a1, .int 3] rfl rfl rfl (Nat.le_of_ble_eq_true rfl) (th_X10_isBelow (by omega) rfl) rfl ?_
  refine qv_br (c := (fm_X10_isBelow a1 3) = 0) (a := (18, [some (.ref a0), some (.int a1), some (.int a2), none], [], H)) (b := (8, [some (.ref a0), some (.int a1), some (.int a2), none], [], H)) 1 rfl (fun c5 => ?_) (fun c5 => ?_)
  · replace h := qv_pos c5 h
    exact tb_X10_speed_18 hd hR a0 (some (.int a1)) rfl (some (.int a2)) rfl H h
  · replace h := qv_neg c5 h
    refine qv_run 3 (σ := (12, [some (.ref a0), some (.int a1), some (.int a2), none], [.int 30, .int 1, .int a2], H)) rfl ?_
    refine qv_call [.int a2, .int 1, .int 30] rfl rfl rfl (Nat.le_of_ble_eq_true rfl) (th_X10_isWithin (by omega) rfl) rfl ?_
    refine qv_br (c := (fm_X10_isWithin a2 1 30) = 0) (a := (18, [some (.ref a0), some (.int a1), some (.int a2), none], [], H)) (b := (25, [some (.ref a0), some (.int a1), some (.int a2), none], [], H)) 1 rfl (fun c15 => ?_) (fun c15 => ?_)
    · replace h := qv_pos c15 h
      exact tb_X10_speed_18 hd hR a0 (some (.int a1)) rfl (some (.int a2)) rfl H h
    · replace h := qv_neg c15 h
      refine qv_run 1 (σ := (26, [some (.ref a0), some (.int a1), some (.int a2), none], [.ref a0], H)) rfl ?_
      obtain ⟨v26, e26, h⟩ := qv_bind h
      refine qv_getR rfl e26 ?_
      obtain ⟨v29, e29, h⟩ := qv_bind h
      refine qv_getR rfl e29 ?_
      refine qv_run 1 (σ := (33, [some (.ref a0), some (.int a1), some (.int a2), none], [.int a1, .ref v29], H)) rfl ?_
      obtain ⟨v33, e33, h⟩ := qv_bind h
      refine qv_ald rfl e33 ?_
      refine qv_run 2 (σ := (36, [some (.ref a0), some (.int a1), some (.int a2), some (.int v33)], [.ref a0], H)) rfl ?_
      obtain ⟨v36, e36, h⟩ := qv_bind h
      refine qv_getR rfl e36 ?_
      obtain ⟨v39, e39, h⟩ := qv_bind h
      refine qv_getR rfl e39 ?_
      refine qv_run 2 (σ := (44, [some (.ref a0), some (.int a1), some (.int a2), some (.int v33)], [.int a2, .int a1, .ref v39], H)) rfl ?_
      obtain ⟨H44, e44, h⟩ := qv_bind h
      refine qv_ast rfl e44 ?_
      refine qv_run 1 (σ := (46, [some (.ref a0), some (.int a1), some (.int a2), some (.int v33)], [.int v33], H44)) rfl ?_
      obtain ⟨rfl, rfl⟩ := qv_pair h
      exact qv_reti rfl hR
theorem tlb_X10_speed_0 {r : Int32} {H' : qx_H} (a0 : Nat) (a1 : Int32) (a2 : Int32) (H : qx_H) (h : fm_X10_speed a0 a1 a2 H = some (r, H')) : H'.length = H.length := by
  unfold fm_X10_speed at h
  by_cases c5 : (fm_X10_isBelow a1 3) = 0
  · replace h := qv_pos c5 h
    exact tlb_X10_speed_18 a0 H h
  · replace h := qv_neg c5 h
    by_cases c15 : (fm_X10_isWithin a2 1 30) = 0
    · replace h := qv_pos c15 h
      exact tlb_X10_speed_18 a0 H h
    · replace h := qv_neg c15 h
      obtain ⟨v26, e26, h⟩ := qv_bind h
      obtain ⟨v29, e29, h⟩ := qv_bind h
      obtain ⟨v33, e33, h⟩ := qv_bind h
      obtain ⟨v36, e36, h⟩ := qv_bind h
      obtain ⟨v39, e39, h⟩ := qv_bind h
      obtain ⟨H44, e44, h⟩ := qv_bind h
      have q_H44 := hp_ast_len e44
      obtain ⟨rfl, rfl⟩ := qv_pair h
      omega
theorem th_X10_speed {st : xT} {d : Nat} (hd : 3 ≤ d) {a0 : Nat} {a1 : Int32} {a2 : Int32} {H : qx_H} {r : Int32} {H' : qx_H} (h : fm_X10_speed a0 a1 a2 H = some (r, H')) : xE st d 85 [.ref a0, .int a1, .int a2] H (some (.int r)) H' := by
  obtain ⟨d, rfl⟩ : ∃ d', d = d' + 1 := ⟨d - 1, by omega⟩
  exact xE_of (xe85 st) xl85 (Nat.le_of_ble_eq_true rfl) (ls := [some (.ref a0), some (.int a1), some (.int a2), none]) rfl (tb_X10_speed_0 (by omega) ⟨rfl, rfl⟩ a0 a1 a2 H h)
theorem tl_X10_speed {a0 : Nat} {a1 : Int32} {a2 : Int32} {H : qx_H} {r : Int32} {H' : qx_H} (h : fm_X10_speed a0 a1 a2 H = some (r, H')) : H'.length = H.length := tlb_X10_speed_0 a0 a1 a2 H h
def fm_X10_feed_b41 : Nat → Nat → Int64 → Int32 → Int32 → qx_H → Option (Int32 × qx_H)
  | 0, _, _, _, _, _ => none
  | n + 1, l0, l1, l3, l4, H => if l3 ≤ l4 then ((hp_gR H l0 8 0).bind fun v84 => (hp_gI H v84 4 4).bind fun v88 => (hp_put H v84 4 4 (.int (v88 + l3))).bind fun H93 => (hp_gR H93 l0 8 0).bind fun v97 => (hp_gI H93 v97 4 4).bind fun v100 => some (v100, H93)) else ((hp_gR H l0 8 0).bind fun v48 => (hp_gR H v48 4 2).bind fun v51 => (hp_gR H l0 8 0).bind fun v55 => (hp_gI H v55 4 4).bind fun v58 => (hp_ast H v51 (v58 + l4) ((Int64.toInt32 (jl_ushr l1 (8 * l4))) &&& 255)).bind fun H76 => fm_X10_feed_b41 n l0 l1 l3 (l4 + 1) H76)
def fm_X10_feed (a0 : Nat) (a1 : Int64) (a3 : Int32) (H : qx_H) : Option (Int32 × qx_H) := if (fm_X10_isWithin a3 1 8) = 0 then (if hp_is H a0 8 = true then (ob2 (fm_X10_refuse a0 (-1000000001) H) fun v13 H13 => some (v13, H13)) else none) else ((hp_gR H a0 8 0).bind fun v21 => (hp_gI H v21 4 4).bind fun v24 => if a3 ≤ (60 - v24) then (fm_X10_feed_b41 5000 a0 a1 a3 0 H) else (if hp_is H a0 8 = true then (ob2 (fm_X10_refuse a0 (-1000000004) H) fun v34 H34 => some (v34, H34)) else none))
theorem tb_X10_feed_41 {st : xT} {d : Nat} {R : Option Value → qx_H → Prop} (hd : 2 ≤ d) {r : Int32} {H' : qx_H} (hR : R (some (.int r)) H') : ∀ (n : Nat) (l0 : Nat) (l1 : Int64) (l3 : Int32) (l4 : Int32) (H : qx_H) (h : fm_X10_feed_b41 n l0 l1 l3 l4 H = some (r, H')), qx_V (xE st d) R (xc86 st) (41, [some (.ref l0), some (.long l1), none, some (.int l3), some (.int l4)], [], H) := by
  intro n
  induction n with
  | zero => intro l0 l1 l3 l4 H h; exact nomatch (show (none : Option (Int32 × qx_H)) = some (r, H') from h)
  | succ n ih =>
    intro l0 l1 l3 l4 H h
    unfold fm_X10_feed_b41 at h
    refine qv_br (c := l3 ≤ l4) (a := (83, [some (.ref l0), some (.long l1), none, some (.int l3), some (.int l4)], [], H)) (b := (47, [some (.ref l0), some (.long l1), none, some (.int l3), some (.int l4)], [], H)) 3 rfl (fun c44 => ?_) (fun c44 => ?_)
    · replace h := qv_pos c44 h
      refine qv_run 1 (σ := (84, [some (.ref l0), some (.long l1), none, some (.int l3), some (.int l4)], [.ref l0], H)) rfl ?_
      obtain ⟨v84, e84, h⟩ := qv_bind h
      refine qv_getR rfl e84 ?_
      refine qv_run 1 (σ := (88, [some (.ref l0), some (.long l1), none, some (.int l3), some (.int l4)], [.ref v84, .ref v84], H)) rfl ?_
      obtain ⟨v88, e88, h⟩ := qv_bind h
      refine qv_getI rfl e88 ?_
      refine qv_run 2 (σ := (93, [some (.ref l0), some (.long l1), none, some (.int l3), some (.int l4)], [.int (v88 + l3), .ref v84], H)) rfl ?_
      obtain ⟨H93, e93, h⟩ := qv_bind h
      refine qv_putI rfl e93 ?_
      refine qv_run 1 (σ := (97, [some (.ref l0), some (.long l1), none, some (.int l3), some (.int l4)], [.ref l0], H93)) rfl ?_
      obtain ⟨v97, e97, h⟩ := qv_bind h
      refine qv_getR rfl e97 ?_
      obtain ⟨v100, e100, h⟩ := qv_bind h
      refine qv_getI rfl e100 ?_
      obtain ⟨rfl, rfl⟩ := qv_pair h
      exact qv_reti rfl hR
    · replace h := qv_neg c44 h
      refine qv_run 1 (σ := (48, [some (.ref l0), some (.long l1), none, some (.int l3), some (.int l4)], [.ref l0], H)) rfl ?_
      obtain ⟨v48, e48, h⟩ := qv_bind h
      refine qv_getR rfl e48 ?_
      obtain ⟨v51, e51, h⟩ := qv_bind h
      refine qv_getR rfl e51 ?_
      refine qv_run 1 (σ := (55, [some (.ref l0), some (.long l1), none, some (.int l3), some (.int l4)], [.ref l0, .ref v51], H)) rfl ?_
      obtain ⟨v55, e55, h⟩ := qv_bind h
      refine qv_getR rfl e55 ?_
      obtain ⟨v58, e58, h⟩ := qv_bind h
      refine qv_getI rfl e58 ?_
      refine qv_run 10 (σ := (76, [some (.ref l0), some (.long l1), none, some (.int l3), some (.int l4)], [.int ((Int64.toInt32 (jl_ushr l1 (8 * l4))) &&& 255), .int (v58 + l4), .ref v51], H)) rfl ?_
      obtain ⟨H76, e76, h⟩ := qv_bind h
      refine qv_ast rfl e76 ?_
      refine qv_run 2 (σ := (41, [some (.ref l0), some (.long l1), none, some (.int l3), some (.int (l4 + 1))], [], H76)) rfl ?_
      exact ih l0 l1 l3 (l4 + 1) H76 h
theorem tlb_X10_feed_41 {r : Int32} {H' : qx_H} : ∀ (n : Nat) (l0 : Nat) (l1 : Int64) (l3 : Int32) (l4 : Int32) (H : qx_H) (h : fm_X10_feed_b41 n l0 l1 l3 l4 H = some (r, H')), H'.length = H.length := by
  intro n
  induction n with
  | zero => intro l0 l1 l3 l4 H h; exact nomatch (show (none : Option (Int32 × qx_H)) = some (r, H') from h)
  | succ n ih =>
    intro l0 l1 l3 l4 H h
    unfold fm_X10_feed_b41 at h
    by_cases c44 : l3 ≤ l4
    · replace h := qv_pos c44 h
      obtain ⟨v84, e84, h⟩ := qv_bind h
      obtain ⟨v88, e88, h⟩ := qv_bind h
      obtain ⟨H93, e93, h⟩ := qv_bind h
      have q_H93 := hp_put_len e93
      obtain ⟨v97, e97, h⟩ := qv_bind h
      obtain ⟨v100, e100, h⟩ := qv_bind h
      obtain ⟨rfl, rfl⟩ := qv_pair h
      omega
    · replace h := qv_neg c44 h
      obtain ⟨v48, e48, h⟩ := qv_bind h
      obtain ⟨v51, e51, h⟩ := qv_bind h
      obtain ⟨v55, e55, h⟩ := qv_bind h
      obtain ⟨v58, e58, h⟩ := qv_bind h
      obtain ⟨H76, e76, h⟩ := qv_bind h
      have q_H76 := hp_ast_len e76
      have q_end := ih l0 l1 l3 (l4 + 1) H76 h
      omega
theorem tb_X10_feed_0 {st : xT} {d : Nat} {R : Option Value → qx_H → Prop} (hd : 2 ≤ d) {r : Int32} {H' : qx_H} (hR : R (some (.int r)) H') (a0 : Nat) (a1 : Int64) (a3 : Int32) (H : qx_H) (h : fm_X10_feed a0 a1 a3 H = some (r, H')) : qx_V (xE st d) R (xc86 st) (0, [some (.ref a0), some (.long a1), none, some (.int a3), none], [], H) := by
  unfold fm_X10_feed at h
  refine qv_run 3 (σ := (4, [some (.ref a0), some (.long a1), none, some (.int a3), none], [.int 8, .int 1, .int a3], H)) rfl ?_
  refine qv_call [.int a3, .int 1, .int 8] rfl rfl rfl (Nat.le_of_ble_eq_true rfl) (th_X10_isWithin (by omega) rfl) rfl ?_
  refine qv_br (c := (fm_X10_isWithin a3 1 8) = 0) (a := (10, [some (.ref a0), some (.long a1), none, some (.int a3), none], [], H)) (b := (17, [some (.ref a0), some (.long a1), none, some (.int a3), none], [], H)) 1 rfl (fun c7 => ?_) (fun c7 => ?_)
  · replace h := qv_pos c7 h
    refine qv_run 2 (σ := (13, [some (.ref a0), some (.long a1), none, some (.int a3), none], [.int (-1000000001), .ref a0], H)) rfl ?_
    obtain ⟨g13, h⟩ := qv_guard h
    obtain ⟨v13, H13, e13, h⟩ := qv_bind2 h
    refine qv_callV [.int (-1000000001)] rfl rfl rfl (Nat.le_of_ble_eq_true rfl) g13 (th_X10_refuse (by omega) e13) (tl_X10_refuse e13) ?_
    obtain ⟨rfl, rfl⟩ := qv_pair h
    exact qv_reti rfl hR
  · replace h := qv_neg c7 h
    refine qv_run 3 (σ := (21, [some (.ref a0), some (.long a1), none, some (.int a3), none], [.ref a0, .int 60, .int a3], H)) rfl ?_
    obtain ⟨v21, e21, h⟩ := qv_bind h
    refine qv_getR rfl e21 ?_
    obtain ⟨v24, e24, h⟩ := qv_bind h
    refine qv_getI rfl e24 ?_
    refine qv_br (c := a3 ≤ (60 - v24)) (a := (38, [some (.ref a0), some (.long a1), none, some (.int a3), none], [], H)) (b := (31, [some (.ref a0), some (.long a1), none, some (.int a3), none], [], H)) 2 rfl (fun c28 => ?_) (fun c28 => ?_)
    · replace h := qv_pos c28 h
      refine qv_run 2 (σ := (41, [some (.ref a0), some (.long a1), none, some (.int a3), some (.int 0)], [], H)) rfl ?_
      exact tb_X10_feed_41 hd hR 5000 a0 a1 a3 0 H h
    · replace h := qv_neg c28 h
      refine qv_run 2 (σ := (34, [some (.ref a0), some (.long a1), none, some (.int a3), none], [.int (-1000000004), .ref a0], H)) rfl ?_
      obtain ⟨g34, h⟩ := qv_guard h
      obtain ⟨v34, H34, e34, h⟩ := qv_bind2 h
      refine qv_callV [.int (-1000000004)] rfl rfl rfl (Nat.le_of_ble_eq_true rfl) g34 (th_X10_refuse (by omega) e34) (tl_X10_refuse e34) ?_
      obtain ⟨rfl, rfl⟩ := qv_pair h
      exact qv_reti rfl hR
theorem tlb_X10_feed_0 {r : Int32} {H' : qx_H} (a0 : Nat) (a1 : Int64) (a3 : Int32) (H : qx_H) (h : fm_X10_feed a0 a1 a3 H = some (r, H')) : H'.length = H.length := by
  unfold fm_X10_feed at h
  by_cases c7 : (fm_X10_isWithin a3 1 8) = 0
  · replace h := qv_pos c7 h
    obtain ⟨g13, h⟩ := qv_guard h
    obtain ⟨v13, H13, e13, h⟩ := qv_bind2 h
    have q_H13 := tl_X10_refuse e13
    obtain ⟨rfl, rfl⟩ := qv_pair h
    omega
  · replace h := qv_neg c7 h
    obtain ⟨v21, e21, h⟩ := qv_bind h
    obtain ⟨v24, e24, h⟩ := qv_bind h
    by_cases c28 : a3 ≤ (60 - v24)
    · replace h := qv_pos c28 h
      exact tlb_X10_feed_41 5000 a0 a1 a3 0 H h
    · replace h := qv_neg c28 h
      obtain ⟨g34, h⟩ := qv_guard h
      obtain ⟨v34, H34, e34, h⟩ := qv_bind2 h
      have q_H34 := tl_X10_refuse e34
      obtain ⟨rfl, rfl⟩ := qv_pair h
      omega
theorem th_X10_feed {st : xT} {d : Nat} (hd : 3 ≤ d) {a0 : Nat} {a1 : Int64} {a3 : Int32} {H : qx_H} {r : Int32} {H' : qx_H} (h : fm_X10_feed a0 a1 a3 H = some (r, H')) : xE st d 86 [.ref a0, .long a1, .int a3] H (some (.int r)) H' := by
  obtain ⟨d, rfl⟩ : ∃ d', d = d' + 1 := ⟨d - 1, by omega⟩
  exact xE_of (xe86 st) xl86 (Nat.le_of_ble_eq_true rfl) (ls := [some (.ref a0), some (.long a1), none, some (.int a3), none]) rfl (tb_X10_feed_0 (by omega) ⟨rfl, rfl⟩ a0 a1 a3 H h)
theorem tl_X10_feed {a0 : Nat} {a1 : Int64} {a3 : Int32} {H : qx_H} {r : Int32} {H' : qx_H} (h : fm_X10_feed a0 a1 a3 H = some (r, H')) : H'.length = H.length := tlb_X10_feed_0 a0 a1 a3 H h
def fm_X10_text (a0 : Nat) (a1 : Int32) (H : qx_H) : Option (Int32 × qx_H) := if (fm_X10_isBelow a1 2) = 0 then (if hp_is H a0 8 = true then (ob2 (fm_X10_refuse a0 (-1000000001) H) fun v11 H11 => some (v11, H11)) else none) else ((hp_gR H a0 8 4).bind fun v16 => (hp_gR H a0 8 0).bind fun v20 => (hp_gR H v20 4 2).bind fun v23 => (hp_gR H a0 8 0).bind fun v27 => (hp_gI H v27 4 4).bind fun v30 => if hp_is H v16 6 = true then (ob2 (fm_X8_read v16 v23 v30 a1 H) fun v34 H34 => (hp_gR H34 a0 8 0).bind fun v39 => (hp_put H34 v39 4 4 (.int 0)).bind fun H43 => if v34 = (-1) then ((hp_gR H43 a0 8 0).bind fun v57 => (hp_gR H43 v57 4 0).bind fun v60 => if hp_is H43 v60 3 = true then ((fm_X5_lawOf v60 a1 H43).bind fun v64 => (hp_gR H43 a0 8 4).bind fun v68 => (hp_gR H43 v68 6 0).bind fun v71 => if hp_is H43 v64 1 = true then ((fm_X3_become v64 v71 H43).bind fun H74 => some (1, H74)) else none) else none) else (some ((-10) - v34, H43))) else none)
theorem tb_X10_text_0 {st : xT} {d : Nat} {R : Option Value → qx_H → Prop} (hd : 4 ≤ d) {r : Int32} {H' : qx_H} (hR : R (some (.int r)) H') (a0 : Nat) (a1 : Int32) (H : qx_H) (h : fm_X10_text a0 a1 H = some (r, H')) : qx_V (xE st d) R (xc87 st) (0, [some (.ref a0), some (.int a1), none], [], H) := by
  unfold fm_X10_text at h
  refine qv_run 2 (σ := (2, [some (.ref a0), some (.int a1), none], [.int 2, .int a1], H)) rfl ?_
  refine qv_call [.int a1, .int 2] rfl rfl rfl (Nat.le_of_ble_eq_true rfl) (th_X10_isBelow (by omega) rfl) rfl ?_
  refine qv_br (c := (fm_X10_isBelow a1 2) = 0) (a := (8, [some (.ref a0), some (.int a1), none], [], H)) (b := (15, [some (.ref a0), some (.int a1), none], [], H)) 1 rfl (fun c5 => ?_) (fun c5 => ?_)
  · replace h := qv_pos c5 h
    refine qv_run 2 (σ := (11, [some (.ref a0), some (.int a1), none], [.int (-1000000001), .ref a0], H)) rfl ?_
    obtain ⟨g11, h⟩ := qv_guard h
    obtain ⟨v11, H11, e11, h⟩ := qv_bind2 h
    refine qv_callV [.int (-1000000001)] rfl rfl rfl (Nat.le_of_ble_eq_true rfl) g11 (th_X10_refuse (by omega) e11) (tl_X10_refuse e11) ?_
    obtain ⟨rfl, rfl⟩ := qv_pair h
    exact qv_reti rfl hR
  · replace h := qv_neg c5 h
    refine qv_run 1 (σ := (16, [some (.ref a0), some (.int a1), none], [.ref a0], H)) rfl ?_
    obtain ⟨v16, e16, h⟩ := qv_bind h
    refine qv_getR rfl e16 ?_
    refine qv_run 1 (σ := (20, [some (.ref a0), some (.int a1), none], [.ref a0, .ref v16], H)) rfl ?_
    obtain ⟨v20, e20, h⟩ := qv_bind h
    refine qv_getR rfl e20 ?_
    obtain ⟨v23, e23, h⟩ := qv_bind h
    refine qv_getR rfl e23 ?_
    refine qv_run 1 (σ := (27, [some (.ref a0), some (.int a1), none], [.ref a0, .ref v23, .ref v16], H)) rfl ?_
    obtain ⟨v27, e27, h⟩ := qv_bind h
    refine qv_getR rfl e27 ?_
    obtain ⟨v30, e30, h⟩ := qv_bind h
    refine qv_getI rfl e30 ?_
    refine qv_run 1 (σ := (34, [some (.ref a0), some (.int a1), none], [.int a1, .int v30, .ref v23, .ref v16], H)) rfl ?_
    obtain ⟨g34, h⟩ := qv_guard h
    obtain ⟨v34, H34, e34, h⟩ := qv_bind2 h
    refine qv_callV [.ref v23, .int v30, .int a1] rfl rfl rfl (Nat.le_of_ble_eq_true rfl) g34 (th_X8_read (by omega) e34) (tl_X8_read e34) ?_
    refine qv_run 2 (σ := (39, [some (.ref a0), some (.int a1), some (.int v34)], [.ref a0], H34)) rfl ?_
    obtain ⟨v39, e39, h⟩ := qv_bind h
    refine qv_getR rfl e39 ?_
    refine qv_run 1 (σ := (43, [some (.ref a0), some (.int a1), some (.int v34)], [.int 0, .ref v39], H34)) rfl ?_
    obtain ⟨H43, e43, h⟩ := qv_bind h
    refine qv_putI rfl e43 ?_
    refine qv_br (c := v34 = (-1)) (a := (56, [some (.ref a0), some (.int a1), some (.int v34)], [], H43)) (b := (51, [some (.ref a0), some (.int a1), some (.int v34)], [], H43)) 3 rfl (fun c48 => ?_) (fun c48 => ?_)
    · replace h := qv_pos c48 h
      refine qv_run 1 (σ := (57, [some (.ref a0), some (.int a1), some (.int v34)], [.ref a0], H43)) rfl ?_
      obtain ⟨v57, e57, h⟩ := qv_bind h
      refine qv_getR rfl e57 ?_
      obtain ⟨v60, e60, h⟩ := qv_bind h
      refine qv_getR rfl e60 ?_
      refine qv_run 1 (σ := (64, [some (.ref a0), some (.int a1), some (.int v34)], [.int a1, .ref v60], H43)) rfl ?_
      obtain ⟨g64, h⟩ := qv_guard h
      obtain ⟨v64, e64, h⟩ := qv_bind h
      refine qv_callV [.int a1] rfl rfl rfl (Nat.le_of_ble_eq_true rfl) g64 (th_X5_lawOf (by omega) e64) rfl ?_
      refine qv_run 1 (σ := (68, [some (.ref a0), some (.int a1), some (.int v34)], [.ref a0, .ref v64], H43)) rfl ?_
      obtain ⟨v68, e68, h⟩ := qv_bind h
      refine qv_getR rfl e68 ?_
      obtain ⟨v71, e71, h⟩ := qv_bind h
      refine qv_getR rfl e71 ?_
      obtain ⟨g74, h⟩ := qv_guard h
      obtain ⟨H74, e74, h⟩ := qv_bind h
      refine qv_callV [.ref v71] rfl rfl rfl (Nat.le_of_ble_eq_true rfl) g74 (th_X3_become (by omega) e74) (tl_X3_become e74) ?_
      refine qv_run 1 (σ := (78, [some (.ref a0), some (.int a1), some (.int v34)], [.int 1], H74)) rfl ?_
      obtain ⟨rfl, rfl⟩ := qv_pair h
      exact qv_reti rfl hR
    · replace h := qv_neg c48 h
      refine qv_run 3 (σ := (55, [some (.ref a0), some (.int a1), some (.int v34)], [.int ((-10) - v34)], H43)) rfl ?_
      obtain ⟨rfl, rfl⟩ := qv_pair h
      exact qv_reti rfl hR
theorem tlb_X10_text_0 {r : Int32} {H' : qx_H} (a0 : Nat) (a1 : Int32) (H : qx_H) (h : fm_X10_text a0 a1 H = some (r, H')) : H'.length = H.length := by
  unfold fm_X10_text at h
  by_cases c5 : (fm_X10_isBelow a1 2) = 0
  · replace h := qv_pos c5 h
    obtain ⟨g11, h⟩ := qv_guard h
    obtain ⟨v11, H11, e11, h⟩ := qv_bind2 h
    have q_H11 := tl_X10_refuse e11
    obtain ⟨rfl, rfl⟩ := qv_pair h
    omega
  · replace h := qv_neg c5 h
    obtain ⟨v16, e16, h⟩ := qv_bind h
    obtain ⟨v20, e20, h⟩ := qv_bind h
    obtain ⟨v23, e23, h⟩ := qv_bind h
    obtain ⟨v27, e27, h⟩ := qv_bind h
    obtain ⟨v30, e30, h⟩ := qv_bind h
    obtain ⟨g34, h⟩ := qv_guard h
    obtain ⟨v34, H34, e34, h⟩ := qv_bind2 h
    have q_H34 := tl_X8_read e34
    obtain ⟨v39, e39, h⟩ := qv_bind h
    obtain ⟨H43, e43, h⟩ := qv_bind h
    have q_H43 := hp_put_len e43
    by_cases c48 : v34 = (-1)
    · replace h := qv_pos c48 h
      obtain ⟨v57, e57, h⟩ := qv_bind h
      obtain ⟨v60, e60, h⟩ := qv_bind h
      obtain ⟨g64, h⟩ := qv_guard h
      obtain ⟨v64, e64, h⟩ := qv_bind h
      obtain ⟨v68, e68, h⟩ := qv_bind h
      obtain ⟨v71, e71, h⟩ := qv_bind h
      obtain ⟨g74, h⟩ := qv_guard h
      obtain ⟨H74, e74, h⟩ := qv_bind h
      have q_H74 := tl_X3_become e74
      obtain ⟨rfl, rfl⟩ := qv_pair h
      omega
    · replace h := qv_neg c48 h
      obtain ⟨rfl, rfl⟩ := qv_pair h
      omega
theorem th_X10_text {st : xT} {d : Nat} (hd : 5 ≤ d) {a0 : Nat} {a1 : Int32} {H : qx_H} {r : Int32} {H' : qx_H} (h : fm_X10_text a0 a1 H = some (r, H')) : xE st d 87 [.ref a0, .int a1] H (some (.int r)) H' := by
  obtain ⟨d, rfl⟩ : ∃ d', d = d' + 1 := ⟨d - 1, by omega⟩
  exact xE_of (xe87 st) xl87 (Nat.le_of_ble_eq_true rfl) (ls := [some (.ref a0), some (.int a1), none]) rfl (tb_X10_text_0 (by omega) ⟨rfl, rfl⟩ a0 a1 H h)
theorem tl_X10_text {a0 : Nat} {a1 : Int32} {H : qx_H} {r : Int32} {H' : qx_H} (h : fm_X10_text a0 a1 H = some (r, H')) : H'.length = H.length := tlb_X10_text_0 a0 a1 H h
def fm_X10_untell (a0 : Nat) (a1 : Int32) (H : qx_H) : Option (Int32 × qx_H) := if (fm_X10_isBelow a1 2) = 0 then (if hp_is H a0 8 = true then (ob2 (fm_X10_refuse a0 (-1000000001) H) fun v11 H11 => some (v11, H11)) else none) else ((hp_gR H a0 8 0).bind fun v16 => (hp_gR H v16 4 0).bind fun v19 => if hp_is H v19 3 = true then ((fm_X5_lawOf v19 a1 H).bind fun v23 => if hp_is H v23 1 = true then ((fm_X3_isThere v23 H).bind fun v28 => (fm_X3_forget v23 H).bind fun H41 => some ((if v28 = 0 then 0 else 1), H41)) else none) else none)
theorem tb_X10_untell_0 {st : xT} {d : Nat} {R : Option Value → qx_H → Prop} (hd : 2 ≤ d) {r : Int32} {H' : qx_H} (hR : R (some (.int r)) H') (a0 : Nat) (a1 : Int32) (H : qx_H) (h : fm_X10_untell a0 a1 H = some (r, H')) : qx_V (xE st d) R (xc88 st) (0, [some (.ref a0), some (.int a1), none, none], [], H) := by
  unfold fm_X10_untell at h
  refine qv_run 2 (σ := (2, [some (.ref a0), some (.int a1), none, none], [.int 2, .int a1], H)) rfl ?_
  refine qv_call [.int a1, .int 2] rfl rfl rfl (Nat.le_of_ble_eq_true rfl) (th_X10_isBelow (by omega) rfl) rfl ?_
  refine qv_br (c := (fm_X10_isBelow a1 2) = 0) (a := (8, [some (.ref a0), some (.int a1), none, none], [], H)) (b := (15, [some (.ref a0), some (.int a1), none, none], [], H)) 1 rfl (fun c5 => ?_) (fun c5 => ?_)
  · replace h := qv_pos c5 h
    refine qv_run 2 (σ := (11, [some (.ref a0), some (.int a1), none, none], [.int (-1000000001), .ref a0], H)) rfl ?_
    obtain ⟨g11, h⟩ := qv_guard h
    obtain ⟨v11, H11, e11, h⟩ := qv_bind2 h
    refine qv_callV [.int (-1000000001)] rfl rfl rfl (Nat.le_of_ble_eq_true rfl) g11 (th_X10_refuse (by omega) e11) (tl_X10_refuse e11) ?_
    obtain ⟨rfl, rfl⟩ := qv_pair h
    exact qv_reti rfl hR
  · replace h := qv_neg c5 h
    refine qv_run 1 (σ := (16, [some (.ref a0), some (.int a1), none, none], [.ref a0], H)) rfl ?_
    obtain ⟨v16, e16, h⟩ := qv_bind h
    refine qv_getR rfl e16 ?_
    obtain ⟨v19, e19, h⟩ := qv_bind h
    refine qv_getR rfl e19 ?_
    refine qv_run 1 (σ := (23, [some (.ref a0), some (.int a1), none, none], [.int a1, .ref v19], H)) rfl ?_
    obtain ⟨g23, h⟩ := qv_guard h
    obtain ⟨v23, e23, h⟩ := qv_bind h
    refine qv_callV [.int a1] rfl rfl rfl (Nat.le_of_ble_eq_true rfl) g23 (th_X5_lawOf (by omega) e23) rfl ?_
    refine qv_run 2 (σ := (28, [some (.ref a0), some (.int a1), some (.ref v23), none], [.ref v23], H)) rfl ?_
    obtain ⟨g28, h⟩ := qv_guard h
    obtain ⟨v28, e28, h⟩ := qv_bind h
    refine qv_callV [] rfl rfl rfl (Nat.le_of_ble_eq_true rfl) g28 (th_X3_isThere (by omega) e28) rfl ?_
    refine qv_dia (c := v28 = 0) (a := (38, [some (.ref a0), some (.int a1), some (.ref v23), none], [], H)) (b := (34, [some (.ref a0), some (.int a1), some (.ref v23), none], [], H)) (σ' := (39, [some (.ref a0), some (.int a1), some (.ref v23), none], [.int (if v28 = 0 then 0 else 1)], H)) 1 rfl ?_ (fun c31 kk => qv_run 1 (σ := (39, [some (.ref a0), some (.int a1), some (.ref v23), none], [.int 0], H)) rfl (qv_eq (by simp only [if_pos c31]) kk)) (fun c31 kk => qv_run 2 (σ := (39, [some (.ref a0), some (.int a1), some (.ref v23), none], [.int 1], H)) rfl (qv_eq (by simp only [if_neg c31]) kk))
    refine qv_run 2 (σ := (41, [some (.ref a0), some (.int a1), some (.ref v23), some (.int (if v28 = 0 then 0 else 1))], [.ref v23], H)) rfl ?_
    obtain ⟨H41, e41, h⟩ := qv_bind h
    refine qv_callV [] rfl rfl rfl (Nat.le_of_ble_eq_true rfl) g28 (th_X3_forget (by omega) e41) (tl_X3_forget e41) ?_
    refine qv_run 1 (σ := (45, [some (.ref a0), some (.int a1), some (.ref v23), some (.int (if v28 = 0 then 0 else 1))], [.int (if v28 = 0 then 0 else 1)], H41)) rfl ?_
    obtain ⟨rfl, rfl⟩ := qv_pair h
    exact qv_reti rfl hR
theorem tlb_X10_untell_0 {r : Int32} {H' : qx_H} (a0 : Nat) (a1 : Int32) (H : qx_H) (h : fm_X10_untell a0 a1 H = some (r, H')) : H'.length = H.length := by
  unfold fm_X10_untell at h
  by_cases c5 : (fm_X10_isBelow a1 2) = 0
  · replace h := qv_pos c5 h
    obtain ⟨g11, h⟩ := qv_guard h
    obtain ⟨v11, H11, e11, h⟩ := qv_bind2 h
    have q_H11 := tl_X10_refuse e11
    obtain ⟨rfl, rfl⟩ := qv_pair h
    omega
  · replace h := qv_neg c5 h
    obtain ⟨v16, e16, h⟩ := qv_bind h
    obtain ⟨v19, e19, h⟩ := qv_bind h
    obtain ⟨g23, h⟩ := qv_guard h
    obtain ⟨v23, e23, h⟩ := qv_bind h
    obtain ⟨g28, h⟩ := qv_guard h
    obtain ⟨v28, e28, h⟩ := qv_bind h
    obtain ⟨H41, e41, h⟩ := qv_bind h
    have q_H41 := tl_X3_forget e41
    obtain ⟨rfl, rfl⟩ := qv_pair h
    omega
theorem th_X10_untell {st : xT} {d : Nat} (hd : 3 ≤ d) {a0 : Nat} {a1 : Int32} {H : qx_H} {r : Int32} {H' : qx_H} (h : fm_X10_untell a0 a1 H = some (r, H')) : xE st d 88 [.ref a0, .int a1] H (some (.int r)) H' := by
  obtain ⟨d, rfl⟩ : ∃ d', d = d' + 1 := ⟨d - 1, by omega⟩
  exact xE_of (xe88 st) xl88 (Nat.le_of_ble_eq_true rfl) (ls := [some (.ref a0), some (.int a1), none, none]) rfl (tb_X10_untell_0 (by omega) ⟨rfl, rfl⟩ a0 a1 H h)
theorem tl_X10_untell {a0 : Nat} {a1 : Int32} {H : qx_H} {r : Int32} {H' : qx_H} (h : fm_X10_untell a0 a1 H = some (r, H')) : H'.length = H.length := tlb_X10_untell_0 a0 a1 H h
def fm_X10_run_b16 (l0 : Nat) (H : qx_H) : Option (Int32 × qx_H) := if hp_is H l0 8 = true then (ob2 (fm_X10_refuse l0 (-1000000001) H) fun v19 H19 => some (v19, H19)) else none
def fm_X10_run_b44 (l0 : Nat) (H : qx_H) : Option (Int32 × qx_H) := if hp_is H l0 8 = true then (ob2 (fm_X10_refuse l0 (-1000000002) H) fun v47 H47 => some (v47, H47)) else none
def fm_X10_run (a0 : Nat) (a1 : Int32) (a2 : Int32) (H : qx_H) : Option (Int32 × qx_H) := if (fm_X10_isBelow a1 4) = 0 then (fm_X10_run_b16 a0 H) else (if (fm_X10_isBelow a2 5) = 0 then (fm_X10_run_b16 a0 H) else ((hp_gR H a0 8 8).bind fun v24 => (hp_ra H v24 a1).bind fun v28 => if hp_is H v28 5 = true then ((fm_X7_isMissing v28 H).bind fun v31 => if v31 = 0 then ((hp_gI H v28 5 2).bind fun v38 => if v38 = 0 then (fm_X10_run_b44 a0 H) else ((hp_gR H a0 8 0).bind fun v52 => (hp_gR H v52 4 0).bind fun v55 => if hp_is H v55 3 = true then ((fm_X5_runStops v55 v28 H).bind fun v59 => (hp_gI H v28 5 2).bind fun v67 => if v67 ≤ v59 then ((hp_gR H a0 8 0).bind fun v80 => (hp_gR H v80 4 0).bind fun v83 => if hp_is H v83 3 = true then ((fm_X5_ellsOfRun v83 v28 H).bind fun v87 => (hp_gR H a0 8 0).bind fun v95 => (hp_gI H v95 4 6).bind fun v98 => if v87 ≤ v98 then ((hp_gR H a0 8 0).bind fun v112 => (hp_gI H v112 4 6).bind fun v116 => (hp_put H v112 4 6 (.int (v116 - v87))).bind fun H122 => (hp_gR H122 a0 8 0).bind fun v126 => (hp_gR H122 v126 4 0).bind fun v129 => if hp_is H122 v129 3 = true then ((fm_X5_mendRun v129 v28 a2 H122).bind fun H134 => (hp_gI H134 v28 5 2).bind fun v138 => some (v138 - 1, H134)) else none) else (if hp_is H a0 8 = true then (ob2 (fm_X10_refuse a0 (-1000000004) H) fun v107 H107 => some (v107, H107)) else none)) else none) else (some ((-10) - v59, H))) else none)) else (fm_X10_run_b44 a0 H)) else none))
theorem tb_X10_run_16 {st : xT} {d : Nat} {R : Option Value → qx_H → Prop} (hd : 2 ≤ d) {r : Int32} {H' : qx_H} (hR : R (some (.int r)) H') (l0 : Nat) (z1 : Option Value) (hz1 : qx_ns z1 = true) (z2 : Option Value) (hz2 : qx_ns z2 = true) (H : qx_H) (h : fm_X10_run_b16 l0 H = some (r, H')) : qx_V (xE st d) R (xc89 st) (16, [some (.ref l0), z1, z2, none, none, none], [], H) := by
  unfold fm_X10_run_b16 at h
  refine qv_run 2 (σ := (19, [some (.ref l0), z1, z2, none, none, none], [.int (-1000000001), .ref l0], H)) rfl ?_
  obtain ⟨g19, h⟩ := qv_guard h
  obtain ⟨v19, H19, e19, h⟩ := qv_bind2 h
  refine qv_callV [.int (-1000000001)] rfl rfl rfl (Nat.le_of_ble_eq_true rfl) g19 (th_X10_refuse (by omega) e19) (tl_X10_refuse e19) ?_
  obtain ⟨rfl, rfl⟩ := qv_pair h
  exact qv_reti rfl hR
theorem tlb_X10_run_16 {r : Int32} {H' : qx_H} (l0 : Nat) (H : qx_H) (h : fm_X10_run_b16 l0 H = some (r, H')) : H'.length = H.length := by
  unfold fm_X10_run_b16 at h
  obtain ⟨g19, h⟩ := qv_guard h
  obtain ⟨v19, H19, e19, h⟩ := qv_bind2 h
  have q_H19 := tl_X10_refuse e19
  obtain ⟨rfl, rfl⟩ := qv_pair h
  omega
theorem tb_X10_run_44 {st : xT} {d : Nat} {R : Option Value → qx_H → Prop} (hd : 2 ≤ d) {r : Int32} {H' : qx_H} (hR : R (some (.int r)) H') (l0 : Nat) (z1 : Option Value) (hz1 : qx_ns z1 = true) (z2 : Option Value) (hz2 : qx_ns z2 = true) (z3 : Option Value) (hz3 : qx_ns z3 = true) (H : qx_H) (h : fm_X10_run_b44 l0 H = some (r, H')) : qx_V (xE st d) R (xc89 st) (44, [some (.ref l0), z1, z2, z3, none, none], [], H) := by
  unfold fm_X10_run_b44 at h
  refine qv_run 2 (σ := (47, [some (.ref l0), z1, z2, z3, none, none], [.int (-1000000002), .ref l0], H)) rfl ?_
  obtain ⟨g47, h⟩ := qv_guard h
  obtain ⟨v47, H47, e47, h⟩ := qv_bind2 h
  refine qv_callV [.int (-1000000002)] rfl rfl rfl (Nat.le_of_ble_eq_true rfl) g47 (th_X10_refuse (by omega) e47) (tl_X10_refuse e47) ?_
  obtain ⟨rfl, rfl⟩ := qv_pair h
  exact qv_reti rfl hR
theorem tlb_X10_run_44 {r : Int32} {H' : qx_H} (l0 : Nat) (H : qx_H) (h : fm_X10_run_b44 l0 H = some (r, H')) : H'.length = H.length := by
  unfold fm_X10_run_b44 at h
  obtain ⟨g47, h⟩ := qv_guard h
  obtain ⟨v47, H47, e47, h⟩ := qv_bind2 h
  have q_H47 := tl_X10_refuse e47
  obtain ⟨rfl, rfl⟩ := qv_pair h
  omega
theorem tb_X10_run_0 {st : xT} {d : Nat} {R : Option Value → qx_H → Prop} (hd : 2 ≤ d) {r : Int32} {H' : qx_H} (hR : R (some (.int r)) H') (a0 : Nat) (a1 : Int32) (a2 : Int32) (H : qx_H) (h : fm_X10_run a0 a1 a2 H = some (r, H')) : qx_V (xE st d) R (xc89 st) (0, [some (.ref a0), some (.int a1), some (.int a2), none, none, none], [], H) := by
  unfold fm_X10_run at h
  refine qv_run 2 (σ := (2, [some (.ref a0), some (.int a1), some (.int a2), none, none, none], [.int 4, .int a1], H)) rfl ?_
  refine qv_call [.int a1, .int 4] rfl rfl rfl (Nat.le_of_ble_eq_true rfl) (th_X10_isBelow (by omega) rfl) rfl ?_
  refine qv_br (c := (fm_X10_isBelow a1 4) = 0) (a := (16, [some (.ref a0), some (.int a1), some (.int a2), none, none, none], [], H)) (b := (8, [some (.ref a0), some (.int a1), some (.int a2), none, none, none], [], H)) 1 rfl (fun c5 => ?_) (fun c5 => ?_)
  · replace h := qv_pos c5 h
    exact tb_X10_run_16 hd hR a0 (some (.int a1)) rfl (some (.int a2)) rfl H h
  · replace h := qv_neg c5 h
    refine qv_run 2 (σ := (10, [some (.ref a0), some (.int a1), some (.int a2), none, none, none], [.int 5, .int a2], H)) rfl ?_
    refine qv_call [.int a2, .int 5] rfl rfl rfl (Nat.le_of_ble_eq_true rfl) (th_X10_isBelow (by omega) rfl) rfl ?_
    refine qv_br (c := (fm_X10_isBelow a2 5) = 0) (a := (16, [some (.ref a0), some (.int a1), some (.int a2), none, none, none], [], H)) (b := (23, [some (.ref a0), some (.int a1), some (.int a2), none, none, none], [], H)) 1 rfl (fun c13 => ?_) (fun c13 => ?_)
    · replace h := qv_pos c13 h
      exact tb_X10_run_16 hd hR a0 (some (.int a1)) rfl (some (.int a2)) rfl H h
    · replace h := qv_neg c13 h
      refine qv_run 1 (σ := (24, [some (.ref a0), some (.int a1), some (.int a2), none, none, none], [.ref a0], H)) rfl ?_
      obtain ⟨v24, e24, h⟩ := qv_bind h
      refine qv_getR rfl e24 ?_
      refine qv_run 1 (σ := (28, [some (.ref a0), some (.int a1), some (.int a2), none, none, none], [.int a1, .ref v24], H)) rfl ?_
      obtain ⟨v28, e28, h⟩ := qv_bind h
      refine qv_ra rfl e28 ?_
      refine qv_run 2 (σ := (31, [some (.ref a0), some (.int a1), some (.int a2), some (.ref v28), none, none], [.ref v28], H)) rfl ?_
      obtain ⟨g31, h⟩ := qv_guard h
      obtain ⟨v31, e31, h⟩ := qv_bind h
      refine qv_callV [] rfl rfl rfl (Nat.le_of_ble_eq_true rfl) g31 (th_X7_isMissing (by omega) e31) rfl ?_
      refine qv_br (c := v31 = 0) (a := (37, [some (.ref a0), some (.int a1), some (.int a2), some (.ref v28), none, none], [], H)) (b := (44, [some (.ref a0), some (.int a1), some (.int a2), some (.ref v28), none, none], [], H)) 1 rfl (fun c34 => ?_) (fun c34 => ?_)
      · replace h := qv_pos c34 h
        refine qv_run 1 (σ := (38, [some (.ref a0), some (.int a1), some (.int a2), some (.ref v28), none, none], [.ref v28], H)) rfl ?_
        obtain ⟨v38, e38, h⟩ := qv_bind h
        refine qv_getI rfl e38 ?_
        refine qv_br (c := v38 = 0) (a := (44, [some (.ref a0), some (.int a1), some (.int a2), some (.ref v28), none, none], [], H)) (b := (51, [some (.ref a0), some (.int a1), some (.int a2), some (.ref v28), none, none], [], H)) 1 rfl (fun c41 => ?_) (fun c41 => ?_)
        · replace h := qv_pos c41 h
          exact tb_X10_run_44 hd hR a0 (some (.int a1)) rfl (some (.int a2)) rfl (some (.ref v28)) rfl H h
        · replace h := qv_neg c41 h
          refine qv_run 1 (σ := (52, [some (.ref a0), some (.int a1), some (.int a2), some (.ref v28), none, none], [.ref a0], H)) rfl ?_
          obtain ⟨v52, e52, h⟩ := qv_bind h
          refine qv_getR rfl e52 ?_
          obtain ⟨v55, e55, h⟩ := qv_bind h
          refine qv_getR rfl e55 ?_
          refine qv_run 1 (σ := (59, [some (.ref a0), some (.int a1), some (.int a2), some (.ref v28), none, none], [.ref v28, .ref v55], H)) rfl ?_
          obtain ⟨g59, h⟩ := qv_guard h
          obtain ⟨v59, e59, h⟩ := qv_bind h
          refine qv_callV [.ref v28] rfl rfl rfl (Nat.le_of_ble_eq_true rfl) g59 (th_X5_runStops (by omega) e59) rfl ?_
          refine qv_run 3 (σ := (67, [some (.ref a0), some (.int a1), some (.int a2), some (.ref v28), some (.int v59), none], [.ref v28, .int v59], H)) rfl ?_
          obtain ⟨v67, e67, h⟩ := qv_bind h
          refine qv_getI rfl e67 ?_
          refine qv_br (c := v67 ≤ v59) (a := (79, [some (.ref a0), some (.int a1), some (.int a2), some (.ref v28), some (.int v59), none], [], H)) (b := (73, [some (.ref a0), some (.int a1), some (.int a2), some (.ref v28), some (.int v59), none], [], H)) 1 rfl (fun c70 => ?_) (fun c70 => ?_)
          · replace h := qv_pos c70 h
            refine qv_run 1 (σ := (80, [some (.ref a0), some (.int a1), some (.int a2), some (.ref v28), some (.int v59), none], [.ref a0], H)) rfl ?_
            obtain ⟨v80, e80, h⟩ := qv_bind h
            refine qv_getR rfl e80 ?_
            obtain ⟨v83, e83, h⟩ := qv_bind h
            refine qv_getR rfl e83 ?_
            refine qv_run 1 (σ := (87, [some (.ref a0), some (.int a1), some (.int a2), some (.ref v28), some (.int v59), none], [.ref v28, .ref v83], H)) rfl ?_
            obtain ⟨g87, h⟩ := qv_guard h
            obtain ⟨v87, e87, h⟩ := qv_bind h
            refine qv_callV [.ref v28] rfl rfl rfl (Nat.le_of_ble_eq_true rfl) g87 (th_X5_ellsOfRun (by omega) e87) rfl ?_
            refine qv_run 3 (σ := (95, [some (.ref a0), some (.int a1), some (.int a2), some (.ref v28), some (.int v59), some (.int v87)], [.ref a0, .int v87], H)) rfl ?_
            obtain ⟨v95, e95, h⟩ := qv_bind h
            refine qv_getR rfl e95 ?_
            obtain ⟨v98, e98, h⟩ := qv_bind h
            refine qv_getI rfl e98 ?_
            refine qv_br (c := v87 ≤ v98) (a := (111, [some (.ref a0), some (.int a1), some (.int a2), some (.ref v28), some (.int v59), some (.int v87)], [], H)) (b := (104, [some (.ref a0), some (.int a1), some (.int a2), some (.ref v28), some (.int v59), some (.int v87)], [], H)) 1 rfl (fun c101 => ?_) (fun c101 => ?_)
            · replace h := qv_pos c101 h
              refine qv_run 1 (σ := (112, [some (.ref a0), some (.int a1), some (.int a2), some (.ref v28), some (.int v59), some (.int v87)], [.ref a0], H)) rfl ?_
              obtain ⟨v112, e112, h⟩ := qv_bind h
              refine qv_getR rfl e112 ?_
              refine qv_run 1 (σ := (116, [some (.ref a0), some (.int a1), some (.int a2), some (.ref v28), some (.int v59), some (.int v87)], [.ref v112, .ref v112], H)) rfl ?_
              obtain ⟨v116, e116, h⟩ := qv_bind h
              refine qv_getI rfl e116 ?_
              refine qv_run 2 (σ := (122, [some (.ref a0), some (.int a1), some (.int a2), some (.ref v28), some (.int v59), some (.int v87)], [.int (v116 - v87), .ref v112], H)) rfl ?_
              obtain ⟨H122, e122, h⟩ := qv_bind h
              refine qv_putI rfl e122 ?_
              refine qv_run 1 (σ := (126, [some (.ref a0), some (.int a1), some (.int a2), some (.ref v28), some (.int v59), some (.int v87)], [.ref a0], H122)) rfl ?_
              obtain ⟨v126, e126, h⟩ := qv_bind h
              refine qv_getR rfl e126 ?_
              obtain ⟨v129, e129, h⟩ := qv_bind h
              refine qv_getR rfl e129 ?_
              refine qv_run 2 (σ := (134, [some (.ref a0), some (.int a1), some (.int a2), some (.ref v28), some (.int v59), some (.int v87)], [.int a2, .ref v28, .ref v129], H122)) rfl ?_
              obtain ⟨g134, h⟩ := qv_guard h
              obtain ⟨H134, e134, h⟩ := qv_bind h
              refine qv_callV [.ref v28, .int a2] rfl rfl rfl (Nat.le_of_ble_eq_true rfl) g134 (th_X5_mendRun (by omega) e134) (tl_X5_mendRun e134) ?_
              refine qv_run 1 (σ := (138, [some (.ref a0), some (.int a1), some (.int a2), some (.ref v28), some (.int v59), some (.int v87)], [.ref v28], H134)) rfl ?_
              obtain ⟨v138, e138, h⟩ := qv_bind h
              refine qv_getI rfl e138 ?_
              refine qv_run 2 (σ := (143, [some (.ref a0), some (.int a1), some (.int a2), some (.ref v28), some (.int v59), some (.int v87)], [.int (v138 - 1)], H134)) rfl ?_
              obtain ⟨rfl, rfl⟩ := qv_pair h
              exact qv_reti rfl hR
            · replace h := qv_neg c101 h
              refine qv_run 2 (σ := (107, [some (.ref a0), some (.int a1), some (.int a2), some (.ref v28), some (.int v59), some (.int v87)], [.int (-1000000004), .ref a0], H)) rfl ?_
              obtain ⟨g107, h⟩ := qv_guard h
              obtain ⟨v107, H107, e107, h⟩ := qv_bind2 h
              refine qv_callV [.int (-1000000004)] rfl rfl rfl (Nat.le_of_ble_eq_true rfl) g107 (th_X10_refuse (by omega) e107) (tl_X10_refuse e107) ?_
              obtain ⟨rfl, rfl⟩ := qv_pair h
              exact qv_reti rfl hR
          · replace h := qv_neg c70 h
            refine qv_run 3 (σ := (78, [some (.ref a0), some (.int a1), some (.int a2), some (.ref v28), some (.int v59), none], [.int ((-10) - v59)], H)) rfl ?_
            obtain ⟨rfl, rfl⟩ := qv_pair h
            exact qv_reti rfl hR
      · replace h := qv_neg c34 h
        exact tb_X10_run_44 hd hR a0 (some (.int a1)) rfl (some (.int a2)) rfl (some (.ref v28)) rfl H h
theorem tlb_X10_run_0 {r : Int32} {H' : qx_H} (a0 : Nat) (a1 : Int32) (a2 : Int32) (H : qx_H) (h : fm_X10_run a0 a1 a2 H = some (r, H')) : H'.length = H.length := by
  unfold fm_X10_run at h
  by_cases c5 : (fm_X10_isBelow a1 4) = 0
  · replace h := qv_pos c5 h
    exact tlb_X10_run_16 a0 H h
  · replace h := qv_neg c5 h
    by_cases c13 : (fm_X10_isBelow a2 5) = 0
    · replace h := qv_pos c13 h
      exact tlb_X10_run_16 a0 H h
    · replace h := qv_neg c13 h
      obtain ⟨v24, e24, h⟩ := qv_bind h
      obtain ⟨v28, e28, h⟩ := qv_bind h
      obtain ⟨g31, h⟩ := qv_guard h
      obtain ⟨v31, e31, h⟩ := qv_bind h
      by_cases c34 : v31 = 0
      · replace h := qv_pos c34 h
        obtain ⟨v38, e38, h⟩ := qv_bind h
        by_cases c41 : v38 = 0
        · replace h := qv_pos c41 h
          exact tlb_X10_run_44 a0 H h
        · replace h := qv_neg c41 h
          obtain ⟨v52, e52, h⟩ := qv_bind h
          obtain ⟨v55, e55, h⟩ := qv_bind h
          obtain ⟨g59, h⟩ := qv_guard h
          obtain ⟨v59, e59, h⟩ := qv_bind h
          obtain ⟨v67, e67, h⟩ := qv_bind h
          by_cases c70 : v67 ≤ v59
          · replace h := qv_pos c70 h
            obtain ⟨v80, e80, h⟩ := qv_bind h
            obtain ⟨v83, e83, h⟩ := qv_bind h
            obtain ⟨g87, h⟩ := qv_guard h
            obtain ⟨v87, e87, h⟩ := qv_bind h
            obtain ⟨v95, e95, h⟩ := qv_bind h
            obtain ⟨v98, e98, h⟩ := qv_bind h
            by_cases c101 : v87 ≤ v98
            · replace h := qv_pos c101 h
              obtain ⟨v112, e112, h⟩ := qv_bind h
              obtain ⟨v116, e116, h⟩ := qv_bind h
              obtain ⟨H122, e122, h⟩ := qv_bind h
              have q_H122 := hp_put_len e122
              obtain ⟨v126, e126, h⟩ := qv_bind h
              obtain ⟨v129, e129, h⟩ := qv_bind h
              obtain ⟨g134, h⟩ := qv_guard h
              obtain ⟨H134, e134, h⟩ := qv_bind h
              have q_H134 := tl_X5_mendRun e134
              obtain ⟨v138, e138, h⟩ := qv_bind h
              obtain ⟨rfl, rfl⟩ := qv_pair h
              omega
            · replace h := qv_neg c101 h
              obtain ⟨g107, h⟩ := qv_guard h
              obtain ⟨v107, H107, e107, h⟩ := qv_bind2 h
              have q_H107 := tl_X10_refuse e107
              obtain ⟨rfl, rfl⟩ := qv_pair h
              omega
          · replace h := qv_neg c70 h
            obtain ⟨rfl, rfl⟩ := qv_pair h
            rfl
      · replace h := qv_neg c34 h
        exact tlb_X10_run_44 a0 H h
theorem th_X10_run {st : xT} {d : Nat} (hd : 3 ≤ d) {a0 : Nat} {a1 : Int32} {a2 : Int32} {H : qx_H} {r : Int32} {H' : qx_H} (h : fm_X10_run a0 a1 a2 H = some (r, H')) : xE st d 89 [.ref a0, .int a1, .int a2] H (some (.int r)) H' := by
  obtain ⟨d, rfl⟩ : ∃ d', d = d' + 1 := ⟨d - 1, by omega⟩
  exact xE_of (xe89 st) xl89 (Nat.le_of_ble_eq_true rfl) (ls := [some (.ref a0), some (.int a1), some (.int a2), none, none, none]) rfl (tb_X10_run_0 (by omega) ⟨rfl, rfl⟩ a0 a1 a2 H h)
theorem tl_X10_run {a0 : Nat} {a1 : Int32} {a2 : Int32} {H : qx_H} {r : Int32} {H' : qx_H} (h : fm_X10_run a0 a1 a2 H = some (r, H')) : H'.length = H.length := tlb_X10_run_0 a0 a1 a2 H h
def fm_X10_odd (a0 : Nat) (a1 : Int32) (H : qx_H) : Option (Int32 × qx_H) := if a1 = 0 then ((hp_gR H a0 8 0).bind fun v29 => (hp_gR H v29 4 0).bind fun v32 => (hp_gI H v32 3 9).bind fun v35 => (fm_X0_oddKnots v35 H).bind fun v38 => some ((fm_J6_bitCount_0f7a4 v38), H)) else if a1 = 1 then ((hp_gR H a0 8 0).bind fun v46 => (hp_gR H v46 4 0).bind fun v49 => (hp_gI H v49 3 9).bind fun v52 => (fm_X4_isOneRun v52 H).bind fun v55 => if v55 = 0 then (some (0, H)) else (some (1, H))) else (if hp_is H a0 8 = true then (ob2 (fm_X10_refuse a0 (-1000000001) H) fun v70 H70 => some (v70, H70)) else none)
theorem tb_X10_odd_0 {st : xT} {d : Nat} {R : Option Value → qx_H → Prop} (hd : 6 ≤ d) {r : Int32} {H' : qx_H} (hR : R (some (.int r)) H') (a0 : Nat) (a1 : Int32) (H : qx_H) (h : fm_X10_odd a0 a1 H = some (r, H')) : qx_V (xE st d) R (xc90 st) (0, [some (.ref a0), some (.int a1)], [], H) := by
  unfold fm_X10_odd at h
  refine qv_run 2 (σ := (qx_swt a1 67 [(0, 28), (1, 45)], [some (.ref a0), some (.int a1)], [], H)) rfl ?_
  refine qv_swt (fun c1_0 => ?_) (fun c1_0 => ?_)
  · replace h := qv_pos c1_0 h
    refine qv_run 1 (σ := (29, [some (.ref a0), some (.int a1)], [.ref a0], H)) rfl ?_
    obtain ⟨v29, e29, h⟩ := qv_bind h
    refine qv_getR rfl e29 ?_
    obtain ⟨v32, e32, h⟩ := qv_bind h
    refine qv_getR rfl e32 ?_
    obtain ⟨v35, e35, h⟩ := qv_bind h
    refine qv_getI rfl e35 ?_
    obtain ⟨v38, e38, h⟩ := qv_bind h
    refine qv_call [.int v35] rfl rfl rfl (Nat.le_of_ble_eq_true rfl) (th_X0_oddKnots (by omega) e38) rfl ?_
    refine qv_call [.int v38] rfl rfl rfl (Nat.le_of_ble_eq_true rfl) (th_J6_bitCount_0f7a4 (by omega) rfl) rfl ?_
    obtain ⟨rfl, rfl⟩ := qv_pair h
    exact qv_reti rfl hR
  · replace h := qv_neg c1_0 h
    refine qv_swt (fun c1_1 => ?_) (fun c1_1 => ?_)
    · replace h := qv_pos c1_1 h
      refine qv_run 1 (σ := (46, [some (.ref a0), some (.int a1)], [.ref a0], H)) rfl ?_
      obtain ⟨v46, e46, h⟩ := qv_bind h
      refine qv_getR rfl e46 ?_
      obtain ⟨v49, e49, h⟩ := qv_bind h
      refine qv_getR rfl e49 ?_
      obtain ⟨v52, e52, h⟩ := qv_bind h
      refine qv_getI rfl e52 ?_
      obtain ⟨v55, e55, h⟩ := qv_bind h
      refine qv_call [.int v52] rfl rfl rfl (Nat.le_of_ble_eq_true rfl) (th_X4_isOneRun (by omega) e55) rfl ?_
      refine qv_br (c := v55 = 0) (a := (65, [some (.ref a0), some (.int a1)], [], H)) (b := (61, [some (.ref a0), some (.int a1)], [], H)) 1 rfl (fun c58 => ?_) (fun c58 => ?_)
      · replace h := qv_pos c58 h
        refine qv_run 1 (σ := (66, [some (.ref a0), some (.int a1)], [.int 0], H)) rfl ?_
        obtain ⟨rfl, rfl⟩ := qv_pair h
        exact qv_reti rfl hR
      · replace h := qv_neg c58 h
        refine qv_run 2 (σ := (66, [some (.ref a0), some (.int a1)], [.int 1], H)) rfl ?_
        obtain ⟨rfl, rfl⟩ := qv_pair h
        exact qv_reti rfl hR
    · replace h := qv_neg c1_1 h
      refine qv_sw0 ?_
      refine qv_run 2 (σ := (70, [some (.ref a0), some (.int a1)], [.int (-1000000001), .ref a0], H)) rfl ?_
      obtain ⟨g70, h⟩ := qv_guard h
      obtain ⟨v70, H70, e70, h⟩ := qv_bind2 h
      refine qv_callV [.int (-1000000001)] rfl rfl rfl (Nat.le_of_ble_eq_true rfl) g70 (th_X10_refuse (by omega) e70) (tl_X10_refuse e70) ?_
      obtain ⟨rfl, rfl⟩ := qv_pair h
      exact qv_reti rfl hR
theorem tlb_X10_odd_0 {r : Int32} {H' : qx_H} (a0 : Nat) (a1 : Int32) (H : qx_H) (h : fm_X10_odd a0 a1 H = some (r, H')) : H'.length = H.length := by
  unfold fm_X10_odd at h
  by_cases c1_0 : a1 = 0
  · replace h := qv_pos c1_0 h
    obtain ⟨v29, e29, h⟩ := qv_bind h
    obtain ⟨v32, e32, h⟩ := qv_bind h
    obtain ⟨v35, e35, h⟩ := qv_bind h
    obtain ⟨v38, e38, h⟩ := qv_bind h
    obtain ⟨rfl, rfl⟩ := qv_pair h
    rfl
  · replace h := qv_neg c1_0 h
    by_cases c1_1 : a1 = 1
    · replace h := qv_pos c1_1 h
      obtain ⟨v46, e46, h⟩ := qv_bind h
      obtain ⟨v49, e49, h⟩ := qv_bind h
      obtain ⟨v52, e52, h⟩ := qv_bind h
      obtain ⟨v55, e55, h⟩ := qv_bind h
      by_cases c58 : v55 = 0
      · replace h := qv_pos c58 h
        obtain ⟨rfl, rfl⟩ := qv_pair h
        rfl
      · replace h := qv_neg c58 h
        obtain ⟨rfl, rfl⟩ := qv_pair h
        rfl
    · replace h := qv_neg c1_1 h
      obtain ⟨g70, h⟩ := qv_guard h
      obtain ⟨v70, H70, e70, h⟩ := qv_bind2 h
      have q_H70 := tl_X10_refuse e70
      obtain ⟨rfl, rfl⟩ := qv_pair h
      omega
theorem th_X10_odd {st : xT} {d : Nat} (hd : 7 ≤ d) {a0 : Nat} {a1 : Int32} {H : qx_H} {r : Int32} {H' : qx_H} (h : fm_X10_odd a0 a1 H = some (r, H')) : xE st d 90 [.ref a0, .int a1] H (some (.int r)) H' := by
  obtain ⟨d, rfl⟩ : ∃ d', d = d' + 1 := ⟨d - 1, by omega⟩
  exact xE_of (xe90 st) xl90 (Nat.le_of_ble_eq_true rfl) (ls := [some (.ref a0), some (.int a1)]) rfl (tb_X10_odd_0 (by omega) ⟨rfl, rfl⟩ a0 a1 H h)
theorem tl_X10_odd {a0 : Nat} {a1 : Int32} {H : qx_H} {r : Int32} {H' : qx_H} (h : fm_X10_odd a0 a1 H = some (r, H')) : H'.length = H.length := tlb_X10_odd_0 a0 a1 H h
def fm_X10_cuts_b44 (l0 : Nat) (H : qx_H) : Option (Int32 × qx_H) := if hp_is H l0 8 = true then (ob2 (fm_X10_refuse l0 (-1000000002) H) fun v47 H47 => some (v47, H47)) else none
def fm_X10_cuts (a0 : Nat) (a1 : Int32) (H : qx_H) : Option (Int32 × qx_H) := if (fm_X10_isWithin a1 (-1) 2) = 0 then (if hp_is H a0 8 = true then (ob2 (fm_X10_refuse a0 (-1000000001) H) fun v12 H12 => some (v12, H12)) else none) else ((hp_gR H a0 8 5).bind fun v17 => (hp_gR H a0 8 0).bind fun v21 => (hp_gR H v21 4 0).bind fun v24 => (hp_gI H v24 3 9).bind fun v27 => if hp_is H v17 2 = true then (ob2 (fm_X4_fewestCuts v17 v27 H) fun v30 H30 => if v30 = (-1) then (fm_X10_cuts_b44 a0 H30) else (if a1 < v30 then (if 0 ≤ a1 then ((hp_gR H30 a0 8 5).bind fun v60 => (hp_gR H30 v60 2 0).bind fun v63 => (hp_ald H30 v63 a1).bind fun v67 => some (v67, H30)) else (some (v30, H30))) else (fm_X10_cuts_b44 a0 H30))) else none)
theorem tb_X10_cuts_44 {st : xT} {d : Nat} {R : Option Value → qx_H → Prop} (hd : 14 ≤ d) {r : Int32} {H' : qx_H} (hR : R (some (.int r)) H') (l0 : Nat) (z1 : Option Value) (hz1 : qx_ns z1 = true) (z2 : Option Value) (hz2 : qx_ns z2 = true) (H : qx_H) (h : fm_X10_cuts_b44 l0 H = some (r, H')) : qx_V (xE st d) R (xc91 st) (44, [some (.ref l0), z1, z2], [], H) := by
  unfold fm_X10_cuts_b44 at h
  refine qv_run 2 (σ := (47, [some (.ref l0), z1, z2], [.int (-1000000002), .ref l0], H)) rfl ?_
  obtain ⟨g47, h⟩ := qv_guard h
  obtain ⟨v47, H47, e47, h⟩ := qv_bind2 h
  refine qv_callV [.int (-1000000002)] rfl rfl rfl (Nat.le_of_ble_eq_true rfl) g47 (th_X10_refuse (by omega) e47) (tl_X10_refuse e47) ?_
  obtain ⟨rfl, rfl⟩ := qv_pair h
  exact qv_reti rfl hR
theorem tlb_X10_cuts_44 {r : Int32} {H' : qx_H} (l0 : Nat) (H : qx_H) (h : fm_X10_cuts_b44 l0 H = some (r, H')) : H'.length = H.length := by
  unfold fm_X10_cuts_b44 at h
  obtain ⟨g47, h⟩ := qv_guard h
  obtain ⟨v47, H47, e47, h⟩ := qv_bind2 h
  have q_H47 := tl_X10_refuse e47
  obtain ⟨rfl, rfl⟩ := qv_pair h
  omega
theorem tb_X10_cuts_0 {st : xT} {d : Nat} {R : Option Value → qx_H → Prop} (hd : 14 ≤ d) {r : Int32} {H' : qx_H} (hR : R (some (.int r)) H') (a0 : Nat) (a1 : Int32) (H : qx_H) (h : fm_X10_cuts a0 a1 H = some (r, H')) : qx_V (xE st d) R (xc91 st) (0, [some (.ref a0), some (.int a1), none], [], H) := by
  unfold fm_X10_cuts at h
  refine qv_run 3 (σ := (3, [some (.ref a0), some (.int a1), none], [.int 2, .int (-1), .int a1], H)) rfl ?_
  refine qv_call [.int a1, .int (-1), .int 2] rfl rfl rfl (Nat.le_of_ble_eq_true rfl) (th_X10_isWithin (by omega) rfl) rfl ?_
  refine qv_br (c := (fm_X10_isWithin a1 (-1) 2) = 0) (a := (9, [some (.ref a0), some (.int a1), none], [], H)) (b := (16, [some (.ref a0), some (.int a1), none], [], H)) 1 rfl (fun c6 => ?_) (fun c6 => ?_)
  · replace h := qv_pos c6 h
    refine qv_run 2 (σ := (12, [some (.ref a0), some (.int a1), none], [.int (-1000000001), .ref a0], H)) rfl ?_
    obtain ⟨g12, h⟩ := qv_guard h
    obtain ⟨v12, H12, e12, h⟩ := qv_bind2 h
    refine qv_callV [.int (-1000000001)] rfl rfl rfl (Nat.le_of_ble_eq_true rfl) g12 (th_X10_refuse (by omega) e12) (tl_X10_refuse e12) ?_
    obtain ⟨rfl, rfl⟩ := qv_pair h
    exact qv_reti rfl hR
  · replace h := qv_neg c6 h
    refine qv_run 1 (σ := (17, [some (.ref a0), some (.int a1), none], [.ref a0], H)) rfl ?_
    obtain ⟨v17, e17, h⟩ := qv_bind h
    refine qv_getR rfl e17 ?_
    refine qv_run 1 (σ := (21, [some (.ref a0), some (.int a1), none], [.ref a0, .ref v17], H)) rfl ?_
    obtain ⟨v21, e21, h⟩ := qv_bind h
    refine qv_getR rfl e21 ?_
    obtain ⟨v24, e24, h⟩ := qv_bind h
    refine qv_getR rfl e24 ?_
    obtain ⟨v27, e27, h⟩ := qv_bind h
    refine qv_getI rfl e27 ?_
    obtain ⟨g30, h⟩ := qv_guard h
    obtain ⟨v30, H30, e30, h⟩ := qv_bind2 h
    refine qv_callV [.int v27] rfl rfl rfl (Nat.le_of_ble_eq_true rfl) g30 (th_X4_fewestCuts (by omega) e30) (tl_X4_fewestCuts e30) ?_
    refine qv_br (c := v30 = (-1)) (a := (44, [some (.ref a0), some (.int a1), some (.int v30)], [], H30)) (b := (39, [some (.ref a0), some (.int a1), some (.int v30)], [], H30)) 4 rfl (fun c36 => ?_) (fun c36 => ?_)
    · replace h := qv_pos c36 h
      exact tb_X10_cuts_44 hd hR a0 (some (.int a1)) rfl (some (.int v30)) rfl H30 h
    · replace h := qv_neg c36 h
      refine qv_br (c := a1 < v30) (a := (51, [some (.ref a0), some (.int a1), some (.int v30)], [], H30)) (b := (44, [some (.ref a0), some (.int a1), some (.int v30)], [], H30)) 3 rfl (fun c41 => ?_) (fun c41 => ?_)
      · replace h := qv_pos c41 h
        refine qv_br (c := 0 ≤ a1) (a := (59, [some (.ref a0), some (.int a1), some (.int v30)], [], H30)) (b := (55, [some (.ref a0), some (.int a1), some (.int v30)], [], H30)) 2 rfl (fun c52 => ?_) (fun c52 => ?_)
        · replace h := qv_pos c52 h
          refine qv_run 1 (σ := (60, [some (.ref a0), some (.int a1), some (.int v30)], [.ref a0], H30)) rfl ?_
          obtain ⟨v60, e60, h⟩ := qv_bind h
          refine qv_getR rfl e60 ?_
          obtain ⟨v63, e63, h⟩ := qv_bind h
          refine qv_getR rfl e63 ?_
          refine qv_run 1 (σ := (67, [some (.ref a0), some (.int a1), some (.int v30)], [.int a1, .ref v63], H30)) rfl ?_
          obtain ⟨v67, e67, h⟩ := qv_bind h
          refine qv_ald rfl e67 ?_
          obtain ⟨rfl, rfl⟩ := qv_pair h
          exact qv_reti rfl hR
        · replace h := qv_neg c52 h
          refine qv_run 2 (σ := (68, [some (.ref a0), some (.int a1), some (.int v30)], [.int v30], H30)) rfl ?_
          obtain ⟨rfl, rfl⟩ := qv_pair h
          exact qv_reti rfl hR
      · replace h := qv_neg c41 h
        exact tb_X10_cuts_44 hd hR a0 (some (.int a1)) rfl (some (.int v30)) rfl H30 h
theorem tlb_X10_cuts_0 {r : Int32} {H' : qx_H} (a0 : Nat) (a1 : Int32) (H : qx_H) (h : fm_X10_cuts a0 a1 H = some (r, H')) : H'.length = H.length := by
  unfold fm_X10_cuts at h
  by_cases c6 : (fm_X10_isWithin a1 (-1) 2) = 0
  · replace h := qv_pos c6 h
    obtain ⟨g12, h⟩ := qv_guard h
    obtain ⟨v12, H12, e12, h⟩ := qv_bind2 h
    have q_H12 := tl_X10_refuse e12
    obtain ⟨rfl, rfl⟩ := qv_pair h
    omega
  · replace h := qv_neg c6 h
    obtain ⟨v17, e17, h⟩ := qv_bind h
    obtain ⟨v21, e21, h⟩ := qv_bind h
    obtain ⟨v24, e24, h⟩ := qv_bind h
    obtain ⟨v27, e27, h⟩ := qv_bind h
    obtain ⟨g30, h⟩ := qv_guard h
    obtain ⟨v30, H30, e30, h⟩ := qv_bind2 h
    have q_H30 := tl_X4_fewestCuts e30
    by_cases c36 : v30 = (-1)
    · replace h := qv_pos c36 h
      have q_end := tlb_X10_cuts_44 a0 H30 h
      omega
    · replace h := qv_neg c36 h
      by_cases c41 : a1 < v30
      · replace h := qv_pos c41 h
        by_cases c52 : 0 ≤ a1
        · replace h := qv_pos c52 h
          obtain ⟨v60, e60, h⟩ := qv_bind h
          obtain ⟨v63, e63, h⟩ := qv_bind h
          obtain ⟨v67, e67, h⟩ := qv_bind h
          obtain ⟨rfl, rfl⟩ := qv_pair h
          omega
        · replace h := qv_neg c52 h
          obtain ⟨rfl, rfl⟩ := qv_pair h
          omega
      · replace h := qv_neg c41 h
        have q_end := tlb_X10_cuts_44 a0 H30 h
        omega
theorem th_X10_cuts {st : xT} {d : Nat} (hd : 15 ≤ d) {a0 : Nat} {a1 : Int32} {H : qx_H} {r : Int32} {H' : qx_H} (h : fm_X10_cuts a0 a1 H = some (r, H')) : xE st d 91 [.ref a0, .int a1] H (some (.int r)) H' := by
  obtain ⟨d, rfl⟩ : ∃ d', d = d' + 1 := ⟨d - 1, by omega⟩
  exact xE_of (xe91 st) xl91 (Nat.le_of_ble_eq_true rfl) (ls := [some (.ref a0), some (.int a1), none]) rfl (tb_X10_cuts_0 (by omega) ⟨rfl, rfl⟩ a0 a1 H h)
theorem tl_X10_cuts {a0 : Nat} {a1 : Int32} {H : qx_H} {r : Int32} {H' : qx_H} (h : fm_X10_cuts a0 a1 H = some (r, H')) : H'.length = H.length := tlb_X10_cuts_0 a0 a1 H h
def fm_X10_way (a0 : Nat) (a1 : Int32) (H : qx_H) : Option (Int32 × qx_H) := if 0 ≤ a1 then ((hp_gR H a0 8 0).bind fun v12 => (hp_gR H v12 4 0).bind fun v15 => (hp_gI H v15 3 9).bind fun v18 => (fm_X4_isOneRun v18 H).bind fun v21 => if v21 = 0 then (if hp_is H a0 8 = true then (ob2 (fm_X10_refuse a0 (-1000000003) H) fun v30 H30 => some (v30, H30)) else none) else ((hp_gR H a0 8 0).bind fun v36 => (hp_gR H v36 4 0).bind fun v39 => if hp_is H v39 3 = true then ((fm_X5_missingThreads v39 H).bind fun v42 => if a1 ≤ v42 then ((hp_gR H a0 8 0).bind fun v56 => (hp_gR H v56 4 0).bind fun v59 => (hp_gI H v59 3 9).bind fun v62 => (fm_X4_wayKnot v62 a1 H).bind fun v66 => some (v66, H)) else (if hp_is H a0 8 = true then (ob2 (fm_X10_refuse a0 (-1000000002) H) fun v51 H51 => some (v51, H51)) else none)) else none)) else (if hp_is H a0 8 = true then (ob2 (fm_X10_refuse a0 (-1000000001) H) fun v7 H7 => some (v7, H7)) else none)
theorem tb_X10_way_0 {st : xT} {d : Nat} {R : Option Value → qx_H → Prop} (hd : 6 ≤ d) {r : Int32} {H' : qx_H} (hR : R (some (.int r)) H') (a0 : Nat) (a1 : Int32) (H : qx_H) (h : fm_X10_way a0 a1 H = some (r, H')) : qx_V (xE st d) R (xc92 st) (0, [some (.ref a0), some (.int a1)], [], H) := by
  unfold fm_X10_way at h
  refine qv_br (c := 0 ≤ a1) (a := (11, [some (.ref a0), some (.int a1)], [], H)) (b := (4, [some (.ref a0), some (.int a1)], [], H)) 2 rfl (fun c1 => ?_) (fun c1 => ?_)
  · replace h := qv_pos c1 h
    refine qv_run 1 (σ := (12, [some (.ref a0), some (.int a1)], [.ref a0], H)) rfl ?_
    obtain ⟨v12, e12, h⟩ := qv_bind h
    refine qv_getR rfl e12 ?_
    obtain ⟨v15, e15, h⟩ := qv_bind h
    refine qv_getR rfl e15 ?_
    obtain ⟨v18, e18, h⟩ := qv_bind h
    refine qv_getI rfl e18 ?_
    obtain ⟨v21, e21, h⟩ := qv_bind h
    refine qv_call [.int v18] rfl rfl rfl (Nat.le_of_ble_eq_true rfl) (th_X4_isOneRun (by omega) e21) rfl ?_
    refine qv_br (c := v21 = 0) (a := (27, [some (.ref a0), some (.int a1)], [], H)) (b := (34, [some (.ref a0), some (.int a1)], [], H)) 1 rfl (fun c24 => ?_) (fun c24 => ?_)
    · replace h := qv_pos c24 h
      refine qv_run 2 (σ := (30, [some (.ref a0), some (.int a1)], [.int (-1000000003), .ref a0], H)) rfl ?_
      obtain ⟨g30, h⟩ := qv_guard h
      obtain ⟨v30, H30, e30, h⟩ := qv_bind2 h
      refine qv_callV [.int (-1000000003)] rfl rfl rfl (Nat.le_of_ble_eq_true rfl) g30 (th_X10_refuse (by omega) e30) (tl_X10_refuse e30) ?_
      obtain ⟨rfl, rfl⟩ := qv_pair h
      exact qv_reti rfl hR
    · replace h := qv_neg c24 h
      refine qv_run 2 (σ := (36, [some (.ref a0), some (.int a1)], [.ref a0, .int a1], H)) rfl ?_
      obtain ⟨v36, e36, h⟩ := qv_bind h
      refine qv_getR rfl e36 ?_
      obtain ⟨v39, e39, h⟩ := qv_bind h
      refine qv_getR rfl e39 ?_
      obtain ⟨g42, h⟩ := qv_guard h
      obtain ⟨v42, e42, h⟩ := qv_bind h
      refine qv_callV [] rfl rfl rfl (Nat.le_of_ble_eq_true rfl) g42 (th_X5_missingThreads (by omega) e42) rfl ?_
      refine qv_br (c := a1 ≤ v42) (a := (55, [some (.ref a0), some (.int a1)], [], H)) (b := (48, [some (.ref a0), some (.int a1)], [], H)) 1 rfl (fun c45 => ?_) (fun c45 => ?_)
      · replace h := qv_pos c45 h
        refine qv_run 1 (σ := (56, [some (.ref a0), some (.int a1)], [.ref a0], H)) rfl ?_
        obtain ⟨v56, e56, h⟩ := qv_bind h
        refine qv_getR rfl e56 ?_
        obtain ⟨v59, e59, h⟩ := qv_bind h
        refine qv_getR rfl e59 ?_
        obtain ⟨v62, e62, h⟩ := qv_bind h
        refine qv_getI rfl e62 ?_
        refine qv_run 1 (σ := (66, [some (.ref a0), some (.int a1)], [.int a1, .int v62], H)) rfl ?_
        obtain ⟨v66, e66, h⟩ := qv_bind h
        refine qv_call [.int v62, .int a1] rfl rfl rfl (Nat.le_of_ble_eq_true rfl) (th_X4_wayKnot (by omega) e66) rfl ?_
        obtain ⟨rfl, rfl⟩ := qv_pair h
        exact qv_reti rfl hR
      · replace h := qv_neg c45 h
        refine qv_run 2 (σ := (51, [some (.ref a0), some (.int a1)], [.int (-1000000002), .ref a0], H)) rfl ?_
        obtain ⟨g51, h⟩ := qv_guard h
        obtain ⟨v51, H51, e51, h⟩ := qv_bind2 h
        refine qv_callV [.int (-1000000002)] rfl rfl rfl (Nat.le_of_ble_eq_true rfl) g51 (th_X10_refuse (by omega) e51) (tl_X10_refuse e51) ?_
        obtain ⟨rfl, rfl⟩ := qv_pair h
        exact qv_reti rfl hR
  · replace h := qv_neg c1 h
    refine qv_run 2 (σ := (7, [some (.ref a0), some (.int a1)], [.int (-1000000001), .ref a0], H)) rfl ?_
    obtain ⟨g7, h⟩ := qv_guard h
    obtain ⟨v7, H7, e7, h⟩ := qv_bind2 h
    refine qv_callV [.int (-1000000001)] rfl rfl rfl (Nat.le_of_ble_eq_true rfl) g7 (th_X10_refuse (by omega) e7) (tl_X10_refuse e7) ?_
    obtain ⟨rfl, rfl⟩ := qv_pair h
    exact qv_reti rfl hR
theorem tlb_X10_way_0 {r : Int32} {H' : qx_H} (a0 : Nat) (a1 : Int32) (H : qx_H) (h : fm_X10_way a0 a1 H = some (r, H')) : H'.length = H.length := by
  unfold fm_X10_way at h
  by_cases c1 : 0 ≤ a1
  · replace h := qv_pos c1 h
    obtain ⟨v12, e12, h⟩ := qv_bind h
    obtain ⟨v15, e15, h⟩ := qv_bind h
    obtain ⟨v18, e18, h⟩ := qv_bind h
    obtain ⟨v21, e21, h⟩ := qv_bind h
    by_cases c24 : v21 = 0
    · replace h := qv_pos c24 h
      obtain ⟨g30, h⟩ := qv_guard h
      obtain ⟨v30, H30, e30, h⟩ := qv_bind2 h
      have q_H30 := tl_X10_refuse e30
      obtain ⟨rfl, rfl⟩ := qv_pair h
      omega
    · replace h := qv_neg c24 h
      obtain ⟨v36, e36, h⟩ := qv_bind h
      obtain ⟨v39, e39, h⟩ := qv_bind h
      obtain ⟨g42, h⟩ := qv_guard h
      obtain ⟨v42, e42, h⟩ := qv_bind h
      by_cases c45 : a1 ≤ v42
      · replace h := qv_pos c45 h
        obtain ⟨v56, e56, h⟩ := qv_bind h
        obtain ⟨v59, e59, h⟩ := qv_bind h
        obtain ⟨v62, e62, h⟩ := qv_bind h
        obtain ⟨v66, e66, h⟩ := qv_bind h
        obtain ⟨rfl, rfl⟩ := qv_pair h
        rfl
      · replace h := qv_neg c45 h
        obtain ⟨g51, h⟩ := qv_guard h
        obtain ⟨v51, H51, e51, h⟩ := qv_bind2 h
        have q_H51 := tl_X10_refuse e51
        obtain ⟨rfl, rfl⟩ := qv_pair h
        omega
  · replace h := qv_neg c1 h
    obtain ⟨g7, h⟩ := qv_guard h
    obtain ⟨v7, H7, e7, h⟩ := qv_bind2 h
    have q_H7 := tl_X10_refuse e7
    obtain ⟨rfl, rfl⟩ := qv_pair h
    omega
theorem th_X10_way {st : xT} {d : Nat} (hd : 7 ≤ d) {a0 : Nat} {a1 : Int32} {H : qx_H} {r : Int32} {H' : qx_H} (h : fm_X10_way a0 a1 H = some (r, H')) : xE st d 92 [.ref a0, .int a1] H (some (.int r)) H' := by
  obtain ⟨d, rfl⟩ : ∃ d', d = d' + 1 := ⟨d - 1, by omega⟩
  exact xE_of (xe92 st) xl92 (Nat.le_of_ble_eq_true rfl) (ls := [some (.ref a0), some (.int a1)]) rfl (tb_X10_way_0 (by omega) ⟨rfl, rfl⟩ a0 a1 H h)
theorem tl_X10_way {a0 : Nat} {a1 : Int32} {H : qx_H} {r : Int32} {H' : qx_H} (h : fm_X10_way a0 a1 H = some (r, H')) : H'.length = H.length := tlb_X10_way_0 a0 a1 H h
def fm_X10_hole (a0 : Nat) (a1 : Int32) (H : qx_H) : Option (Int32 × qx_H) := if (-1) ≤ a1 then ((hp_gR H a0 8 0).bind fun v13 => (hp_gR H v13 4 0).bind fun v16 => (hp_gI H v16 3 9).bind fun v19 => (fm_X0_holesIn v19 H).bind fun v22 => if a1 < v22 then (if 0 ≤ a1 then ((hp_gR H a0 8 0).bind fun v47 => (hp_gR H v47 4 0).bind fun v50 => (hp_gI H v50 3 9).bind fun v53 => (fm_X0_holeAt v53 a1 H).bind fun v57 => some ((fm_J6_bitCount_0f7a4 v57), H)) else (some (v22, H))) else (if hp_is H a0 8 = true then (ob2 (fm_X10_refuse a0 (-1000000002) H) fun v34 H34 => some (v34, H34)) else none)) else (if hp_is H a0 8 = true then (ob2 (fm_X10_refuse a0 (-1000000001) H) fun v8 H8 => some (v8, H8)) else none)
theorem tb_X10_hole_0 {st : xT} {d : Nat} {R : Option Value → qx_H → Prop} (hd : 5 ≤ d) {r : Int32} {H' : qx_H} (hR : R (some (.int r)) H') (a0 : Nat) (a1 : Int32) (H : qx_H) (h : fm_X10_hole a0 a1 H = some (r, H')) : qx_V (xE st d) R (xc93 st) (0, [some (.ref a0), some (.int a1), none], [], H) := by
  unfold fm_X10_hole at h
  refine qv_br (c := (-1) ≤ a1) (a := (12, [some (.ref a0), some (.int a1), none], [], H)) (b := (5, [some (.ref a0), some (.int a1), none], [], H)) 3 rfl (fun c2 => ?_) (fun c2 => ?_)
  · replace h := qv_pos c2 h
    refine qv_run 1 (σ := (13, [some (.ref a0), some (.int a1), none], [.ref a0], H)) rfl ?_
    obtain ⟨v13, e13, h⟩ := qv_bind h
    refine qv_getR rfl e13 ?_
    obtain ⟨v16, e16, h⟩ := qv_bind h
    refine qv_getR rfl e16 ?_
    obtain ⟨v19, e19, h⟩ := qv_bind h
    refine qv_getI rfl e19 ?_
    obtain ⟨v22, e22, h⟩ := qv_bind h
    refine qv_call [.int v19] rfl rfl rfl (Nat.le_of_ble_eq_true rfl) (th_X0_holesIn (by omega) e22) rfl ?_
    refine qv_br (c := a1 < v22) (a := (38, [some (.ref a0), some (.int a1), some (.int v22)], [], H)) (b := (31, [some (.ref a0), some (.int a1), some (.int v22)], [], H)) 4 rfl (fun c28 => ?_) (fun c28 => ?_)
    · replace h := qv_pos c28 h
      refine qv_br (c := 0 ≤ a1) (a := (46, [some (.ref a0), some (.int a1), some (.int v22)], [], H)) (b := (42, [some (.ref a0), some (.int a1), some (.int v22)], [], H)) 2 rfl (fun c39 => ?_) (fun c39 => ?_)
      · replace h := qv_pos c39 h
        refine qv_run 1 (σ := (47, [some (.ref a0), some (.int a1), some (.int v22)], [.ref a0], H)) rfl ?_
        obtain ⟨v47, e47, h⟩ := qv_bind h
        refine qv_getR rfl e47 ?_
        obtain ⟨v50, e50, h⟩ := qv_bind h
        refine qv_getR rfl e50 ?_
        obtain ⟨v53, e53, h⟩ := qv_bind h
        refine qv_getI rfl e53 ?_
        refine qv_run 1 (σ := (57, [some (.ref a0), some (.int a1), some (.int v22)], [.int a1, .int v53], H)) rfl ?_
        obtain ⟨v57, e57, h⟩ := qv_bind h
        refine qv_call [.int v53, .int a1] rfl rfl rfl (Nat.le_of_ble_eq_true rfl) (th_X0_holeAt (by omega) e57) rfl ?_
        refine qv_call [.int v57] rfl rfl rfl (Nat.le_of_ble_eq_true rfl) (th_J6_bitCount_0f7a4 (by omega) rfl) rfl ?_
        obtain ⟨rfl, rfl⟩ := qv_pair h
        exact qv_reti rfl hR
      · replace h := qv_neg c39 h
        refine qv_run 2 (σ := (63, [some (.ref a0), some (.int a1), some (.int v22)], [.int v22], H)) rfl ?_
        obtain ⟨rfl, rfl⟩ := qv_pair h
        exact qv_reti rfl hR
    · replace h := qv_neg c28 h
      refine qv_run 2 (σ := (34, [some (.ref a0), some (.int a1), some (.int v22)], [.int (-1000000002), .ref a0], H)) rfl ?_
      obtain ⟨g34, h⟩ := qv_guard h
      obtain ⟨v34, H34, e34, h⟩ := qv_bind2 h
      refine qv_callV [.int (-1000000002)] rfl rfl rfl (Nat.le_of_ble_eq_true rfl) g34 (th_X10_refuse (by omega) e34) (tl_X10_refuse e34) ?_
      obtain ⟨rfl, rfl⟩ := qv_pair h
      exact qv_reti rfl hR
  · replace h := qv_neg c2 h
    refine qv_run 2 (σ := (8, [some (.ref a0), some (.int a1), none], [.int (-1000000001), .ref a0], H)) rfl ?_
    obtain ⟨g8, h⟩ := qv_guard h
    obtain ⟨v8, H8, e8, h⟩ := qv_bind2 h
    refine qv_callV [.int (-1000000001)] rfl rfl rfl (Nat.le_of_ble_eq_true rfl) g8 (th_X10_refuse (by omega) e8) (tl_X10_refuse e8) ?_
    obtain ⟨rfl, rfl⟩ := qv_pair h
    exact qv_reti rfl hR
theorem tlb_X10_hole_0 {r : Int32} {H' : qx_H} (a0 : Nat) (a1 : Int32) (H : qx_H) (h : fm_X10_hole a0 a1 H = some (r, H')) : H'.length = H.length := by
  unfold fm_X10_hole at h
  by_cases c2 : (-1) ≤ a1
  · replace h := qv_pos c2 h
    obtain ⟨v13, e13, h⟩ := qv_bind h
    obtain ⟨v16, e16, h⟩ := qv_bind h
    obtain ⟨v19, e19, h⟩ := qv_bind h
    obtain ⟨v22, e22, h⟩ := qv_bind h
    by_cases c28 : a1 < v22
    · replace h := qv_pos c28 h
      by_cases c39 : 0 ≤ a1
      · replace h := qv_pos c39 h
        obtain ⟨v47, e47, h⟩ := qv_bind h
        obtain ⟨v50, e50, h⟩ := qv_bind h
        obtain ⟨v53, e53, h⟩ := qv_bind h
        obtain ⟨v57, e57, h⟩ := qv_bind h
        obtain ⟨rfl, rfl⟩ := qv_pair h
        rfl
      · replace h := qv_neg c39 h
        obtain ⟨rfl, rfl⟩ := qv_pair h
        rfl
    · replace h := qv_neg c28 h
      obtain ⟨g34, h⟩ := qv_guard h
      obtain ⟨v34, H34, e34, h⟩ := qv_bind2 h
      have q_H34 := tl_X10_refuse e34
      obtain ⟨rfl, rfl⟩ := qv_pair h
      omega
  · replace h := qv_neg c2 h
    obtain ⟨g8, h⟩ := qv_guard h
    obtain ⟨v8, H8, e8, h⟩ := qv_bind2 h
    have q_H8 := tl_X10_refuse e8
    obtain ⟨rfl, rfl⟩ := qv_pair h
    omega
theorem th_X10_hole {st : xT} {d : Nat} (hd : 6 ≤ d) {a0 : Nat} {a1 : Int32} {H : qx_H} {r : Int32} {H' : qx_H} (h : fm_X10_hole a0 a1 H = some (r, H')) : xE st d 93 [.ref a0, .int a1] H (some (.int r)) H' := by
  obtain ⟨d, rfl⟩ : ∃ d', d = d' + 1 := ⟨d - 1, by omega⟩
  exact xE_of (xe93 st) xl93 (Nat.le_of_ble_eq_true rfl) (ls := [some (.ref a0), some (.int a1), none]) rfl (tb_X10_hole_0 (by omega) ⟨rfl, rfl⟩ a0 a1 H h)
theorem tl_X10_hole {a0 : Nat} {a1 : Int32} {H : qx_H} {r : Int32} {H' : qx_H} (h : fm_X10_hole a0 a1 H = some (r, H')) : H'.length = H.length := tlb_X10_hole_0 a0 a1 H h
def fm_X10_open (a0 : Nat) (H : qx_H) : Option Int32 := (hp_gR H a0 8 0).bind fun v1 => (hp_gR H v1 4 0).bind fun v4 => (hp_gI H v4 3 9).bind fun v7 => (fm_X0_greatestOpening v7 H).bind fun v10 => some v10
theorem tb_X10_open_0 {st : xT} {d : Nat} {R : Option Value → qx_H → Prop} (hd : 4 ≤ d) {r : Int32} {H : qx_H} (hR : R (some (.int r)) H) (a0 : Nat) (h : fm_X10_open a0 H = some r) : qx_V (xE st d) R (xc94 st) (0, [some (.ref a0)], [], H) := by
  unfold fm_X10_open at h
  refine qv_run 1 (σ := (1, [some (.ref a0)], [.ref a0], H)) rfl ?_
  obtain ⟨v1, e1, h⟩ := qv_bind h
  refine qv_getR rfl e1 ?_
  obtain ⟨v4, e4, h⟩ := qv_bind h
  refine qv_getR rfl e4 ?_
  obtain ⟨v7, e7, h⟩ := qv_bind h
  refine qv_getI rfl e7 ?_
  obtain ⟨v10, e10, h⟩ := qv_bind h
  refine qv_call [.int v7] rfl rfl rfl (Nat.le_of_ble_eq_true rfl) (th_X0_greatestOpening (by omega) e10) rfl ?_
  cases h
  exact qv_reti rfl hR
theorem th_X10_open {st : xT} {d : Nat} (hd : 5 ≤ d) {a0 : Nat} {r : Int32} {H : qx_H} (h : fm_X10_open a0 H = some r) : xE st d 94 [.ref a0] H (some (.int r)) H := by
  obtain ⟨d, rfl⟩ : ∃ d', d = d' + 1 := ⟨d - 1, by omega⟩
  exact xE_of (xe94 st) xl94 (Nat.le_of_ble_eq_true rfl) (ls := [some (.ref a0)]) rfl (tb_X10_open_0 (by omega) ⟨rfl, rfl⟩ a0 h)
def fm_X10_minutes (a0 : Nat) (a1 : Int32) (H : qx_H) : Option (Int32 × qx_H) := if (-1) ≤ a1 then ((hp_gR H a0 8 0).bind fun v13 => (hp_gR H v13 4 0).bind fun v16 => (hp_gI H v16 3 9).bind fun v19 => (fm_X0_holesIn v19 H).bind fun v22 => if a1 < v22 then (if v22 ≤ 6 then ((hp_gR H a0 8 6).bind fun v52 => (hp_gR H a0 8 0).bind fun v56 => (hp_gR H v56 4 0).bind fun v59 => (hp_gI H v59 3 9).bind fun v62 => (hp_gR H a0 8 0).bind fun v67 => (hp_gR H v67 4 1).bind fun v70 => if hp_is H v52 0 = true then ((fm_X1_plan v52 v62 v22 v70 H).bind fun H73 => if 0 ≤ a1 then ((hp_gR H73 a0 8 6).bind fun v91 => (hp_gR H73 v91 0 2).bind fun v94 => (hp_ald H73 v94 a1).bind fun v98 => some (v98, H73)) else ((hp_gR H73 a0 8 6).bind fun v81 => (hp_gI H73 v81 0 4).bind fun v84 => some (v84, H73))) else none) else (if hp_is H a0 8 = true then (ob2 (fm_X10_refuse a0 (-1000000004) H) fun v47 H47 => some (v47, H47)) else none)) else (if hp_is H a0 8 = true then (ob2 (fm_X10_refuse a0 (-1000000002) H) fun v34 H34 => some (v34, H34)) else none)) else (if hp_is H a0 8 = true then (ob2 (fm_X10_refuse a0 (-1000000001) H) fun v8 H8 => some (v8, H8)) else none)
theorem tb_X10_minutes_0 {st : xT} {d : Nat} {R : Option Value → qx_H → Prop} (hd : 6 ≤ d) {r : Int32} {H' : qx_H} (hR : R (some (.int r)) H') (a0 : Nat) (a1 : Int32) (H : qx_H) (h : fm_X10_minutes a0 a1 H = some (r, H')) : qx_V (xE st d) R (xc95 st) (0, [some (.ref a0), some (.int a1), none], [], H) := by
  unfold fm_X10_minutes at h
  refine qv_br (c := (-1) ≤ a1) (a := (12, [some (.ref a0), some (.int a1), none], [], H)) (b := (5, [some (.ref a0), some (.int a1), none], [], H)) 3 rfl (fun c2 => ?_) (fun c2 => ?_)
  · replace h := qv_pos c2 h
    refine qv_run 1 (σ := (13, [some (.ref a0), some (.int a1), none], [.ref a0], H)) rfl ?_
    obtain ⟨v13, e13, h⟩ := qv_bind h
    refine qv_getR rfl e13 ?_
    obtain ⟨v16, e16, h⟩ := qv_bind h
    refine qv_getR rfl e16 ?_
    obtain ⟨v19, e19, h⟩ := qv_bind h
    refine qv_getI rfl e19 ?_
    obtain ⟨v22, e22, h⟩ := qv_bind h
    refine qv_call [.int v19] rfl rfl rfl (Nat.le_of_ble_eq_true rfl) (th_X0_holesIn (by omega) e22) rfl ?_
    refine qv_br (c := a1 < v22) (a := (38, [some (.ref a0), some (.int a1), some (.int v22)], [], H)) (b := (31, [some (.ref a0), some (.int a1), some (.int v22)], [], H)) 4 rfl (fun c28 => ?_) (fun c28 => ?_)
    · replace h := qv_pos c28 h
      refine qv_br (c := v22 ≤ 6) (a := (51, [some (.ref a0), some (.int a1), some (.int v22)], [], H)) (b := (44, [some (.ref a0), some (.int a1), some (.int v22)], [], H)) 3 rfl (fun c41 => ?_) (fun c41 => ?_)
      · replace h := qv_pos c41 h
        refine qv_run 1 (σ := (52, [some (.ref a0), some (.int a1), some (.int v22)], [.ref a0], H)) rfl ?_
        obtain ⟨v52, e52, h⟩ := qv_bind h
        refine qv_getR rfl e52 ?_
        refine qv_run 1 (σ := (56, [some (.ref a0), some (.int a1), some (.int v22)], [.ref a0, .ref v52], H)) rfl ?_
        obtain ⟨v56, e56, h⟩ := qv_bind h
        refine qv_getR rfl e56 ?_
        obtain ⟨v59, e59, h⟩ := qv_bind h
        refine qv_getR rfl e59 ?_
        obtain ⟨v62, e62, h⟩ := qv_bind h
        refine qv_getI rfl e62 ?_
        refine qv_run 2 (σ := (67, [some (.ref a0), some (.int a1), some (.int v22)], [.ref a0, .int v22, .int v62, .ref v52], H)) rfl ?_
        obtain ⟨v67, e67, h⟩ := qv_bind h
        refine qv_getR rfl e67 ?_
        obtain ⟨v70, e70, h⟩ := qv_bind h
        refine qv_getR rfl e70 ?_
        obtain ⟨g73, h⟩ := qv_guard h
        obtain ⟨H73, e73, h⟩ := qv_bind h
        refine qv_callV [.int v62, .int v22, .ref v70] rfl rfl rfl (Nat.le_of_ble_eq_true rfl) g73 (th_X1_plan (by omega) e73) (tl_X1_plan e73) ?_
        refine qv_br (c := 0 ≤ a1) (a := (90, [some (.ref a0), some (.int a1), some (.int v22)], [], H73)) (b := (80, [some (.ref a0), some (.int a1), some (.int v22)], [], H73)) 2 rfl (fun c77 => ?_) (fun c77 => ?_)
        · replace h := qv_pos c77 h
          refine qv_run 1 (σ := (91, [some (.ref a0), some (.int a1), some (.int v22)], [.ref a0], H73)) rfl ?_
          obtain ⟨v91, e91, h⟩ := qv_bind h
          refine qv_getR rfl e91 ?_
          obtain ⟨v94, e94, h⟩ := qv_bind h
          refine qv_getR rfl e94 ?_
          refine qv_run 1 (σ := (98, [some (.ref a0), some (.int a1), some (.int v22)], [.int a1, .ref v94], H73)) rfl ?_
          obtain ⟨v98, e98, h⟩ := qv_bind h
          refine qv_ald rfl e98 ?_
          obtain ⟨rfl, rfl⟩ := qv_pair h
          exact qv_reti rfl hR
        · replace h := qv_neg c77 h
          refine qv_run 1 (σ := (81, [some (.ref a0), some (.int a1), some (.int v22)], [.ref a0], H73)) rfl ?_
          obtain ⟨v81, e81, h⟩ := qv_bind h
          refine qv_getR rfl e81 ?_
          obtain ⟨v84, e84, h⟩ := qv_bind h
          refine qv_getI rfl e84 ?_
          refine qv_run 1 (σ := (99, [some (.ref a0), some (.int a1), some (.int v22)], [.int v84], H73)) rfl ?_
          obtain ⟨rfl, rfl⟩ := qv_pair h
          exact qv_reti rfl hR
      · replace h := qv_neg c41 h
        refine qv_run 2 (σ := (47, [some (.ref a0), some (.int a1), some (.int v22)], [.int (-1000000004), .ref a0], H)) rfl ?_
        obtain ⟨g47, h⟩ := qv_guard h
        obtain ⟨v47, H47, e47, h⟩ := qv_bind2 h
        refine qv_callV [.int (-1000000004)] rfl rfl rfl (Nat.le_of_ble_eq_true rfl) g47 (th_X10_refuse (by omega) e47) (tl_X10_refuse e47) ?_
        obtain ⟨rfl, rfl⟩ := qv_pair h
        exact qv_reti rfl hR
    · replace h := qv_neg c28 h
      refine qv_run 2 (σ := (34, [some (.ref a0), some (.int a1), some (.int v22)], [.int (-1000000002), .ref a0], H)) rfl ?_
      obtain ⟨g34, h⟩ := qv_guard h
      obtain ⟨v34, H34, e34, h⟩ := qv_bind2 h
      refine qv_callV [.int (-1000000002)] rfl rfl rfl (Nat.le_of_ble_eq_true rfl) g34 (th_X10_refuse (by omega) e34) (tl_X10_refuse e34) ?_
      obtain ⟨rfl, rfl⟩ := qv_pair h
      exact qv_reti rfl hR
  · replace h := qv_neg c2 h
    refine qv_run 2 (σ := (8, [some (.ref a0), some (.int a1), none], [.int (-1000000001), .ref a0], H)) rfl ?_
    obtain ⟨g8, h⟩ := qv_guard h
    obtain ⟨v8, H8, e8, h⟩ := qv_bind2 h
    refine qv_callV [.int (-1000000001)] rfl rfl rfl (Nat.le_of_ble_eq_true rfl) g8 (th_X10_refuse (by omega) e8) (tl_X10_refuse e8) ?_
    obtain ⟨rfl, rfl⟩ := qv_pair h
    exact qv_reti rfl hR
theorem tlb_X10_minutes_0 {r : Int32} {H' : qx_H} (a0 : Nat) (a1 : Int32) (H : qx_H) (h : fm_X10_minutes a0 a1 H = some (r, H')) : H'.length = H.length := by
  unfold fm_X10_minutes at h
  by_cases c2 : (-1) ≤ a1
  · replace h := qv_pos c2 h
    obtain ⟨v13, e13, h⟩ := qv_bind h
    obtain ⟨v16, e16, h⟩ := qv_bind h
    obtain ⟨v19, e19, h⟩ := qv_bind h
    obtain ⟨v22, e22, h⟩ := qv_bind h
    by_cases c28 : a1 < v22
    · replace h := qv_pos c28 h
      by_cases c41 : v22 ≤ 6
      · replace h := qv_pos c41 h
        obtain ⟨v52, e52, h⟩ := qv_bind h
        obtain ⟨v56, e56, h⟩ := qv_bind h
        obtain ⟨v59, e59, h⟩ := qv_bind h
        obtain ⟨v62, e62, h⟩ := qv_bind h
        obtain ⟨v67, e67, h⟩ := qv_bind h
        obtain ⟨v70, e70, h⟩ := qv_bind h
        obtain ⟨g73, h⟩ := qv_guard h
        obtain ⟨H73, e73, h⟩ := qv_bind h
        have q_H73 := tl_X1_plan e73
        by_cases c77 : 0 ≤ a1
        · replace h := qv_pos c77 h
          obtain ⟨v91, e91, h⟩ := qv_bind h
          obtain ⟨v94, e94, h⟩ := qv_bind h
          obtain ⟨v98, e98, h⟩ := qv_bind h
          obtain ⟨rfl, rfl⟩ := qv_pair h
          omega
        · replace h := qv_neg c77 h
          obtain ⟨v81, e81, h⟩ := qv_bind h
          obtain ⟨v84, e84, h⟩ := qv_bind h
          obtain ⟨rfl, rfl⟩ := qv_pair h
          omega
      · replace h := qv_neg c41 h
        obtain ⟨g47, h⟩ := qv_guard h
        obtain ⟨v47, H47, e47, h⟩ := qv_bind2 h
        have q_H47 := tl_X10_refuse e47
        obtain ⟨rfl, rfl⟩ := qv_pair h
        omega
    · replace h := qv_neg c28 h
      obtain ⟨g34, h⟩ := qv_guard h
      obtain ⟨v34, H34, e34, h⟩ := qv_bind2 h
      have q_H34 := tl_X10_refuse e34
      obtain ⟨rfl, rfl⟩ := qv_pair h
      omega
  · replace h := qv_neg c2 h
    obtain ⟨g8, h⟩ := qv_guard h
    obtain ⟨v8, H8, e8, h⟩ := qv_bind2 h
    have q_H8 := tl_X10_refuse e8
    obtain ⟨rfl, rfl⟩ := qv_pair h
    omega
theorem th_X10_minutes {st : xT} {d : Nat} (hd : 7 ≤ d) {a0 : Nat} {a1 : Int32} {H : qx_H} {r : Int32} {H' : qx_H} (h : fm_X10_minutes a0 a1 H = some (r, H')) : xE st d 95 [.ref a0, .int a1] H (some (.int r)) H' := by
  obtain ⟨d, rfl⟩ : ∃ d', d = d' + 1 := ⟨d - 1, by omega⟩
  exact xE_of (xe95 st) xl95 (Nat.le_of_ble_eq_true rfl) (ls := [some (.ref a0), some (.int a1), none]) rfl (tb_X10_minutes_0 (by omega) ⟨rfl, rfl⟩ a0 a1 H h)
theorem tl_X10_minutes {a0 : Nat} {a1 : Int32} {H : qx_H} {r : Int32} {H' : qx_H} (h : fm_X10_minutes a0 a1 H = some (r, H')) : H'.length = H.length := tlb_X10_minutes_0 a0 a1 H h
def fm_X10_daysError (a0 : Nat) (a1 : Int32) (H : qx_H) : Option Int32 := if (fm_X10_isWithin a1 1 60) = 0 then (some (-1000000001)) else ((hp_gR H a0 8 0).bind fun v14 => (hp_gR H v14 4 0).bind fun v17 => (hp_gI H v17 3 10).bind fun v20 => if (v20 + a1) ≤ 9999 then (some 0) else (some (-1000000003)))
theorem tb_X10_daysError_0 {st : xT} {d : Nat} {R : Option Value → qx_H → Prop} (hd : 1 ≤ d) {r : Int32} {H : qx_H} (hR : R (some (.int r)) H) (a0 : Nat) (a1 : Int32) (h : fm_X10_daysError a0 a1 H = some r) : qx_V (xE st d) R (xc121 st) (0, [some (.ref a0), some (.int a1)], [], H) := by
  unfold fm_X10_daysError at h
  refine qv_run 3 (σ := (4, [some (.ref a0), some (.int a1)], [.int 60, .int 1, .int a1], H)) rfl ?_
  refine qv_call [.int a1, .int 1, .int 60] rfl rfl rfl (Nat.le_of_ble_eq_true rfl) (th_X10_isWithin (by omega) rfl) rfl ?_
  refine qv_br (c := (fm_X10_isWithin a1 1 60) = 0) (a := (10, [some (.ref a0), some (.int a1)], [], H)) (b := (13, [some (.ref a0), some (.int a1)], [], H)) 1 rfl (fun c7 => ?_) (fun c7 => ?_)
  · replace h := qv_pos c7 h
    refine qv_run 1 (σ := (12, [some (.ref a0), some (.int a1)], [.int (-1000000001)], H)) rfl ?_
    cases h
    exact qv_reti rfl hR
  · replace h := qv_neg c7 h
    refine qv_run 1 (σ := (14, [some (.ref a0), some (.int a1)], [.ref a0], H)) rfl ?_
    obtain ⟨v14, e14, h⟩ := qv_bind h
    refine qv_getR rfl e14 ?_
    obtain ⟨v17, e17, h⟩ := qv_bind h
    refine qv_getR rfl e17 ?_
    obtain ⟨v20, e20, h⟩ := qv_bind h
    refine qv_getI rfl e20 ?_
    refine qv_br (c := (v20 + a1) ≤ 9999) (a := (36, [some (.ref a0), some (.int a1)], [], H)) (b := (31, [some (.ref a0), some (.int a1)], [], H)) 4 rfl (fun c28 => ?_) (fun c28 => ?_)
    · replace h := qv_pos c28 h
      refine qv_run 1 (σ := (37, [some (.ref a0), some (.int a1)], [.int 0], H)) rfl ?_
      cases h
      exact qv_reti rfl hR
    · replace h := qv_neg c28 h
      refine qv_run 2 (σ := (37, [some (.ref a0), some (.int a1)], [.int (-1000000003)], H)) rfl ?_
      cases h
      exact qv_reti rfl hR
theorem th_X10_daysError {st : xT} {d : Nat} (hd : 2 ≤ d) {a0 : Nat} {a1 : Int32} {r : Int32} {H : qx_H} (h : fm_X10_daysError a0 a1 H = some r) : xE st d 121 [.ref a0, .int a1] H (some (.int r)) H := by
  obtain ⟨d, rfl⟩ : ∃ d', d = d' + 1 := ⟨d - 1, by omega⟩
  exact xE_of (xe121 st) xl121 (Nat.le_of_ble_eq_true rfl) (ls := [some (.ref a0), some (.int a1)]) rfl (tb_X10_daysError_0 (by omega) ⟨rfl, rfl⟩ a0 a1 h)
def fm_X10_days (a0 : Nat) (a1 : Int32) (H : qx_H) : Option (Int32 × qx_H) := if hp_is H a0 8 = true then ((fm_X10_daysError a0 a1 H).bind fun v2 => if v2 = 0 then ((hp_gR H a0 8 0).bind fun v17 => (hp_gR H v17 4 0).bind fun v20 => if hp_is H v20 3 = true then ((fm_X5_passDays v20 a1 H).bind fun H24 => (hp_gR H24 a0 8 0).bind fun v28 => (hp_gR H24 v28 4 0).bind fun v31 => if hp_is H24 v31 3 = true then ((fm_X5_missingThreads v31 H24).bind fun v34 => some (v34, H24)) else none) else none) else (ob2 (fm_X10_refuse a0 v2 H) fun v12 H12 => some (v12, H12))) else none
theorem tb_X10_days_0 {st : xT} {d : Nat} {R : Option Value → qx_H → Prop} (hd : 5 ≤ d) {r : Int32} {H' : qx_H} (hR : R (some (.int r)) H') (a0 : Nat) (a1 : Int32) (H : qx_H) (h : fm_X10_days a0 a1 H = some (r, H')) : qx_V (xE st d) R (xc96 st) (0, [some (.ref a0), some (.int a1), none], [], H) := by
  unfold fm_X10_days at h
  refine qv_run 2 (σ := (2, [some (.ref a0), some (.int a1), none], [.int a1, .ref a0], H)) rfl ?_
  obtain ⟨g2, h⟩ := qv_guard h
  obtain ⟨v2, e2, h⟩ := qv_bind h
  refine qv_callV [.int a1] rfl rfl rfl (Nat.le_of_ble_eq_true rfl) g2 (th_X10_daysError (by omega) e2) rfl ?_
  refine qv_br (c := v2 = 0) (a := (16, [some (.ref a0), some (.int a1), some (.int v2)], [], H)) (b := (10, [some (.ref a0), some (.int a1), some (.int v2)], [], H)) 3 rfl (fun c7 => ?_) (fun c7 => ?_)
  · replace h := qv_pos c7 h
    refine qv_run 1 (σ := (17, [some (.ref a0), some (.int a1), some (.int v2)], [.ref a0], H)) rfl ?_
    obtain ⟨v17, e17, h⟩ := qv_bind h
    refine qv_getR rfl e17 ?_
    obtain ⟨v20, e20, h⟩ := qv_bind h
    refine qv_getR rfl e20 ?_
    refine qv_run 1 (σ := (24, [some (.ref a0), some (.int a1), some (.int v2)], [.int a1, .ref v20], H)) rfl ?_
    obtain ⟨g24, h⟩ := qv_guard h
    obtain ⟨H24, e24, h⟩ := qv_bind h
    refine qv_callV [.int a1] rfl rfl rfl (Nat.le_of_ble_eq_true rfl) g24 (th_X5_passDays (by omega) e24) (tl_X5_passDays e24) ?_
    refine qv_run 1 (σ := (28, [some (.ref a0), some (.int a1), some (.int v2)], [.ref a0], H24)) rfl ?_
    obtain ⟨v28, e28, h⟩ := qv_bind h
    refine qv_getR rfl e28 ?_
    obtain ⟨v31, e31, h⟩ := qv_bind h
    refine qv_getR rfl e31 ?_
    obtain ⟨g34, h⟩ := qv_guard h
    obtain ⟨v34, e34, h⟩ := qv_bind h
    refine qv_callV [] rfl rfl rfl (Nat.le_of_ble_eq_true rfl) g34 (th_X5_missingThreads (by omega) e34) rfl ?_
    obtain ⟨rfl, rfl⟩ := qv_pair h
    exact qv_reti rfl hR
  · replace h := qv_neg c7 h
    refine qv_run 2 (σ := (12, [some (.ref a0), some (.int a1), some (.int v2)], [.int v2, .ref a0], H)) rfl ?_
    obtain ⟨v12, H12, e12, h⟩ := qv_bind2 h
    refine qv_callV [.int v2] rfl rfl rfl (Nat.le_of_ble_eq_true rfl) g2 (th_X10_refuse (by omega) e12) (tl_X10_refuse e12) ?_
    obtain ⟨rfl, rfl⟩ := qv_pair h
    exact qv_reti rfl hR
theorem tlb_X10_days_0 {r : Int32} {H' : qx_H} (a0 : Nat) (a1 : Int32) (H : qx_H) (h : fm_X10_days a0 a1 H = some (r, H')) : H'.length = H.length := by
  unfold fm_X10_days at h
  obtain ⟨g2, h⟩ := qv_guard h
  obtain ⟨v2, e2, h⟩ := qv_bind h
  by_cases c7 : v2 = 0
  · replace h := qv_pos c7 h
    obtain ⟨v17, e17, h⟩ := qv_bind h
    obtain ⟨v20, e20, h⟩ := qv_bind h
    obtain ⟨g24, h⟩ := qv_guard h
    obtain ⟨H24, e24, h⟩ := qv_bind h
    have q_H24 := tl_X5_passDays e24
    obtain ⟨v28, e28, h⟩ := qv_bind h
    obtain ⟨v31, e31, h⟩ := qv_bind h
    obtain ⟨g34, h⟩ := qv_guard h
    obtain ⟨v34, e34, h⟩ := qv_bind h
    obtain ⟨rfl, rfl⟩ := qv_pair h
    omega
  · replace h := qv_neg c7 h
    obtain ⟨v12, H12, e12, h⟩ := qv_bind2 h
    have q_H12 := tl_X10_refuse e12
    obtain ⟨rfl, rfl⟩ := qv_pair h
    omega
theorem th_X10_days {st : xT} {d : Nat} (hd : 6 ≤ d) {a0 : Nat} {a1 : Int32} {H : qx_H} {r : Int32} {H' : qx_H} (h : fm_X10_days a0 a1 H = some (r, H')) : xE st d 96 [.ref a0, .int a1] H (some (.int r)) H' := by
  obtain ⟨d, rfl⟩ : ∃ d', d = d' + 1 := ⟨d - 1, by omega⟩
  exact xE_of (xe96 st) xl96 (Nat.le_of_ble_eq_true rfl) (ls := [some (.ref a0), some (.int a1), none]) rfl (tb_X10_days_0 (by omega) ⟨rfl, rfl⟩ a0 a1 H h)
theorem tl_X10_days {a0 : Nat} {a1 : Int32} {H : qx_H} {r : Int32} {H' : qx_H} (h : fm_X10_days a0 a1 H = some (r, H')) : H'.length = H.length := tlb_X10_days_0 a0 a1 H h
def fm_X10_draws_b18 : Nat → Nat → Int32 → Int32 → qx_H → Option (Int32 × qx_H)
  | 0, _, _, _, _ => none
  | n + 1, l0, l1, l3, H => if l1 ≤ l3 then ((hp_gR H l0 8 0).bind fun v60 => (hp_gR H v60 4 0).bind fun v63 => if hp_is H v63 3 = true then ((fm_X5_missingThreads v63 H).bind fun v66 => some (v66, H)) else none) else ((hp_gR H l0 8 0).bind fun v24 => (hp_gR H v24 4 0).bind fun v27 => (hp_gR H l0 8 0).bind fun v31 => if hp_is H v31 4 = true then (ob2 (fm_X6_nextDraw v31 H) fun v34 H34 => if hp_is H34 v27 3 = true then ((fm_X5_lose v27 (ji_rem v34 31) H34).bind fun H40 => (hp_gR H40 l0 8 0).bind fun v44 => (hp_gR H40 v44 4 0).bind fun v47 => if hp_is H40 v47 3 = true then ((fm_X5_passDay v47 H40).bind fun H50 => fm_X10_draws_b18 n l0 l1 (l3 + 1) H50) else none) else none) else none)
def fm_X10_draws (a0 : Nat) (a1 : Int32) (H : qx_H) : Option (Int32 × qx_H) := if hp_is H a0 8 = true then ((fm_X10_daysError a0 a1 H).bind fun v2 => if v2 = 0 then (fm_X10_draws_b18 5000 a0 a1 0 H) else (ob2 (fm_X10_refuse a0 v2 H) fun v12 H12 => some (v12, H12))) else none
theorem tb_X10_draws_18 {st : xT} {d : Nat} {R : Option Value → qx_H → Prop} (hd : 4 ≤ d) {r : Int32} {H' : qx_H} (hR : R (some (.int r)) H') : ∀ (n : Nat) (l0 : Nat) (l1 : Int32) (l3 : Int32) (z2 : Option Value) (hz2 : qx_ns z2 = true) (H : qx_H) (h : fm_X10_draws_b18 n l0 l1 l3 H = some (r, H')), qx_V (xE st d) R (xc97 st) (18, [some (.ref l0), some (.int l1), z2, some (.int l3)], [], H) := by
  intro n
  induction n with
  | zero => intro l0 l1 l3 z2 hz2 H h; exact nomatch (show (none : Option (Int32 × qx_H)) = some (r, H') from h)
  | succ n ih =>
    intro l0 l1 l3 z2 hz2 H h
    unfold fm_X10_draws_b18 at h
    refine qv_br (c := l1 ≤ l3) (a := (59, [some (.ref l0), some (.int l1), z2, some (.int l3)], [], H)) (b := (23, [some (.ref l0), some (.int l1), z2, some (.int l3)], [], H)) 3 rfl (fun c20 => ?_) (fun c20 => ?_)
    · replace h := qv_pos c20 h
      refine qv_run 1 (σ := (60, [some (.ref l0), some (.int l1), z2, some (.int l3)], [.ref l0], H)) rfl ?_
      obtain ⟨v60, e60, h⟩ := qv_bind h
      refine qv_getR rfl e60 ?_
      obtain ⟨v63, e63, h⟩ := qv_bind h
      refine qv_getR rfl e63 ?_
      obtain ⟨g66, h⟩ := qv_guard h
      obtain ⟨v66, e66, h⟩ := qv_bind h
      refine qv_callV [] rfl rfl rfl (Nat.le_of_ble_eq_true rfl) g66 (th_X5_missingThreads (by omega) e66) rfl ?_
      obtain ⟨rfl, rfl⟩ := qv_pair h
      exact qv_reti rfl hR
    · replace h := qv_neg c20 h
      refine qv_run 1 (σ := (24, [some (.ref l0), some (.int l1), z2, some (.int l3)], [.ref l0], H)) rfl ?_
      obtain ⟨v24, e24, h⟩ := qv_bind h
      refine qv_getR rfl e24 ?_
      obtain ⟨v27, e27, h⟩ := qv_bind h
      refine qv_getR rfl e27 ?_
      refine qv_run 1 (σ := (31, [some (.ref l0), some (.int l1), z2, some (.int l3)], [.ref l0, .ref v27], H)) rfl ?_
      obtain ⟨v31, e31, h⟩ := qv_bind h
      refine qv_getR rfl e31 ?_
      obtain ⟨g34, h⟩ := qv_guard h
      obtain ⟨v34, H34, e34, h⟩ := qv_bind2 h
      refine qv_callV [] rfl rfl rfl (Nat.le_of_ble_eq_true rfl) g34 (th_X6_nextDraw (by omega) e34) (tl_X6_nextDraw e34) ?_
      refine qv_run 1 (σ := (39, [some (.ref l0), some (.int l1), z2, some (.int l3)], [.int 31, .int v34, .ref v27], H34)) rfl ?_
      refine qv_div rfl (by decide) ?_
      obtain ⟨g40, h⟩ := qv_guard h
      obtain ⟨H40, e40, h⟩ := qv_bind h
      refine qv_callV [.int (ji_rem v34 31)] rfl rfl rfl (Nat.le_of_ble_eq_true rfl) g40 (th_X5_lose (by omega) e40) (tl_X5_lose e40) ?_
      refine qv_run 1 (σ := (44, [some (.ref l0), some (.int l1), z2, some (.int l3)], [.ref l0], H40)) rfl ?_
      obtain ⟨v44, e44, h⟩ := qv_bind h
      refine qv_getR rfl e44 ?_
      obtain ⟨v47, e47, h⟩ := qv_bind h
      refine qv_getR rfl e47 ?_
      obtain ⟨g50, h⟩ := qv_guard h
      obtain ⟨H50, e50, h⟩ := qv_bind h
      refine qv_callV [] rfl rfl rfl (Nat.le_of_ble_eq_true rfl) g50 (th_X5_passDay (by omega) e50) (tl_X5_passDay e50) ?_
      refine qv_incN (ls' := [some (.ref l0), some (.int l1), z2, some (.int (l3 + 1))]) rfl rfl (qx_kl_ns rfl hz2) rfl ?_
      refine qv_run 1 (σ := (18, [some (.ref l0), some (.int l1), z2, some (.int (l3 + 1))], [], H50)) rfl ?_
      exact ih l0 l1 (l3 + 1) z2 hz2 H50 h
theorem tlb_X10_draws_18 {r : Int32} {H' : qx_H} : ∀ (n : Nat) (l0 : Nat) (l1 : Int32) (l3 : Int32) (H : qx_H) (h : fm_X10_draws_b18 n l0 l1 l3 H = some (r, H')), H'.length = H.length := by
  intro n
  induction n with
  | zero => intro l0 l1 l3 H h; exact nomatch (show (none : Option (Int32 × qx_H)) = some (r, H') from h)
  | succ n ih =>
    intro l0 l1 l3 H h
    unfold fm_X10_draws_b18 at h
    by_cases c20 : l1 ≤ l3
    · replace h := qv_pos c20 h
      obtain ⟨v60, e60, h⟩ := qv_bind h
      obtain ⟨v63, e63, h⟩ := qv_bind h
      obtain ⟨g66, h⟩ := qv_guard h
      obtain ⟨v66, e66, h⟩ := qv_bind h
      obtain ⟨rfl, rfl⟩ := qv_pair h
      rfl
    · replace h := qv_neg c20 h
      obtain ⟨v24, e24, h⟩ := qv_bind h
      obtain ⟨v27, e27, h⟩ := qv_bind h
      obtain ⟨v31, e31, h⟩ := qv_bind h
      obtain ⟨g34, h⟩ := qv_guard h
      obtain ⟨v34, H34, e34, h⟩ := qv_bind2 h
      have q_H34 := tl_X6_nextDraw e34
      obtain ⟨g40, h⟩ := qv_guard h
      obtain ⟨H40, e40, h⟩ := qv_bind h
      have q_H40 := tl_X5_lose e40
      obtain ⟨v44, e44, h⟩ := qv_bind h
      obtain ⟨v47, e47, h⟩ := qv_bind h
      obtain ⟨g50, h⟩ := qv_guard h
      obtain ⟨H50, e50, h⟩ := qv_bind h
      have q_H50 := tl_X5_passDay e50
      have q_end := ih l0 l1 (l3 + 1) H50 h
      omega
theorem tb_X10_draws_0 {st : xT} {d : Nat} {R : Option Value → qx_H → Prop} (hd : 4 ≤ d) {r : Int32} {H' : qx_H} (hR : R (some (.int r)) H') (a0 : Nat) (a1 : Int32) (H : qx_H) (h : fm_X10_draws a0 a1 H = some (r, H')) : qx_V (xE st d) R (xc97 st) (0, [some (.ref a0), some (.int a1), none, none], [], H) := by
  unfold fm_X10_draws at h
  refine qv_run 2 (σ := (2, [some (.ref a0), some (.int a1), none, none], [.int a1, .ref a0], H)) rfl ?_
  obtain ⟨g2, h⟩ := qv_guard h
  obtain ⟨v2, e2, h⟩ := qv_bind h
  refine qv_callV [.int a1] rfl rfl rfl (Nat.le_of_ble_eq_true rfl) g2 (th_X10_daysError (by omega) e2) rfl ?_
  refine qv_br (c := v2 = 0) (a := (16, [some (.ref a0), some (.int a1), some (.int v2), none], [], H)) (b := (10, [some (.ref a0), some (.int a1), some (.int v2), none], [], H)) 3 rfl (fun c7 => ?_) (fun c7 => ?_)
  · replace h := qv_pos c7 h
    refine qv_run 2 (σ := (18, [some (.ref a0), some (.int a1), some (.int v2), some (.int 0)], [], H)) rfl ?_
    exact tb_X10_draws_18 hd hR 5000 a0 a1 0 (some (.int v2)) rfl H h
  · replace h := qv_neg c7 h
    refine qv_run 2 (σ := (12, [some (.ref a0), some (.int a1), some (.int v2), none], [.int v2, .ref a0], H)) rfl ?_
    obtain ⟨v12, H12, e12, h⟩ := qv_bind2 h
    refine qv_callV [.int v2] rfl rfl rfl (Nat.le_of_ble_eq_true rfl) g2 (th_X10_refuse (by omega) e12) (tl_X10_refuse e12) ?_
    obtain ⟨rfl, rfl⟩ := qv_pair h
    exact qv_reti rfl hR
theorem tlb_X10_draws_0 {r : Int32} {H' : qx_H} (a0 : Nat) (a1 : Int32) (H : qx_H) (h : fm_X10_draws a0 a1 H = some (r, H')) : H'.length = H.length := by
  unfold fm_X10_draws at h
  obtain ⟨g2, h⟩ := qv_guard h
  obtain ⟨v2, e2, h⟩ := qv_bind h
  by_cases c7 : v2 = 0
  · replace h := qv_pos c7 h
    exact tlb_X10_draws_18 5000 a0 a1 0 H h
  · replace h := qv_neg c7 h
    obtain ⟨v12, H12, e12, h⟩ := qv_bind2 h
    have q_H12 := tl_X10_refuse e12
    obtain ⟨rfl, rfl⟩ := qv_pair h
    omega
theorem th_X10_draws {st : xT} {d : Nat} (hd : 5 ≤ d) {a0 : Nat} {a1 : Int32} {H : qx_H} {r : Int32} {H' : qx_H} (h : fm_X10_draws a0 a1 H = some (r, H')) : xE st d 97 [.ref a0, .int a1] H (some (.int r)) H' := by
  obtain ⟨d, rfl⟩ : ∃ d', d = d' + 1 := ⟨d - 1, by omega⟩
  exact xE_of (xe97 st) xl97 (Nat.le_of_ble_eq_true rfl) (ls := [some (.ref a0), some (.int a1), none, none]) rfl (tb_X10_draws_0 (by omega) ⟨rfl, rfl⟩ a0 a1 H h)
theorem tl_X10_draws {a0 : Nat} {a1 : Int32} {H : qx_H} {r : Int32} {H' : qx_H} (h : fm_X10_draws a0 a1 H = some (r, H')) : H'.length = H.length := tlb_X10_draws_0 a0 a1 H h
def fm_X10_seed (a0 : Nat) (a1 : Int32) (H : qx_H) : Option (Int32 × qx_H) := (hp_gR H a0 8 0).bind fun v1 => (hp_gI H v1 4 7).bind fun v4 => (hp_gR H a0 8 0).bind fun v9 => (hp_put H v9 4 7 (.int a1)).bind fun H13 => some (v4, H13)
theorem tb_X10_seed_0 {st : xT} {d : Nat} {R : Option Value → qx_H → Prop} (hd : 0 ≤ d) {r : Int32} {H' : qx_H} (hR : R (some (.int r)) H') (a0 : Nat) (a1 : Int32) (H : qx_H) (h : fm_X10_seed a0 a1 H = some (r, H')) : qx_V (xE st d) R (xc98 st) (0, [some (.ref a0), some (.int a1), none], [], H) := by
  unfold fm_X10_seed at h
  refine qv_run 1 (σ := (1, [some (.ref a0), some (.int a1), none], [.ref a0], H)) rfl ?_
  obtain ⟨v1, e1, h⟩ := qv_bind h
  refine qv_getR rfl e1 ?_
  obtain ⟨v4, e4, h⟩ := qv_bind h
  refine qv_getI rfl e4 ?_
  refine qv_run 2 (σ := (9, [some (.ref a0), some (.int a1), some (.int v4)], [.ref a0], H)) rfl ?_
  obtain ⟨v9, e9, h⟩ := qv_bind h
  refine qv_getR rfl e9 ?_
  refine qv_run 1 (σ := (13, [some (.ref a0), some (.int a1), some (.int v4)], [.int a1, .ref v9], H)) rfl ?_
  obtain ⟨H13, e13, h⟩ := qv_bind h
  refine qv_putI rfl e13 ?_
  refine qv_run 1 (σ := (17, [some (.ref a0), some (.int a1), some (.int v4)], [.int v4], H13)) rfl ?_
  obtain ⟨rfl, rfl⟩ := qv_pair h
  exact qv_reti rfl hR
theorem tlb_X10_seed_0 {r : Int32} {H' : qx_H} (a0 : Nat) (a1 : Int32) (H : qx_H) (h : fm_X10_seed a0 a1 H = some (r, H')) : H'.length = H.length := by
  unfold fm_X10_seed at h
  obtain ⟨v1, e1, h⟩ := qv_bind h
  obtain ⟨v4, e4, h⟩ := qv_bind h
  obtain ⟨v9, e9, h⟩ := qv_bind h
  obtain ⟨H13, e13, h⟩ := qv_bind h
  have q_H13 := hp_put_len e13
  obtain ⟨rfl, rfl⟩ := qv_pair h
  omega
theorem th_X10_seed {st : xT} {d : Nat} (hd : 1 ≤ d) {a0 : Nat} {a1 : Int32} {H : qx_H} {r : Int32} {H' : qx_H} (h : fm_X10_seed a0 a1 H = some (r, H')) : xE st d 98 [.ref a0, .int a1] H (some (.int r)) H' := by
  obtain ⟨d, rfl⟩ : ∃ d', d = d' + 1 := ⟨d - 1, by omega⟩
  exact xE_of (xe98 st) xl98 (Nat.le_of_ble_eq_true rfl) (ls := [some (.ref a0), some (.int a1), none]) rfl (tb_X10_seed_0 (by omega) ⟨rfl, rfl⟩ a0 a1 H h)
theorem tl_X10_seed {a0 : Nat} {a1 : Int32} {H : qx_H} {r : Int32} {H' : qx_H} (h : fm_X10_seed a0 a1 H = some (r, H')) : H'.length = H.length := tlb_X10_seed_0 a0 a1 H h
def fm_X10_then_b28 (l0 : Nat) (H : qx_H) : Option (Int32 × qx_H) := if hp_is H l0 8 = true then (ob2 (fm_X10_refuse l0 (-1000000001) H) fun v31 H31 => some (v31, H31)) else none
def fm_X10_then (a0 : Nat) (a1 : Int32) (a2 : Int32) (a3 : Int32) (H : qx_H) : Option (Int32 × qx_H) := if (fm_X10_isWithin a1 0 60) = 0 then (fm_X10_then_b28 a0 H) else (if (fm_X10_isBelow a2 31) = 0 then (fm_X10_then_b28 a0 H) else (if (fm_X10_isBelow a3 6) = 0 then (fm_X10_then_b28 a0 H) else ((hp_gR H a0 8 2).bind fun v36 => (hp_gR H a0 8 0).bind fun v40 => (hp_gR H v40 4 0).bind fun v43 => if hp_is H v36 3 = true then ((fm_X5_become v36 v43 H).bind fun H46 => (hp_gR H46 a0 8 2).bind fun v50 => if hp_is H46 v50 3 = true then ((fm_X5_passDays v50 a1 H46).bind fun H54 => (hp_gR H54 a0 8 2).bind fun v58 => if hp_is H54 v58 3 = true then (ob2 (fm_X5_threadFact v58 a2 a3 H54) fun v63 H63 => some (v63, H63)) else none) else none) else none)))
theorem tb_X10_then_28 {st : xT} {d : Nat} {R : Option Value → qx_H → Prop} (hd : 5 ≤ d) {r : Int32} {H' : qx_H} (hR : R (some (.int r)) H') (l0 : Nat) (z1 : Option Value) (hz1 : qx_ns z1 = true) (z2 : Option Value) (hz2 : qx_ns z2 = true) (z3 : Option Value) (hz3 : qx_ns z3 = true) (H : qx_H) (h : fm_X10_then_b28 l0 H = some (r, H')) : qx_V (xE st d) R (xc99 st) (28, [some (.ref l0), z1, z2, z3], [], H) := by
  unfold fm_X10_then_b28 at h
  refine qv_run 2 (σ := (31, [some (.ref l0), z1, z2, z3], [.int (-1000000001), .ref l0], H)) rfl ?_
  obtain ⟨g31, h⟩ := qv_guard h
  obtain ⟨v31, H31, e31, h⟩ := qv_bind2 h
  refine qv_callV [.int (-1000000001)] rfl rfl rfl (Nat.le_of_ble_eq_true rfl) g31 (th_X10_refuse (by omega) e31) (tl_X10_refuse e31) ?_
  obtain ⟨rfl, rfl⟩ := qv_pair h
  exact qv_reti rfl hR
theorem tlb_X10_then_28 {r : Int32} {H' : qx_H} (l0 : Nat) (H : qx_H) (h : fm_X10_then_b28 l0 H = some (r, H')) : H'.length = H.length := by
  unfold fm_X10_then_b28 at h
  obtain ⟨g31, h⟩ := qv_guard h
  obtain ⟨v31, H31, e31, h⟩ := qv_bind2 h
  have q_H31 := tl_X10_refuse e31
  obtain ⟨rfl, rfl⟩ := qv_pair h
  omega
theorem tb_X10_then_0 {st : xT} {d : Nat} {R : Option Value → qx_H → Prop} (hd : 5 ≤ d) {r : Int32} {H' : qx_H} (hR : R (some (.int r)) H') (a0 : Nat) (a1 : Int32) (a2 : Int32) (a3 : Int32) (H : qx_H) (h : fm_X10_then a0 a1 a2 a3 H = some (r, H')) : qx_V (xE st d) R (xc99 st) (0, [some (.ref a0), some (.int a1), some (.int a2), some (.int a3)], [], H) := by
  unfold fm_X10_then at h
  refine qv_run 3 (σ := (4, [some (.ref a0), some (.int a1), some (.int a2), some (.int a3)], [.int 60, .int 0, .int a1], H)) rfl ?_
  refine qv_call [.int a1, .int 0, .int 60] rfl rfl rfl (Nat.le_of_ble_eq_true rfl) (th_X10_isWithin (by omega) rfl) rfl ?_
  refine qv_br (c := (fm_X10_isWithin a1 0 60) = 0) (a := (28, [some (.ref a0), some (.int a1), some (.int a2), some (.int a3)], [], H)) (b := (10, [some (.ref a0), some (.int a1), some (.int a2), some (.int a3)], [], H)) 1 rfl (fun c7 => ?_) (fun c7 => ?_)
  · replace h := qv_pos c7 h
    exact tb_X10_then_28 hd hR a0 (some (.int a1)) rfl (some (.int a2)) rfl (some (.int a3)) rfl H h
  · replace h := qv_neg c7 h
    refine qv_run 2 (σ := (13, [some (.ref a0), some (.int a1), some (.int a2), some (.int a3)], [.int 31, .int a2], H)) rfl ?_
    refine qv_call [.int a2, .int 31] rfl rfl rfl (Nat.le_of_ble_eq_true rfl) (th_X10_isBelow (by omega) rfl) rfl ?_
    refine qv_br (c := (fm_X10_isBelow a2 31) = 0) (a := (28, [some (.ref a0), some (.int a1), some (.int a2), some (.int a3)], [], H)) (b := (19, [some (.ref a0), some (.int a1), some (.int a2), some (.int a3)], [], H)) 1 rfl (fun c16 => ?_) (fun c16 => ?_)
    · replace h := qv_pos c16 h
      exact tb_X10_then_28 hd hR a0 (some (.int a1)) rfl (some (.int a2)) rfl (some (.int a3)) rfl H h
    · replace h := qv_neg c16 h
      refine qv_run 2 (σ := (22, [some (.ref a0), some (.int a1), some (.int a2), some (.int a3)], [.int 6, .int a3], H)) rfl ?_
      refine qv_call [.int a3, .int 6] rfl rfl rfl (Nat.le_of_ble_eq_true rfl) (th_X10_isBelow (by omega) rfl) rfl ?_
      refine qv_br (c := (fm_X10_isBelow a3 6) = 0) (a := (28, [some (.ref a0), some (.int a1), some (.int a2), some (.int a3)], [], H)) (b := (35, [some (.ref a0), some (.int a1), some (.int a2), some (.int a3)], [], H)) 1 rfl (fun c25 => ?_) (fun c25 => ?_)
      · replace h := qv_pos c25 h
        exact tb_X10_then_28 hd hR a0 (some (.int a1)) rfl (some (.int a2)) rfl (some (.int a3)) rfl H h
      · replace h := qv_neg c25 h
        refine qv_run 1 (σ := (36, [some (.ref a0), some (.int a1), some (.int a2), some (.int a3)], [.ref a0], H)) rfl ?_
        obtain ⟨v36, e36, h⟩ := qv_bind h
        refine qv_getR rfl e36 ?_
        refine qv_run 1 (σ := (40, [some (.ref a0), some (.int a1), some (.int a2), some (.int a3)], [.ref a0, .ref v36], H)) rfl ?_
        obtain ⟨v40, e40, h⟩ := qv_bind h
        refine qv_getR rfl e40 ?_
        obtain ⟨v43, e43, h⟩ := qv_bind h
        refine qv_getR rfl e43 ?_
        obtain ⟨g46, h⟩ := qv_guard h
        obtain ⟨H46, e46, h⟩ := qv_bind h
        refine qv_callV [.ref v43] rfl rfl rfl (Nat.le_of_ble_eq_true rfl) g46 (th_X5_become (by omega) e46) (tl_X5_become e46) ?_
        refine qv_run 1 (σ := (50, [some (.ref a0), some (.int a1), some (.int a2), some (.int a3)], [.ref a0], H46)) rfl ?_
        obtain ⟨v50, e50, h⟩ := qv_bind h
        refine qv_getR rfl e50 ?_
        refine qv_run 1 (σ := (54, [some (.ref a0), some (.int a1), some (.int a2), some (.int a3)], [.int a1, .ref v50], H46)) rfl ?_
        obtain ⟨g54, h⟩ := qv_guard h
        obtain ⟨H54, e54, h⟩ := qv_bind h
        refine qv_callV [.int a1] rfl rfl rfl (Nat.le_of_ble_eq_true rfl) g54 (th_X5_passDays (by omega) e54) (tl_X5_passDays e54) ?_
        refine qv_run 1 (σ := (58, [some (.ref a0), some (.int a1), some (.int a2), some (.int a3)], [.ref a0], H54)) rfl ?_
        obtain ⟨v58, e58, h⟩ := qv_bind h
        refine qv_getR rfl e58 ?_
        refine qv_run 2 (σ := (63, [some (.ref a0), some (.int a1), some (.int a2), some (.int a3)], [.int a3, .int a2, .ref v58], H54)) rfl ?_
        obtain ⟨g63, h⟩ := qv_guard h
        obtain ⟨v63, H63, e63, h⟩ := qv_bind2 h
        refine qv_callV [.int a2, .int a3] rfl rfl rfl (Nat.le_of_ble_eq_true rfl) g63 (th_X5_threadFact (by omega) e63) (tl_X5_threadFact e63) ?_
        obtain ⟨rfl, rfl⟩ := qv_pair h
        exact qv_reti rfl hR
theorem tlb_X10_then_0 {r : Int32} {H' : qx_H} (a0 : Nat) (a1 : Int32) (a2 : Int32) (a3 : Int32) (H : qx_H) (h : fm_X10_then a0 a1 a2 a3 H = some (r, H')) : H'.length = H.length := by
  unfold fm_X10_then at h
  by_cases c7 : (fm_X10_isWithin a1 0 60) = 0
  · replace h := qv_pos c7 h
    exact tlb_X10_then_28 a0 H h
  · replace h := qv_neg c7 h
    by_cases c16 : (fm_X10_isBelow a2 31) = 0
    · replace h := qv_pos c16 h
      exact tlb_X10_then_28 a0 H h
    · replace h := qv_neg c16 h
      by_cases c25 : (fm_X10_isBelow a3 6) = 0
      · replace h := qv_pos c25 h
        exact tlb_X10_then_28 a0 H h
      · replace h := qv_neg c25 h
        obtain ⟨v36, e36, h⟩ := qv_bind h
        obtain ⟨v40, e40, h⟩ := qv_bind h
        obtain ⟨v43, e43, h⟩ := qv_bind h
        obtain ⟨g46, h⟩ := qv_guard h
        obtain ⟨H46, e46, h⟩ := qv_bind h
        have q_H46 := tl_X5_become e46
        obtain ⟨v50, e50, h⟩ := qv_bind h
        obtain ⟨g54, h⟩ := qv_guard h
        obtain ⟨H54, e54, h⟩ := qv_bind h
        have q_H54 := tl_X5_passDays e54
        obtain ⟨v58, e58, h⟩ := qv_bind h
        obtain ⟨g63, h⟩ := qv_guard h
        obtain ⟨v63, H63, e63, h⟩ := qv_bind2 h
        have q_H63 := tl_X5_threadFact e63
        obtain ⟨rfl, rfl⟩ := qv_pair h
        omega
theorem th_X10_then {st : xT} {d : Nat} (hd : 6 ≤ d) {a0 : Nat} {a1 : Int32} {a2 : Int32} {a3 : Int32} {H : qx_H} {r : Int32} {H' : qx_H} (h : fm_X10_then a0 a1 a2 a3 H = some (r, H')) : xE st d 99 [.ref a0, .int a1, .int a2, .int a3] H (some (.int r)) H' := by
  obtain ⟨d, rfl⟩ : ∃ d', d = d' + 1 := ⟨d - 1, by omega⟩
  exact xE_of (xe99 st) xl99 (Nat.le_of_ble_eq_true rfl) (ls := [some (.ref a0), some (.int a1), some (.int a2), some (.int a3)]) rfl (tb_X10_then_0 (by omega) ⟨rfl, rfl⟩ a0 a1 a2 a3 H h)
theorem tl_X10_then {a0 : Nat} {a1 : Int32} {a2 : Int32} {a3 : Int32} {H : qx_H} {r : Int32} {H' : qx_H} (h : fm_X10_then a0 a1 a2 a3 H = some (r, H')) : H'.length = H.length := tlb_X10_then_0 a0 a1 a2 a3 H h
def fm_X10_goes_b18 (l0 : Nat) (H : qx_H) : Option (Int32 × qx_H) := if hp_is H l0 8 = true then (ob2 (fm_X10_refuse l0 (-1000000001) H) fun v21 H21 => some (v21, H21)) else none
def fm_X10_goes_b41 : Nat → Nat → Int32 → Int32 → Int32 → qx_H → Option (Int32 × qx_H)
  | 0, _, _, _, _, _ => none
  | n + 1, l0, l1, l2, l3, H => if l1 < l3 then (if hp_is H l0 8 = true then (ob2 (fm_X10_refuse l0 (-1000000002) H) fun v103 H103 => some (v103, H103)) else none) else ((hp_gR H l0 8 2).bind fun v47 => if hp_is H v47 3 = true then ((fm_X5_passDay v47 H).bind fun H50 => (hp_gR H50 l0 8 2).bind fun v54 => (hp_gI H50 v54 3 9).bind fun v57 => (hp_gR H50 l0 8 0).bind fun v61 => (hp_gR H50 v61 4 0).bind fun v64 => (hp_gI H50 v64 3 9).bind fun v67 => if (v57 &&& (v67 ^^^ (-1))) = 0 then (fm_X10_goes_b41 n l0 l1 l2 (l3 + 1) H50) else (if l2 = 0 then ((fm_X0_firstOf (v57 &&& (v67 ^^^ (-1))) H50).bind fun v86 => some (v86, H50)) else (some (l3, H50)))) else none)
def fm_X10_goes (a0 : Nat) (a1 : Int32) (a2 : Int32) (H : qx_H) : Option (Int32 × qx_H) := if (fm_X10_isWithin a1 1 60) = 0 then (fm_X10_goes_b18 a0 H) else (if (fm_X10_isBelow a2 2) = 0 then (fm_X10_goes_b18 a0 H) else ((hp_gR H a0 8 2).bind fun v26 => (hp_gR H a0 8 0).bind fun v30 => (hp_gR H v30 4 0).bind fun v33 => if hp_is H v26 3 = true then ((fm_X5_become v26 v33 H).bind fun H36 => fm_X10_goes_b41 5000 a0 a1 a2 1 H36) else none))
theorem tb_X10_goes_18 {st : xT} {d : Nat} {R : Option Value → qx_H → Prop} (hd : 4 ≤ d) {r : Int32} {H' : qx_H} (hR : R (some (.int r)) H') (l0 : Nat) (z1 : Option Value) (hz1 : qx_ns z1 = true) (z2 : Option Value) (hz2 : qx_ns z2 = true) (H : qx_H) (h : fm_X10_goes_b18 l0 H = some (r, H')) : qx_V (xE st d) R (xc100 st) (18, [some (.ref l0), z1, z2, none, none], [], H) := by
  unfold fm_X10_goes_b18 at h
  refine qv_run 2 (σ := (21, [some (.ref l0), z1, z2, none, none], [.int (-1000000001), .ref l0], H)) rfl ?_
  obtain ⟨g21, h⟩ := qv_guard h
  obtain ⟨v21, H21, e21, h⟩ := qv_bind2 h
  refine qv_callV [.int (-1000000001)] rfl rfl rfl (Nat.le_of_ble_eq_true rfl) g21 (th_X10_refuse (by omega) e21) (tl_X10_refuse e21) ?_
  obtain ⟨rfl, rfl⟩ := qv_pair h
  exact qv_reti rfl hR
theorem tlb_X10_goes_18 {r : Int32} {H' : qx_H} (l0 : Nat) (H : qx_H) (h : fm_X10_goes_b18 l0 H = some (r, H')) : H'.length = H.length := by
  unfold fm_X10_goes_b18 at h
  obtain ⟨g21, h⟩ := qv_guard h
  obtain ⟨v21, H21, e21, h⟩ := qv_bind2 h
  have q_H21 := tl_X10_refuse e21
  obtain ⟨rfl, rfl⟩ := qv_pair h
  omega
theorem tb_X10_goes_41 {st : xT} {d : Nat} {R : Option Value → qx_H → Prop} (hd : 4 ≤ d) {r : Int32} {H' : qx_H} (hR : R (some (.int r)) H') : ∀ (n : Nat) (l0 : Nat) (l1 : Int32) (l2 : Int32) (l3 : Int32) (z4 : Option Value) (hz4 : qx_ns z4 = true) (H : qx_H) (h : fm_X10_goes_b41 n l0 l1 l2 l3 H = some (r, H')), qx_V (xE st d) R (xc100 st) (41, [some (.ref l0), some (.int l1), some (.int l2), some (.int l3), z4], [], H) := by
  intro n
  induction n with
  | zero => intro l0 l1 l2 l3 z4 hz4 H h; exact nomatch (show (none : Option (Int32 × qx_H)) = some (r, H') from h)
  | succ n ih =>
    intro l0 l1 l2 l3 z4 hz4 H h
    unfold fm_X10_goes_b41 at h
    refine qv_br (c := l1 < l3) (a := (100, [some (.ref l0), some (.int l1), some (.int l2), some (.int l3), z4], [], H)) (b := (46, [some (.ref l0), some (.int l1), some (.int l2), some (.int l3), z4], [], H)) 3 rfl (fun c43 => ?_) (fun c43 => ?_)
    · replace h := qv_pos c43 h
      refine qv_run 2 (σ := (103, [some (.ref l0), some (.int l1), some (.int l2), some (.int l3), z4], [.int (-1000000002), .ref l0], H)) rfl ?_
      obtain ⟨g103, h⟩ := qv_guard h
      obtain ⟨v103, H103, e103, h⟩ := qv_bind2 h
      refine qv_callV [.int (-1000000002)] rfl rfl rfl (Nat.le_of_ble_eq_true rfl) g103 (th_X10_refuse (by omega) e103) (tl_X10_refuse e103) ?_
      obtain ⟨rfl, rfl⟩ := qv_pair h
      exact qv_reti rfl hR
    · replace h := qv_neg c43 h
      refine qv_run 1 (σ := (47, [some (.ref l0), some (.int l1), some (.int l2), some (.int l3), z4], [.ref l0], H)) rfl ?_
      obtain ⟨v47, e47, h⟩ := qv_bind h
      refine qv_getR rfl e47 ?_
      obtain ⟨g50, h⟩ := qv_guard h
      obtain ⟨H50, e50, h⟩ := qv_bind h
      refine qv_callV [] rfl rfl rfl (Nat.le_of_ble_eq_true rfl) g50 (th_X5_passDay (by omega) e50) (tl_X5_passDay e50) ?_
      refine qv_run 1 (σ := (54, [some (.ref l0), some (.int l1), some (.int l2), some (.int l3), z4], [.ref l0], H50)) rfl ?_
      obtain ⟨v54, e54, h⟩ := qv_bind h
      refine qv_getR rfl e54 ?_
      obtain ⟨v57, e57, h⟩ := qv_bind h
      refine qv_getI rfl e57 ?_
      refine qv_run 1 (σ := (61, [some (.ref l0), some (.int l1), some (.int l2), some (.int l3), z4], [.ref l0, .int v57], H50)) rfl ?_
      obtain ⟨v61, e61, h⟩ := qv_bind h
      refine qv_getR rfl e61 ?_
      obtain ⟨v64, e64, h⟩ := qv_bind h
      refine qv_getR rfl e64 ?_
      obtain ⟨v67, e67, h⟩ := qv_bind h
      refine qv_getI rfl e67 ?_
      refine qv_br (c := (v57 &&& (v67 ^^^ (-1))) = 0) (a := (94, [some (.ref l0), some (.int l1), some (.int l2), some (.int l3), some (.int (v57 &&& (v67 ^^^ (-1))))], [], H50)) (b := (80, [some (.ref l0), some (.int l1), some (.int l2), some (.int l3), some (.int (v57 &&& (v67 ^^^ (-1))))], [], H50)) 6 rfl (fun c77 => ?_) (fun c77 => ?_)
      · replace h := qv_pos c77 h
        refine qv_run 2 (σ := (41, [some (.ref l0), some (.int l1), some (.int l2), some (.int (l3 + 1)), some (.int (v57 &&& (v67 ^^^ (-1))))], [], H50)) rfl ?_
        exact ih l0 l1 l2 (l3 + 1) (some (.int (v57 &&& (v67 ^^^ (-1))))) rfl H50 h
      · replace h := qv_neg c77 h
        refine qv_br (c := l2 = 0) (a := (84, [some (.ref l0), some (.int l1), some (.int l2), some (.int l3), some (.int (v57 &&& (v67 ^^^ (-1))))], [], H50)) (b := (92, [some (.ref l0), some (.int l1), some (.int l2), some (.int l3), some (.int (v57 &&& (v67 ^^^ (-1))))], [], H50)) 2 rfl (fun c81 => ?_) (fun c81 => ?_)
        · replace h := qv_pos c81 h
          refine qv_run 1 (σ := (86, [some (.ref l0), some (.int l1), some (.int l2), some (.int l3), some (.int (v57 &&& (v67 ^^^ (-1))))], [.int (v57 &&& (v67 ^^^ (-1)))], H50)) rfl ?_
          obtain ⟨v86, e86, h⟩ := qv_bind h
          refine qv_call [.int (v57 &&& (v67 ^^^ (-1)))] rfl rfl rfl (Nat.le_of_ble_eq_true rfl) (th_X0_firstOf (by omega) e86) rfl ?_
          refine qv_run 1 (σ := (93, [some (.ref l0), some (.int l1), some (.int l2), some (.int l3), some (.int (v57 &&& (v67 ^^^ (-1))))], [.int v86], H50)) rfl ?_
          obtain ⟨rfl, rfl⟩ := qv_pair h
          exact qv_reti rfl hR
        · replace h := qv_neg c81 h
          refine qv_run 1 (σ := (93, [some (.ref l0), some (.int l1), some (.int l2), some (.int l3), some (.int (v57 &&& (v67 ^^^ (-1))))], [.int l3], H50)) rfl ?_
          obtain ⟨rfl, rfl⟩ := qv_pair h
          exact qv_reti rfl hR
theorem tlb_X10_goes_41 {r : Int32} {H' : qx_H} : ∀ (n : Nat) (l0 : Nat) (l1 : Int32) (l2 : Int32) (l3 : Int32) (H : qx_H) (h : fm_X10_goes_b41 n l0 l1 l2 l3 H = some (r, H')), H'.length = H.length := by
  intro n
  induction n with
  | zero => intro l0 l1 l2 l3 H h; exact nomatch (show (none : Option (Int32 × qx_H)) = some (r, H') from h)
  | succ n ih =>
    intro l0 l1 l2 l3 H h
    unfold fm_X10_goes_b41 at h
    by_cases c43 : l1 < l3
    · replace h := qv_pos c43 h
      obtain ⟨g103, h⟩ := qv_guard h
      obtain ⟨v103, H103, e103, h⟩ := qv_bind2 h
      have q_H103 := tl_X10_refuse e103
      obtain ⟨rfl, rfl⟩ := qv_pair h
      omega
    · replace h := qv_neg c43 h
      obtain ⟨v47, e47, h⟩ := qv_bind h
      obtain ⟨g50, h⟩ := qv_guard h
      obtain ⟨H50, e50, h⟩ := qv_bind h
      have q_H50 := tl_X5_passDay e50
      obtain ⟨v54, e54, h⟩ := qv_bind h
      obtain ⟨v57, e57, h⟩ := qv_bind h
      obtain ⟨v61, e61, h⟩ := qv_bind h
      obtain ⟨v64, e64, h⟩ := qv_bind h
      obtain ⟨v67, e67, h⟩ := qv_bind h
      by_cases c77 : (v57 &&& (v67 ^^^ (-1))) = 0
      · replace h := qv_pos c77 h
        have q_end := ih l0 l1 l2 (l3 + 1) H50 h
        omega
      · replace h := qv_neg c77 h
        by_cases c81 : l2 = 0
        · replace h := qv_pos c81 h
          obtain ⟨v86, e86, h⟩ := qv_bind h
          obtain ⟨rfl, rfl⟩ := qv_pair h
          omega
        · replace h := qv_neg c81 h
          obtain ⟨rfl, rfl⟩ := qv_pair h
          omega
theorem tb_X10_goes_0 {st : xT} {d : Nat} {R : Option Value → qx_H → Prop} (hd : 4 ≤ d) {r : Int32} {H' : qx_H} (hR : R (some (.int r)) H') (a0 : Nat) (a1 : Int32) (a2 : Int32) (H : qx_H) (h : fm_X10_goes a0 a1 a2 H = some (r, H')) : qx_V (xE st d) R (xc100 st) (0, [some (.ref a0), some (.int a1), some (.int a2), none, none], [], H) := by
  unfold fm_X10_goes at h
  refine qv_run 3 (σ := (4, [some (.ref a0), some (.int a1), some (.int a2), none, none], [.int 60, .int 1, .int a1], H)) rfl ?_
  refine qv_call [.int a1, .int 1, .int 60] rfl rfl rfl (Nat.le_of_ble_eq_true rfl) (th_X10_isWithin (by omega) rfl) rfl ?_
  refine qv_br (c := (fm_X10_isWithin a1 1 60) = 0) (a := (18, [some (.ref a0), some (.int a1), some (.int a2), none, none], [], H)) (b := (10, [some (.ref a0), some (.int a1), some (.int a2), none, none], [], H)) 1 rfl (fun c7 => ?_) (fun c7 => ?_)
  · replace h := qv_pos c7 h
    exact tb_X10_goes_18 hd hR a0 (some (.int a1)) rfl (some (.int a2)) rfl H h
  · replace h := qv_neg c7 h
    refine qv_run 2 (σ := (12, [some (.ref a0), some (.int a1), some (.int a2), none, none], [.int 2, .int a2], H)) rfl ?_
    refine qv_call [.int a2, .int 2] rfl rfl rfl (Nat.le_of_ble_eq_true rfl) (th_X10_isBelow (by omega) rfl) rfl ?_
    refine qv_br (c := (fm_X10_isBelow a2 2) = 0) (a := (18, [some (.ref a0), some (.int a1), some (.int a2), none, none], [], H)) (b := (25, [some (.ref a0), some (.int a1), some (.int a2), none, none], [], H)) 1 rfl (fun c15 => ?_) (fun c15 => ?_)
    · replace h := qv_pos c15 h
      exact tb_X10_goes_18 hd hR a0 (some (.int a1)) rfl (some (.int a2)) rfl H h
    · replace h := qv_neg c15 h
      refine qv_run 1 (σ := (26, [some (.ref a0), some (.int a1), some (.int a2), none, none], [.ref a0], H)) rfl ?_
      obtain ⟨v26, e26, h⟩ := qv_bind h
      refine qv_getR rfl e26 ?_
      refine qv_run 1 (σ := (30, [some (.ref a0), some (.int a1), some (.int a2), none, none], [.ref a0, .ref v26], H)) rfl ?_
      obtain ⟨v30, e30, h⟩ := qv_bind h
      refine qv_getR rfl e30 ?_
      obtain ⟨v33, e33, h⟩ := qv_bind h
      refine qv_getR rfl e33 ?_
      obtain ⟨g36, h⟩ := qv_guard h
      obtain ⟨H36, e36, h⟩ := qv_bind h
      refine qv_callV [.ref v33] rfl rfl rfl (Nat.le_of_ble_eq_true rfl) g36 (th_X5_become (by omega) e36) (tl_X5_become e36) ?_
      refine qv_run 2 (σ := (41, [some (.ref a0), some (.int a1), some (.int a2), some (.int 1), none], [], H36)) rfl ?_
      exact tb_X10_goes_41 hd hR 5000 a0 a1 a2 1 none rfl H36 h
theorem tlb_X10_goes_0 {r : Int32} {H' : qx_H} (a0 : Nat) (a1 : Int32) (a2 : Int32) (H : qx_H) (h : fm_X10_goes a0 a1 a2 H = some (r, H')) : H'.length = H.length := by
  unfold fm_X10_goes at h
  by_cases c7 : (fm_X10_isWithin a1 1 60) = 0
  · replace h := qv_pos c7 h
    exact tlb_X10_goes_18 a0 H h
  · replace h := qv_neg c7 h
    by_cases c15 : (fm_X10_isBelow a2 2) = 0
    · replace h := qv_pos c15 h
      exact tlb_X10_goes_18 a0 H h
    · replace h := qv_neg c15 h
      obtain ⟨v26, e26, h⟩ := qv_bind h
      obtain ⟨v30, e30, h⟩ := qv_bind h
      obtain ⟨v33, e33, h⟩ := qv_bind h
      obtain ⟨g36, h⟩ := qv_guard h
      obtain ⟨H36, e36, h⟩ := qv_bind h
      have q_H36 := tl_X5_become e36
      have q_end := tlb_X10_goes_41 5000 a0 a1 a2 1 H36 h
      omega
theorem th_X10_goes {st : xT} {d : Nat} (hd : 5 ≤ d) {a0 : Nat} {a1 : Int32} {a2 : Int32} {H : qx_H} {r : Int32} {H' : qx_H} (h : fm_X10_goes a0 a1 a2 H = some (r, H')) : xE st d 100 [.ref a0, .int a1, .int a2] H (some (.int r)) H' := by
  obtain ⟨d, rfl⟩ : ∃ d', d = d' + 1 := ⟨d - 1, by omega⟩
  exact xE_of (xe100 st) xl100 (Nat.le_of_ble_eq_true rfl) (ls := [some (.ref a0), some (.int a1), some (.int a2), none, none]) rfl (tb_X10_goes_0 (by omega) ⟨rfl, rfl⟩ a0 a1 a2 H h)
theorem tl_X10_goes {a0 : Nat} {a1 : Int32} {a2 : Int32} {H : qx_H} {r : Int32} {H' : qx_H} (h : fm_X10_goes a0 a1 a2 H = some (r, H')) : H'.length = H.length := tlb_X10_goes_0 a0 a1 a2 H h
def fm_X10_mendAhead_b18 (l0 : Nat) (H : qx_H) : Option (Int32 × qx_H) := if hp_is H l0 8 = true then (ob2 (fm_X10_refuse l0 (-1000000001) H) fun v21 H21 => some (v21, H21)) else none
def fm_X10_mendAhead_b175 (k107 : Nat → Int32 → Int32 → Int32 → Int32 → qx_H → Option (Int32 × qx_H)) (l0 : Nat) (l2 : Int32) (l3 : Int32) (l4 : Int32) (l5 : Int32) (H : qx_H) : Option (Int32 × qx_H) := k107 l0 l2 l3 l4 (l5 + 1) H
def fm_X10_mendAhead_b107 : Nat → Nat → Int32 → Int32 → Int32 → Int32 → qx_H → Option (Int32 × qx_H)
  | 0, _, _, _, _, _, _ => none
  | n + 1, l0, l2, l3, l4, l5, H => if 31 ≤ l5 then (if l2 = 0 then (some (l3, H)) else (some (l4, H))) else ((hp_gR H l0 8 2).bind fun v115 => (hp_gI H v115 3 9).bind fun v118 => (hp_gR H l0 8 3).bind fun v129 => (hp_gI H v129 3 9).bind fun v132 => (hp_gR H l0 8 0).bind fun v147 => (hp_gR H v147 4 0).bind fun v150 => if hp_is H v150 3 = true then ((fm_X5_isMissing v150 l5 H).bind fun v155 => if v155 = 0 then (fm_X10_mendAhead_b175 (fm_X10_mendAhead_b107 n) l0 l2 (if l4 ≤ (fm_J6_bitCount_0f7a4 ((v118 &&& ((ji_shl 1 l5) ^^^ (-1))) ||| (v132 &&& (ji_shl 1 l5)))) then l3 else l5) (if l4 ≤ (fm_J6_bitCount_0f7a4 ((v118 &&& ((ji_shl 1 l5) ^^^ (-1))) ||| (v132 &&& (ji_shl 1 l5)))) then l4 else (fm_J6_bitCount_0f7a4 ((v118 &&& ((ji_shl 1 l5) ^^^ (-1))) ||| (v132 &&& (ji_shl 1 l5))))) l5 H) else (fm_X10_mendAhead_b175 (fm_X10_mendAhead_b107 n) l0 l2 l3 l4 l5 H)) else none)
def fm_X10_mendAhead (a0 : Nat) (a1 : Int32) (a2 : Int32) (H : qx_H) : Option (Int32 × qx_H) := if (fm_X10_isWithin a1 1 60) = 0 then (fm_X10_mendAhead_b18 a0 H) else (if (fm_X10_isBelow a2 2) = 0 then (fm_X10_mendAhead_b18 a0 H) else ((hp_gR H a0 8 0).bind fun v26 => (hp_gR H v26 4 0).bind fun v29 => if hp_is H v29 3 = true then ((fm_X5_missingThreads v29 H).bind fun v32 => if v32 = 31 then (if hp_is H a0 8 = true then (ob2 (fm_X10_refuse a0 (-1000000002) H) fun v43 H43 => some (v43, H43)) else none) else ((hp_gR H a0 8 2).bind fun v48 => (hp_gR H a0 8 0).bind fun v52 => (hp_gR H v52 4 0).bind fun v55 => if hp_is H v48 3 = true then ((fm_X5_become v48 v55 H).bind fun H58 => (hp_gR H58 a0 8 2).bind fun v62 => if hp_is H58 v62 3 = true then ((fm_X5_passDays v62 a1 H58).bind fun H66 => (hp_gR H66 a0 8 3).bind fun v70 => (hp_gR H66 a0 8 0).bind fun v74 => (hp_gR H66 v74 4 0).bind fun v77 => if hp_is H66 v70 3 = true then ((fm_X5_become v70 v77 H66).bind fun H80 => (hp_gR H80 a0 8 3).bind fun v84 => if hp_is H80 v84 3 = true then ((fm_X5_renewAll v84 H80).bind fun H87 => (hp_gR H87 a0 8 3).bind fun v91 => if hp_is H87 v91 3 = true then ((fm_X5_passDays v91 a1 H87).bind fun H95 => fm_X10_mendAhead_b107 5000 a0 a2 (-1) 32 0 H95) else none) else none) else none) else none) else none)) else none))
theorem tb_X10_mendAhead_18 {st : xT} {d : Nat} {R : Option Value → qx_H → Prop} (hd : 5 ≤ d) {r : Int32} {H' : qx_H} (hR : R (some (.int r)) H') (l0 : Nat) (z1 : Option Value) (hz1 : qx_ns z1 = true) (z2 : Option Value) (hz2 : qx_ns z2 = true) (H : qx_H) (h : fm_X10_mendAhead_b18 l0 H = some (r, H')) : qx_V (xE st d) R (xc101 st) (18, [some (.ref l0), z1, z2, none, none, none, none], [], H) := by
  unfold fm_X10_mendAhead_b18 at h
  refine qv_run 2 (σ := (21, [some (.ref l0), z1, z2, none, none, none, none], [.int (-1000000001), .ref l0], H)) rfl ?_
  obtain ⟨g21, h⟩ := qv_guard h
  obtain ⟨v21, H21, e21, h⟩ := qv_bind2 h
  refine qv_callV [.int (-1000000001)] rfl rfl rfl (Nat.le_of_ble_eq_true rfl) g21 (th_X10_refuse (by omega) e21) (tl_X10_refuse e21) ?_
  obtain ⟨rfl, rfl⟩ := qv_pair h
  exact qv_reti rfl hR
theorem tlb_X10_mendAhead_18 {r : Int32} {H' : qx_H} (l0 : Nat) (H : qx_H) (h : fm_X10_mendAhead_b18 l0 H = some (r, H')) : H'.length = H.length := by
  unfold fm_X10_mendAhead_b18 at h
  obtain ⟨g21, h⟩ := qv_guard h
  obtain ⟨v21, H21, e21, h⟩ := qv_bind2 h
  have q_H21 := tl_X10_refuse e21
  obtain ⟨rfl, rfl⟩ := qv_pair h
  omega
theorem tb_X10_mendAhead_175 {st : xT} {d : Nat} {R : Option Value → qx_H → Prop} (hd : 5 ≤ d) {r : Int32} {H' : qx_H} (k107 : Nat → Int32 → Int32 → Int32 → Int32 → qx_H → Option (Int32 × qx_H)) (hk107 : ∀ (l0 : Nat) (l2 : Int32) (l3 : Int32) (l4 : Int32) (l5 : Int32) (z1 : Option Value) (hz1 : qx_ns z1 = true) (z6 : Option Value) (hz6 : qx_ns z6 = true) (H : qx_H), k107 l0 l2 l3 l4 l5 H = some (r, H') → qx_V (xE st d) R (xc101 st) (107, [some (.ref l0), z1, some (.int l2), some (.int l3), some (.int l4), some (.int l5), z6], [], H)) (hR : R (some (.int r)) H') (l0 : Nat) (l2 : Int32) (l3 : Int32) (l4 : Int32) (l5 : Int32) (z1 : Option Value) (hz1 : qx_ns z1 = true) (z6 : Option Value) (hz6 : qx_ns z6 = true) (H : qx_H) (h : fm_X10_mendAhead_b175 k107 l0 l2 l3 l4 l5 H = some (r, H')) : qx_V (xE st d) R (xc101 st) (175, [some (.ref l0), z1, some (.int l2), some (.int l3), some (.int l4), some (.int l5), z6], [], H) := by
  unfold fm_X10_mendAhead_b175 at h
  refine qv_run 2 (σ := (107, [some (.ref l0), z1, some (.int l2), some (.int l3), some (.int l4), some (.int (l5 + 1)), z6], [], H)) rfl ?_
  exact hk107 l0 l2 l3 l4 (l5 + 1) z1 hz1 z6 hz6 H h
theorem tlb_X10_mendAhead_175 {r : Int32} {H' : qx_H} (k107 : Nat → Int32 → Int32 → Int32 → Int32 → qx_H → Option (Int32 × qx_H)) (hk107 : ∀ (l0 : Nat) (l2 : Int32) (l3 : Int32) (l4 : Int32) (l5 : Int32) (H : qx_H), k107 l0 l2 l3 l4 l5 H = some (r, H') → H'.length = H.length) (l0 : Nat) (l2 : Int32) (l3 : Int32) (l4 : Int32) (l5 : Int32) (H : qx_H) (h : fm_X10_mendAhead_b175 k107 l0 l2 l3 l4 l5 H = some (r, H')) : H'.length = H.length := by
  unfold fm_X10_mendAhead_b175 at h
  exact hk107 l0 l2 l3 l4 (l5 + 1) H h
theorem tb_X10_mendAhead_107 {st : xT} {d : Nat} {R : Option Value → qx_H → Prop} (hd : 5 ≤ d) {r : Int32} {H' : qx_H} (hR : R (some (.int r)) H') : ∀ (n : Nat) (l0 : Nat) (l2 : Int32) (l3 : Int32) (l4 : Int32) (l5 : Int32) (z1 : Option Value) (hz1 : qx_ns z1 = true) (z6 : Option Value) (hz6 : qx_ns z6 = true) (H : qx_H) (h : fm_X10_mendAhead_b107 n l0 l2 l3 l4 l5 H = some (r, H')), qx_V (xE st d) R (xc101 st) (107, [some (.ref l0), z1, some (.int l2), some (.int l3), some (.int l4), some (.int l5), z6], [], H) := by
  intro n
  induction n with
  | zero => intro l0 l2 l3 l4 l5 z1 hz1 z6 hz6 H h; exact nomatch (show (none : Option (Int32 × qx_H)) = some (r, H') from h)
  | succ n ih =>
    intro l0 l2 l3 l4 l5 z1 hz1 z6 hz6 H h
    unfold fm_X10_mendAhead_b107 at h
    refine qv_br (c := 31 ≤ l5) (a := (181, [some (.ref l0), z1, some (.int l2), some (.int l3), some (.int l4), some (.int l5), z6], [], H)) (b := (114, [some (.ref l0), z1, some (.int l2), some (.int l3), some (.int l4), some (.int l5), z6], [], H)) 3 rfl (fun c111 => ?_) (fun c111 => ?_)
    · replace h := qv_pos c111 h
      refine qv_br (c := l2 = 0) (a := (185, [some (.ref l0), z1, some (.int l2), some (.int l3), some (.int l4), some (.int l5), z6], [], H)) (b := (189, [some (.ref l0), z1, some (.int l2), some (.int l3), some (.int l4), some (.int l5), z6], [], H)) 2 rfl (fun c182 => ?_) (fun c182 => ?_)
      · replace h := qv_pos c182 h
        refine qv_run 2 (σ := (191, [some (.ref l0), z1, some (.int l2), some (.int l3), some (.int l4), some (.int l5), z6], [.int l3], H)) rfl ?_
        obtain ⟨rfl, rfl⟩ := qv_pair h
        exact qv_reti rfl hR
      · replace h := qv_neg c182 h
        refine qv_run 1 (σ := (191, [some (.ref l0), z1, some (.int l2), some (.int l3), some (.int l4), some (.int l5), z6], [.int l4], H)) rfl ?_
        obtain ⟨rfl, rfl⟩ := qv_pair h
        exact qv_reti rfl hR
    · replace h := qv_neg c111 h
      refine qv_run 1 (σ := (115, [some (.ref l0), z1, some (.int l2), some (.int l3), some (.int l4), some (.int l5), z6], [.ref l0], H)) rfl ?_
      obtain ⟨v115, e115, h⟩ := qv_bind h
      refine qv_getR rfl e115 ?_
      obtain ⟨v118, e118, h⟩ := qv_bind h
      refine qv_getI rfl e118 ?_
      refine qv_run 7 (σ := (129, [some (.ref l0), z1, some (.int l2), some (.int l3), some (.int l4), some (.int l5), z6], [.ref l0, .int (v118 &&& ((ji_shl 1 l5) ^^^ (-1)))], H)) rfl ?_
      obtain ⟨v129, e129, h⟩ := qv_bind h
      refine qv_getR rfl e129 ?_
      obtain ⟨v132, e132, h⟩ := qv_bind h
      refine qv_getI rfl e132 ?_
      refine qv_run 5 (σ := (141, [some (.ref l0), z1, some (.int l2), some (.int l3), some (.int l4), some (.int l5), z6], [.int ((v118 &&& ((ji_shl 1 l5) ^^^ (-1))) ||| (v132 &&& (ji_shl 1 l5)))], H)) rfl ?_
      refine qv_call [.int ((v118 &&& ((ji_shl 1 l5) ^^^ (-1))) ||| (v132 &&& (ji_shl 1 l5)))] rfl rfl rfl (Nat.le_of_ble_eq_true rfl) (th_J6_bitCount_0f7a4 (by omega) rfl) rfl ?_
      refine qv_run 2 (σ := (147, [some (.ref l0), z1, some (.int l2), some (.int l3), some (.int l4), some (.int l5), some (.int (fm_J6_bitCount_0f7a4 ((v118 &&& ((ji_shl 1 l5) ^^^ (-1))) ||| (v132 &&& (ji_shl 1 l5)))))], [.ref l0], H)) rfl ?_
      obtain ⟨v147, e147, h⟩ := qv_bind h
      refine qv_getR rfl e147 ?_
      obtain ⟨v150, e150, h⟩ := qv_bind h
      refine qv_getR rfl e150 ?_
      refine qv_run 1 (σ := (155, [some (.ref l0), z1, some (.int l2), some (.int l3), some (.int l4), some (.int l5), some (.int (fm_J6_bitCount_0f7a4 ((v118 &&& ((ji_shl 1 l5) ^^^ (-1))) ||| (v132 &&& (ji_shl 1 l5)))))], [.int l5, .ref v150], H)) rfl ?_
      obtain ⟨g155, h⟩ := qv_guard h
      obtain ⟨v155, e155, h⟩ := qv_bind h
      refine qv_callV [.int l5] rfl rfl rfl (Nat.le_of_ble_eq_true rfl) g155 (th_X5_isMissing (by omega) e155) rfl ?_
      refine qv_br (c := v155 = 0) (a := (161, [some (.ref l0), z1, some (.int l2), some (.int l3), some (.int l4), some (.int l5), some (.int (fm_J6_bitCount_0f7a4 ((v118 &&& ((ji_shl 1 l5) ^^^ (-1))) ||| (v132 &&& (ji_shl 1 l5)))))], [], H)) (b := (175, [some (.ref l0), z1, some (.int l2), some (.int l3), some (.int l4), some (.int l5), some (.int (fm_J6_bitCount_0f7a4 ((v118 &&& ((ji_shl 1 l5) ^^^ (-1))) ||| (v132 &&& (ji_shl 1 l5)))))], [], H)) 1 rfl (fun c158 => ?_) (fun c158 => ?_)
      · replace h := qv_pos c158 h
        refine qv_dia (c := l4 ≤ (fm_J6_bitCount_0f7a4 ((v118 &&& ((ji_shl 1 l5) ^^^ (-1))) ||| (v132 &&& (ji_shl 1 l5))))) (a := (175, [some (.ref l0), z1, some (.int l2), some (.int l3), some (.int l4), some (.int l5), some (.int (fm_J6_bitCount_0f7a4 ((v118 &&& ((ji_shl 1 l5) ^^^ (-1))) ||| (v132 &&& (ji_shl 1 l5)))))], [], H)) (b := (168, [some (.ref l0), z1, some (.int l2), some (.int l3), some (.int l4), some (.int l5), some (.int (fm_J6_bitCount_0f7a4 ((v118 &&& ((ji_shl 1 l5) ^^^ (-1))) ||| (v132 &&& (ji_shl 1 l5)))))], [], H)) (σ' := (175, [some (.ref l0), z1, some (.int l2), some (.int (if l4 ≤ (fm_J6_bitCount_0f7a4 ((v118 &&& ((ji_shl 1 l5) ^^^ (-1))) ||| (v132 &&& (ji_shl 1 l5)))) then l3 else l5)), some (.int (if l4 ≤ (fm_J6_bitCount_0f7a4 ((v118 &&& ((ji_shl 1 l5) ^^^ (-1))) ||| (v132 &&& (ji_shl 1 l5)))) then l4 else (fm_J6_bitCount_0f7a4 ((v118 &&& ((ji_shl 1 l5) ^^^ (-1))) ||| (v132 &&& (ji_shl 1 l5)))))), some (.int l5), some (.int (fm_J6_bitCount_0f7a4 ((v118 &&& ((ji_shl 1 l5) ^^^ (-1))) ||| (v132 &&& (ji_shl 1 l5)))))], [], H)) 3 rfl ?_ (fun c165 kk => qv_run 0 (σ := (175, [some (.ref l0), z1, some (.int l2), some (.int l3), some (.int l4), some (.int l5), some (.int (fm_J6_bitCount_0f7a4 ((v118 &&& ((ji_shl 1 l5) ^^^ (-1))) ||| (v132 &&& (ji_shl 1 l5)))))], [], H)) rfl (qv_eq (by simp only [if_pos c165]) kk)) (fun c165 kk => qv_run 4 (σ := (175, [some (.ref l0), z1, some (.int l2), some (.int l5), some (.int (fm_J6_bitCount_0f7a4 ((v118 &&& ((ji_shl 1 l5) ^^^ (-1))) ||| (v132 &&& (ji_shl 1 l5))))), some (.int l5), some (.int (fm_J6_bitCount_0f7a4 ((v118 &&& ((ji_shl 1 l5) ^^^ (-1))) ||| (v132 &&& (ji_shl 1 l5)))))], [], H)) rfl (qv_eq (by simp only [if_neg c165]) kk))
        exact tb_X10_mendAhead_175 hd _ ih hR l0 l2 (if l4 ≤ (fm_J6_bitCount_0f7a4 ((v118 &&& ((ji_shl 1 l5) ^^^ (-1))) ||| (v132 &&& (ji_shl 1 l5)))) then l3 else l5) (if l4 ≤ (fm_J6_bitCount_0f7a4 ((v118 &&& ((ji_shl 1 l5) ^^^ (-1))) ||| (v132 &&& (ji_shl 1 l5)))) then l4 else (fm_J6_bitCount_0f7a4 ((v118 &&& ((ji_shl 1 l5) ^^^ (-1))) ||| (v132 &&& (ji_shl 1 l5))))) l5 z1 hz1 (some (.int (fm_J6_bitCount_0f7a4 ((v118 &&& ((ji_shl 1 l5) ^^^ (-1))) ||| (v132 &&& (ji_shl 1 l5)))))) rfl H h
      · replace h := qv_neg c158 h
        exact tb_X10_mendAhead_175 hd _ ih hR l0 l2 l3 l4 l5 z1 hz1 (some (.int (fm_J6_bitCount_0f7a4 ((v118 &&& ((ji_shl 1 l5) ^^^ (-1))) ||| (v132 &&& (ji_shl 1 l5)))))) rfl H h
theorem tlb_X10_mendAhead_107 {r : Int32} {H' : qx_H} : ∀ (n : Nat) (l0 : Nat) (l2 : Int32) (l3 : Int32) (l4 : Int32) (l5 : Int32) (H : qx_H) (h : fm_X10_mendAhead_b107 n l0 l2 l3 l4 l5 H = some (r, H')), H'.length = H.length := by
  intro n
  induction n with
  | zero => intro l0 l2 l3 l4 l5 H h; exact nomatch (show (none : Option (Int32 × qx_H)) = some (r, H') from h)
  | succ n ih =>
    intro l0 l2 l3 l4 l5 H h
    unfold fm_X10_mendAhead_b107 at h
    by_cases c111 : 31 ≤ l5
    · replace h := qv_pos c111 h
      by_cases c182 : l2 = 0
      · replace h := qv_pos c182 h
        obtain ⟨rfl, rfl⟩ := qv_pair h
        rfl
      · replace h := qv_neg c182 h
        obtain ⟨rfl, rfl⟩ := qv_pair h
        rfl
    · replace h := qv_neg c111 h
      obtain ⟨v115, e115, h⟩ := qv_bind h
      obtain ⟨v118, e118, h⟩ := qv_bind h
      obtain ⟨v129, e129, h⟩ := qv_bind h
      obtain ⟨v132, e132, h⟩ := qv_bind h
      obtain ⟨v147, e147, h⟩ := qv_bind h
      obtain ⟨v150, e150, h⟩ := qv_bind h
      obtain ⟨g155, h⟩ := qv_guard h
      obtain ⟨v155, e155, h⟩ := qv_bind h
      by_cases c158 : v155 = 0
      · replace h := qv_pos c158 h
        exact tlb_X10_mendAhead_175 _ ih l0 l2 (if l4 ≤ (fm_J6_bitCount_0f7a4 ((v118 &&& ((ji_shl 1 l5) ^^^ (-1))) ||| (v132 &&& (ji_shl 1 l5)))) then l3 else l5) (if l4 ≤ (fm_J6_bitCount_0f7a4 ((v118 &&& ((ji_shl 1 l5) ^^^ (-1))) ||| (v132 &&& (ji_shl 1 l5)))) then l4 else (fm_J6_bitCount_0f7a4 ((v118 &&& ((ji_shl 1 l5) ^^^ (-1))) ||| (v132 &&& (ji_shl 1 l5))))) l5 H h
      · replace h := qv_neg c158 h
        exact tlb_X10_mendAhead_175 _ ih l0 l2 l3 l4 l5 H h
theorem tb_X10_mendAhead_0 {st : xT} {d : Nat} {R : Option Value → qx_H → Prop} (hd : 5 ≤ d) {r : Int32} {H' : qx_H} (hR : R (some (.int r)) H') (a0 : Nat) (a1 : Int32) (a2 : Int32) (H : qx_H) (h : fm_X10_mendAhead a0 a1 a2 H = some (r, H')) : qx_V (xE st d) R (xc101 st) (0, [some (.ref a0), some (.int a1), some (.int a2), none, none, none, none], [], H) := by
  unfold fm_X10_mendAhead at h
  refine qv_run 3 (σ := (4, [some (.ref a0), some (.int a1), some (.int a2), none, none, none, none], [.int 60, .int 1, .int a1], H)) rfl ?_
  refine qv_call [.int a1, .int 1, .int 60] rfl rfl rfl (Nat.le_of_ble_eq_true rfl) (th_X10_isWithin (by omega) rfl) rfl ?_
  refine qv_br (c := (fm_X10_isWithin a1 1 60) = 0) (a := (18, [some (.ref a0), some (.int a1), some (.int a2), none, none, none, none], [], H)) (b := (10, [some (.ref a0), some (.int a1), some (.int a2), none, none, none, none], [], H)) 1 rfl (fun c7 => ?_) (fun c7 => ?_)
  · replace h := qv_pos c7 h
    exact tb_X10_mendAhead_18 hd hR a0 (some (.int a1)) rfl (some (.int a2)) rfl H h
  · replace h := qv_neg c7 h
    refine qv_run 2 (σ := (12, [some (.ref a0), some (.int a1), some (.int a2), none, none, none, none], [.int 2, .int a2], H)) rfl ?_
    refine qv_call [.int a2, .int 2] rfl rfl rfl (Nat.le_of_ble_eq_true rfl) (th_X10_isBelow (by omega) rfl) rfl ?_
    refine qv_br (c := (fm_X10_isBelow a2 2) = 0) (a := (18, [some (.ref a0), some (.int a1), some (.int a2), none, none, none, none], [], H)) (b := (25, [some (.ref a0), some (.int a1), some (.int a2), none, none, none, none], [], H)) 1 rfl (fun c15 => ?_) (fun c15 => ?_)
    · replace h := qv_pos c15 h
      exact tb_X10_mendAhead_18 hd hR a0 (some (.int a1)) rfl (some (.int a2)) rfl H h
    · replace h := qv_neg c15 h
      refine qv_run 1 (σ := (26, [some (.ref a0), some (.int a1), some (.int a2), none, none, none, none], [.ref a0], H)) rfl ?_
      obtain ⟨v26, e26, h⟩ := qv_bind h
      refine qv_getR rfl e26 ?_
      obtain ⟨v29, e29, h⟩ := qv_bind h
      refine qv_getR rfl e29 ?_
      obtain ⟨g32, h⟩ := qv_guard h
      obtain ⟨v32, e32, h⟩ := qv_bind h
      refine qv_callV [] rfl rfl rfl (Nat.le_of_ble_eq_true rfl) g32 (th_X5_missingThreads (by omega) e32) rfl ?_
      refine qv_br (c := v32 = 31) (a := (40, [some (.ref a0), some (.int a1), some (.int a2), none, none, none, none], [], H)) (b := (47, [some (.ref a0), some (.int a1), some (.int a2), none, none, none, none], [], H)) 2 rfl (fun c37 => ?_) (fun c37 => ?_)
      · replace h := qv_pos c37 h
        refine qv_run 2 (σ := (43, [some (.ref a0), some (.int a1), some (.int a2), none, none, none, none], [.int (-1000000002), .ref a0], H)) rfl ?_
        obtain ⟨g43, h⟩ := qv_guard h
        obtain ⟨v43, H43, e43, h⟩ := qv_bind2 h
        refine qv_callV [.int (-1000000002)] rfl rfl rfl (Nat.le_of_ble_eq_true rfl) g43 (th_X10_refuse (by omega) e43) (tl_X10_refuse e43) ?_
        obtain ⟨rfl, rfl⟩ := qv_pair h
        exact qv_reti rfl hR
      · replace h := qv_neg c37 h
        refine qv_run 1 (σ := (48, [some (.ref a0), some (.int a1), some (.int a2), none, none, none, none], [.ref a0], H)) rfl ?_
        obtain ⟨v48, e48, h⟩ := qv_bind h
        refine qv_getR rfl e48 ?_
        refine qv_run 1 (σ := (52, [some (.ref a0), some (.int a1), some (.int a2), none, none, none, none], [.ref a0, .ref v48], H)) rfl ?_
        obtain ⟨v52, e52, h⟩ := qv_bind h
        refine qv_getR rfl e52 ?_
        obtain ⟨v55, e55, h⟩ := qv_bind h
        refine qv_getR rfl e55 ?_
        obtain ⟨g58, h⟩ := qv_guard h
        obtain ⟨H58, e58, h⟩ := qv_bind h
        refine qv_callV [.ref v55] rfl rfl rfl (Nat.le_of_ble_eq_true rfl) g58 (th_X5_become (by omega) e58) (tl_X5_become e58) ?_
        refine qv_run 1 (σ := (62, [some (.ref a0), some (.int a1), some (.int a2), none, none, none, none], [.ref a0], H58)) rfl ?_
        obtain ⟨v62, e62, h⟩ := qv_bind h
        refine qv_getR rfl e62 ?_
        refine qv_run 1 (σ := (66, [some (.ref a0), some (.int a1), some (.int a2), none, none, none, none], [.int a1, .ref v62], H58)) rfl ?_
        obtain ⟨g66, h⟩ := qv_guard h
        obtain ⟨H66, e66, h⟩ := qv_bind h
        refine qv_callV [.int a1] rfl rfl rfl (Nat.le_of_ble_eq_true rfl) g66 (th_X5_passDays (by omega) e66) (tl_X5_passDays e66) ?_
        refine qv_run 1 (σ := (70, [some (.ref a0), some (.int a1), some (.int a2), none, none, none, none], [.ref a0], H66)) rfl ?_
        obtain ⟨v70, e70, h⟩ := qv_bind h
        refine qv_getR rfl e70 ?_
        refine qv_run 1 (σ := (74, [some (.ref a0), some (.int a1), some (.int a2), none, none, none, none], [.ref a0, .ref v70], H66)) rfl ?_
        obtain ⟨v74, e74, h⟩ := qv_bind h
        refine qv_getR rfl e74 ?_
        obtain ⟨v77, e77, h⟩ := qv_bind h
        refine qv_getR rfl e77 ?_
        obtain ⟨g80, h⟩ := qv_guard h
        obtain ⟨H80, e80, h⟩ := qv_bind h
        refine qv_callV [.ref v77] rfl rfl rfl (Nat.le_of_ble_eq_true rfl) g80 (th_X5_become (by omega) e80) (tl_X5_become e80) ?_
        refine qv_run 1 (σ := (84, [some (.ref a0), some (.int a1), some (.int a2), none, none, none, none], [.ref a0], H80)) rfl ?_
        obtain ⟨v84, e84, h⟩ := qv_bind h
        refine qv_getR rfl e84 ?_
        obtain ⟨g87, h⟩ := qv_guard h
        obtain ⟨H87, e87, h⟩ := qv_bind h
        refine qv_callV [] rfl rfl rfl (Nat.le_of_ble_eq_true rfl) g87 (th_X5_renewAll (by omega) e87) (tl_X5_renewAll e87) ?_
        refine qv_run 1 (σ := (91, [some (.ref a0), some (.int a1), some (.int a2), none, none, none, none], [.ref a0], H87)) rfl ?_
        obtain ⟨v91, e91, h⟩ := qv_bind h
        refine qv_getR rfl e91 ?_
        refine qv_run 1 (σ := (95, [some (.ref a0), some (.int a1), some (.int a2), none, none, none, none], [.int a1, .ref v91], H87)) rfl ?_
        obtain ⟨g95, h⟩ := qv_guard h
        obtain ⟨H95, e95, h⟩ := qv_bind h
        refine qv_callV [.int a1] rfl rfl rfl (Nat.le_of_ble_eq_true rfl) g95 (th_X5_passDays (by omega) e95) (tl_X5_passDays e95) ?_
        refine qv_run 6 (σ := (107, [some (.ref a0), some (.int a1), some (.int a2), some (.int (-1)), some (.int 32), some (.int 0), none], [], H95)) rfl ?_
        exact tb_X10_mendAhead_107 hd hR 5000 a0 a2 (-1) 32 0 (some (.int a1)) rfl none rfl H95 h
theorem tlb_X10_mendAhead_0 {r : Int32} {H' : qx_H} (a0 : Nat) (a1 : Int32) (a2 : Int32) (H : qx_H) (h : fm_X10_mendAhead a0 a1 a2 H = some (r, H')) : H'.length = H.length := by
  unfold fm_X10_mendAhead at h
  by_cases c7 : (fm_X10_isWithin a1 1 60) = 0
  · replace h := qv_pos c7 h
    exact tlb_X10_mendAhead_18 a0 H h
  · replace h := qv_neg c7 h
    by_cases c15 : (fm_X10_isBelow a2 2) = 0
    · replace h := qv_pos c15 h
      exact tlb_X10_mendAhead_18 a0 H h
    · replace h := qv_neg c15 h
      obtain ⟨v26, e26, h⟩ := qv_bind h
      obtain ⟨v29, e29, h⟩ := qv_bind h
      obtain ⟨g32, h⟩ := qv_guard h
      obtain ⟨v32, e32, h⟩ := qv_bind h
      by_cases c37 : v32 = 31
      · replace h := qv_pos c37 h
        obtain ⟨g43, h⟩ := qv_guard h
        obtain ⟨v43, H43, e43, h⟩ := qv_bind2 h
        have q_H43 := tl_X10_refuse e43
        obtain ⟨rfl, rfl⟩ := qv_pair h
        omega
      · replace h := qv_neg c37 h
        obtain ⟨v48, e48, h⟩ := qv_bind h
        obtain ⟨v52, e52, h⟩ := qv_bind h
        obtain ⟨v55, e55, h⟩ := qv_bind h
        obtain ⟨g58, h⟩ := qv_guard h
        obtain ⟨H58, e58, h⟩ := qv_bind h
        have q_H58 := tl_X5_become e58
        obtain ⟨v62, e62, h⟩ := qv_bind h
        obtain ⟨g66, h⟩ := qv_guard h
        obtain ⟨H66, e66, h⟩ := qv_bind h
        have q_H66 := tl_X5_passDays e66
        obtain ⟨v70, e70, h⟩ := qv_bind h
        obtain ⟨v74, e74, h⟩ := qv_bind h
        obtain ⟨v77, e77, h⟩ := qv_bind h
        obtain ⟨g80, h⟩ := qv_guard h
        obtain ⟨H80, e80, h⟩ := qv_bind h
        have q_H80 := tl_X5_become e80
        obtain ⟨v84, e84, h⟩ := qv_bind h
        obtain ⟨g87, h⟩ := qv_guard h
        obtain ⟨H87, e87, h⟩ := qv_bind h
        have q_H87 := tl_X5_renewAll e87
        obtain ⟨v91, e91, h⟩ := qv_bind h
        obtain ⟨g95, h⟩ := qv_guard h
        obtain ⟨H95, e95, h⟩ := qv_bind h
        have q_H95 := tl_X5_passDays e95
        have q_end := tlb_X10_mendAhead_107 5000 a0 a2 (-1) 32 0 H95 h
        omega
theorem th_X10_mendAhead {st : xT} {d : Nat} (hd : 6 ≤ d) {a0 : Nat} {a1 : Int32} {a2 : Int32} {H : qx_H} {r : Int32} {H' : qx_H} (h : fm_X10_mendAhead a0 a1 a2 H = some (r, H')) : xE st d 101 [.ref a0, .int a1, .int a2] H (some (.int r)) H' := by
  obtain ⟨d, rfl⟩ : ∃ d', d = d' + 1 := ⟨d - 1, by omega⟩
  exact xE_of (xe101 st) xl101 (Nat.le_of_ble_eq_true rfl) (ls := [some (.ref a0), some (.int a1), some (.int a2), none, none, none, none]) rfl (tb_X10_mendAhead_0 (by omega) ⟨rfl, rfl⟩ a0 a1 a2 H h)
theorem tl_X10_mendAhead {a0 : Nat} {a1 : Int32} {a2 : Int32} {H : qx_H} {r : Int32} {H' : qx_H} (h : fm_X10_mendAhead a0 a1 a2 H = some (r, H')) : H'.length = H.length := tlb_X10_mendAhead_0 a0 a1 a2 H h
def fm_X10_hands_b19 (l0 : Nat) (H : qx_H) : Option (Int32 × qx_H) := if hp_is H l0 8 = true then (ob2 (fm_X10_refuse l0 (-1000000001) H) fun v22 H22 => some (v22, H22)) else none
def fm_X10_hands_b75 (k31 : Nat → Int32 → Int32 → Int32 → Int32 → qx_H → Option (Int32 × qx_H)) (l0 : Nat) (l1 : Int32) (l2 : Int32) (l3 : Int32) (l4 : Int32) (H : qx_H) : Option (Int32 × qx_H) := k31 l0 l1 l2 l3 (l4 + 1) H
def fm_X10_hands_b31 : Nat → Nat → Int32 → Int32 → Int32 → Int32 → qx_H → Option (Int32 × qx_H)
  | 0, _, _, _, _, _, _ => none
  | n + 1, l0, l1, l2, l3, l4, H => if 20 ≤ l4 then (some (l3, H)) else ((hp_gR H l0 8 0).bind fun v39 => (hp_gR H v39 4 0).bind fun v42 => (hp_gR H v42 3 2).bind fun v45 => (hp_ald H v45 l4).bind fun v50 => if v50 = l1 then ((hp_gR H l0 8 0).bind fun v56 => (hp_gR H v56 4 0).bind fun v59 => (hp_gR H v59 3 3).bind fun v62 => (hp_ald H v62 l4).bind fun v67 => fm_X10_hands_b75 (fm_X10_hands_b31 n) l0 l1 l2 (if v67 < l2 then l3 else l3 + 1) l4 H) else (fm_X10_hands_b75 (fm_X10_hands_b31 n) l0 l1 l2 l3 l4 H))
def fm_X10_hands (a0 : Nat) (a1 : Int32) (a2 : Int32) (H : qx_H) : Option (Int32 × qx_H) := if (fm_X10_isBelow a1 5) = 0 then (fm_X10_hands_b19 a0 H) else (if (fm_X10_isWithin a2 0 9999) = 0 then (fm_X10_hands_b19 a0 H) else (fm_X10_hands_b31 5000 a0 a1 a2 0 0 H))
theorem tb_X10_hands_19 {st : xT} {d : Nat} {R : Option Value → qx_H → Prop} (hd : 2 ≤ d) {r : Int32} {H' : qx_H} (hR : R (some (.int r)) H') (l0 : Nat) (z1 : Option Value) (hz1 : qx_ns z1 = true) (z2 : Option Value) (hz2 : qx_ns z2 = true) (H : qx_H) (h : fm_X10_hands_b19 l0 H = some (r, H')) : qx_V (xE st d) R (xc102 st) (19, [some (.ref l0), z1, z2, none, none], [], H) := by
  unfold fm_X10_hands_b19 at h
  refine qv_run 2 (σ := (22, [some (.ref l0), z1, z2, none, none], [.int (-1000000001), .ref l0], H)) rfl ?_
  obtain ⟨g22, h⟩ := qv_guard h
  obtain ⟨v22, H22, e22, h⟩ := qv_bind2 h
  refine qv_callV [.int (-1000000001)] rfl rfl rfl (Nat.le_of_ble_eq_true rfl) g22 (th_X10_refuse (by omega) e22) (tl_X10_refuse e22) ?_
  obtain ⟨rfl, rfl⟩ := qv_pair h
  exact qv_reti rfl hR
theorem tlb_X10_hands_19 {r : Int32} {H' : qx_H} (l0 : Nat) (H : qx_H) (h : fm_X10_hands_b19 l0 H = some (r, H')) : H'.length = H.length := by
  unfold fm_X10_hands_b19 at h
  obtain ⟨g22, h⟩ := qv_guard h
  obtain ⟨v22, H22, e22, h⟩ := qv_bind2 h
  have q_H22 := tl_X10_refuse e22
  obtain ⟨rfl, rfl⟩ := qv_pair h
  omega
theorem tb_X10_hands_75 {st : xT} {d : Nat} {R : Option Value → qx_H → Prop} (hd : 2 ≤ d) {r : Int32} {H' : qx_H} (k31 : Nat → Int32 → Int32 → Int32 → Int32 → qx_H → Option (Int32 × qx_H)) (hk31 : ∀ (l0 : Nat) (l1 : Int32) (l2 : Int32) (l3 : Int32) (l4 : Int32) (H : qx_H), k31 l0 l1 l2 l3 l4 H = some (r, H') → qx_V (xE st d) R (xc102 st) (31, [some (.ref l0), some (.int l1), some (.int l2), some (.int l3), some (.int l4)], [], H)) (hR : R (some (.int r)) H') (l0 : Nat) (l1 : Int32) (l2 : Int32) (l3 : Int32) (l4 : Int32) (H : qx_H) (h : fm_X10_hands_b75 k31 l0 l1 l2 l3 l4 H = some (r, H')) : qx_V (xE st d) R (xc102 st) (75, [some (.ref l0), some (.int l1), some (.int l2), some (.int l3), some (.int l4)], [], H) := by
  unfold fm_X10_hands_b75 at h
  refine qv_run 2 (σ := (31, [some (.ref l0), some (.int l1), some (.int l2), some (.int l3), some (.int (l4 + 1))], [], H)) rfl ?_
  exact hk31 l0 l1 l2 l3 (l4 + 1) H h
theorem tlb_X10_hands_75 {r : Int32} {H' : qx_H} (k31 : Nat → Int32 → Int32 → Int32 → Int32 → qx_H → Option (Int32 × qx_H)) (hk31 : ∀ (l0 : Nat) (l1 : Int32) (l2 : Int32) (l3 : Int32) (l4 : Int32) (H : qx_H), k31 l0 l1 l2 l3 l4 H = some (r, H') → H'.length = H.length) (l0 : Nat) (l1 : Int32) (l2 : Int32) (l3 : Int32) (l4 : Int32) (H : qx_H) (h : fm_X10_hands_b75 k31 l0 l1 l2 l3 l4 H = some (r, H')) : H'.length = H.length := by
  unfold fm_X10_hands_b75 at h
  exact hk31 l0 l1 l2 l3 (l4 + 1) H h
theorem tb_X10_hands_31 {st : xT} {d : Nat} {R : Option Value → qx_H → Prop} (hd : 2 ≤ d) {r : Int32} {H' : qx_H} (hR : R (some (.int r)) H') : ∀ (n : Nat) (l0 : Nat) (l1 : Int32) (l2 : Int32) (l3 : Int32) (l4 : Int32) (H : qx_H) (h : fm_X10_hands_b31 n l0 l1 l2 l3 l4 H = some (r, H')), qx_V (xE st d) R (xc102 st) (31, [some (.ref l0), some (.int l1), some (.int l2), some (.int l3), some (.int l4)], [], H) := by
  intro n
  induction n with
  | zero => intro l0 l1 l2 l3 l4 H h; exact nomatch (show (none : Option (Int32 × qx_H)) = some (r, H') from h)
  | succ n ih =>
    intro l0 l1 l2 l3 l4 H h
    unfold fm_X10_hands_b31 at h
    refine qv_br (c := 20 ≤ l4) (a := (81, [some (.ref l0), some (.int l1), some (.int l2), some (.int l3), some (.int l4)], [], H)) (b := (38, [some (.ref l0), some (.int l1), some (.int l2), some (.int l3), some (.int l4)], [], H)) 3 rfl (fun c35 => ?_) (fun c35 => ?_)
    · replace h := qv_pos c35 h
      refine qv_run 1 (σ := (82, [some (.ref l0), some (.int l1), some (.int l2), some (.int l3), some (.int l4)], [.int l3], H)) rfl ?_
      obtain ⟨rfl, rfl⟩ := qv_pair h
      exact qv_reti rfl hR
    · replace h := qv_neg c35 h
      refine qv_run 1 (σ := (39, [some (.ref l0), some (.int l1), some (.int l2), some (.int l3), some (.int l4)], [.ref l0], H)) rfl ?_
      obtain ⟨v39, e39, h⟩ := qv_bind h
      refine qv_getR rfl e39 ?_
      obtain ⟨v42, e42, h⟩ := qv_bind h
      refine qv_getR rfl e42 ?_
      obtain ⟨v45, e45, h⟩ := qv_bind h
      refine qv_getR rfl e45 ?_
      refine qv_run 1 (σ := (50, [some (.ref l0), some (.int l1), some (.int l2), some (.int l3), some (.int l4)], [.int l4, .ref v45], H)) rfl ?_
      obtain ⟨v50, e50, h⟩ := qv_bind h
      refine qv_ald rfl e50 ?_
      refine qv_br (c := v50 = l1) (a := (55, [some (.ref l0), some (.int l1), some (.int l2), some (.int l3), some (.int l4)], [], H)) (b := (75, [some (.ref l0), some (.int l1), some (.int l2), some (.int l3), some (.int l4)], [], H)) 2 rfl (fun c52 => ?_) (fun c52 => ?_)
      · replace h := qv_pos c52 h
        refine qv_run 1 (σ := (56, [some (.ref l0), some (.int l1), some (.int l2), some (.int l3), some (.int l4)], [.ref l0], H)) rfl ?_
        obtain ⟨v56, e56, h⟩ := qv_bind h
        refine qv_getR rfl e56 ?_
        obtain ⟨v59, e59, h⟩ := qv_bind h
        refine qv_getR rfl e59 ?_
        obtain ⟨v62, e62, h⟩ := qv_bind h
        refine qv_getR rfl e62 ?_
        refine qv_run 1 (σ := (67, [some (.ref l0), some (.int l1), some (.int l2), some (.int l3), some (.int l4)], [.int l4, .ref v62], H)) rfl ?_
        obtain ⟨v67, e67, h⟩ := qv_bind h
        refine qv_ald rfl e67 ?_
        refine qv_dia (c := v67 < l2) (a := (75, [some (.ref l0), some (.int l1), some (.int l2), some (.int l3), some (.int l4)], [], H)) (b := (72, [some (.ref l0), some (.int l1), some (.int l2), some (.int l3), some (.int l4)], [], H)) (σ' := (75, [some (.ref l0), some (.int l1), some (.int l2), some (.int (if v67 < l2 then l3 else l3 + 1)), some (.int l4)], [], H)) 2 rfl ?_ (fun c69 kk => qv_run 0 (σ := (75, [some (.ref l0), some (.int l1), some (.int l2), some (.int l3), some (.int l4)], [], H)) rfl (qv_eq (by simp only [if_pos c69]) kk)) (fun c69 kk => qv_run 1 (σ := (75, [some (.ref l0), some (.int l1), some (.int l2), some (.int (l3 + 1)), some (.int l4)], [], H)) rfl (qv_eq (by simp only [if_neg c69]) kk))
        exact tb_X10_hands_75 hd _ ih hR l0 l1 l2 (if v67 < l2 then l3 else l3 + 1) l4 H h
      · replace h := qv_neg c52 h
        exact tb_X10_hands_75 hd _ ih hR l0 l1 l2 l3 l4 H h
theorem tlb_X10_hands_31 {r : Int32} {H' : qx_H} : ∀ (n : Nat) (l0 : Nat) (l1 : Int32) (l2 : Int32) (l3 : Int32) (l4 : Int32) (H : qx_H) (h : fm_X10_hands_b31 n l0 l1 l2 l3 l4 H = some (r, H')), H'.length = H.length := by
  intro n
  induction n with
  | zero => intro l0 l1 l2 l3 l4 H h; exact nomatch (show (none : Option (Int32 × qx_H)) = some (r, H') from h)
  | succ n ih =>
    intro l0 l1 l2 l3 l4 H h
    unfold fm_X10_hands_b31 at h
    by_cases c35 : 20 ≤ l4
    · replace h := qv_pos c35 h
      obtain ⟨rfl, rfl⟩ := qv_pair h
      rfl
    · replace h := qv_neg c35 h
      obtain ⟨v39, e39, h⟩ := qv_bind h
      obtain ⟨v42, e42, h⟩ := qv_bind h
      obtain ⟨v45, e45, h⟩ := qv_bind h
      obtain ⟨v50, e50, h⟩ := qv_bind h
      by_cases c52 : v50 = l1
      · replace h := qv_pos c52 h
        obtain ⟨v56, e56, h⟩ := qv_bind h
        obtain ⟨v59, e59, h⟩ := qv_bind h
        obtain ⟨v62, e62, h⟩ := qv_bind h
        obtain ⟨v67, e67, h⟩ := qv_bind h
        exact tlb_X10_hands_75 _ ih l0 l1 l2 (if v67 < l2 then l3 else l3 + 1) l4 H h
      · replace h := qv_neg c52 h
        exact tlb_X10_hands_75 _ ih l0 l1 l2 l3 l4 H h
theorem tb_X10_hands_0 {st : xT} {d : Nat} {R : Option Value → qx_H → Prop} (hd : 2 ≤ d) {r : Int32} {H' : qx_H} (hR : R (some (.int r)) H') (a0 : Nat) (a1 : Int32) (a2 : Int32) (H : qx_H) (h : fm_X10_hands a0 a1 a2 H = some (r, H')) : qx_V (xE st d) R (xc102 st) (0, [some (.ref a0), some (.int a1), some (.int a2), none, none], [], H) := by
  unfold fm_X10_hands at h
  refine qv_run 2 (σ := (2, [some (.ref a0), some (.int a1), some (.int a2), none, none], [.int 5, .int a1], H)) rfl ?_
  refine qv_call [.int a1, .int 5] rfl rfl rfl (Nat.le_of_ble_eq_true rfl) (th_X10_isBelow (by omega) rfl) rfl ?_
  refine qv_br (c := (fm_X10_isBelow a1 5) = 0) (a := (19, [some (.ref a0), some (.int a1), some (.int a2), none, none], [], H)) (b := (8, [some (.ref a0), some (.int a1), some (.int a2), none, none], [], H)) 1 rfl (fun c5 => ?_) (fun c5 => ?_)
  · replace h := qv_pos c5 h
    exact tb_X10_hands_19 hd hR a0 (some (.int a1)) rfl (some (.int a2)) rfl H h
  · replace h := qv_neg c5 h
    refine qv_run 3 (σ := (13, [some (.ref a0), some (.int a1), some (.int a2), none, none], [.int 9999, .int 0, .int a2], H)) rfl ?_
    refine qv_call [.int a2, .int 0, .int 9999] rfl rfl rfl (Nat.le_of_ble_eq_true rfl) (th_X10_isWithin (by omega) rfl) rfl ?_
    refine qv_br (c := (fm_X10_isWithin a2 0 9999) = 0) (a := (19, [some (.ref a0), some (.int a1), some (.int a2), none, none], [], H)) (b := (26, [some (.ref a0), some (.int a1), some (.int a2), none, none], [], H)) 1 rfl (fun c16 => ?_) (fun c16 => ?_)
    · replace h := qv_pos c16 h
      exact tb_X10_hands_19 hd hR a0 (some (.int a1)) rfl (some (.int a2)) rfl H h
    · replace h := qv_neg c16 h
      refine qv_run 4 (σ := (31, [some (.ref a0), some (.int a1), some (.int a2), some (.int 0), some (.int 0)], [], H)) rfl ?_
      exact tb_X10_hands_31 hd hR 5000 a0 a1 a2 0 0 H h
theorem tlb_X10_hands_0 {r : Int32} {H' : qx_H} (a0 : Nat) (a1 : Int32) (a2 : Int32) (H : qx_H) (h : fm_X10_hands a0 a1 a2 H = some (r, H')) : H'.length = H.length := by
  unfold fm_X10_hands at h
  by_cases c5 : (fm_X10_isBelow a1 5) = 0
  · replace h := qv_pos c5 h
    exact tlb_X10_hands_19 a0 H h
  · replace h := qv_neg c5 h
    by_cases c16 : (fm_X10_isWithin a2 0 9999) = 0
    · replace h := qv_pos c16 h
      exact tlb_X10_hands_19 a0 H h
    · replace h := qv_neg c16 h
      exact tlb_X10_hands_31 5000 a0 a1 a2 0 0 H h
theorem th_X10_hands {st : xT} {d : Nat} (hd : 3 ≤ d) {a0 : Nat} {a1 : Int32} {a2 : Int32} {H : qx_H} {r : Int32} {H' : qx_H} (h : fm_X10_hands a0 a1 a2 H = some (r, H')) : xE st d 102 [.ref a0, .int a1, .int a2] H (some (.int r)) H' := by
  obtain ⟨d, rfl⟩ : ∃ d', d = d' + 1 := ⟨d - 1, by omega⟩
  exact xE_of (xe102 st) xl102 (Nat.le_of_ble_eq_true rfl) (ls := [some (.ref a0), some (.int a1), some (.int a2), none, none]) rfl (tb_X10_hands_0 (by omega) ⟨rfl, rfl⟩ a0 a1 a2 H h)
theorem tl_X10_hands {a0 : Nat} {a1 : Int32} {a2 : Int32} {H : qx_H} {r : Int32} {H' : qx_H} (h : fm_X10_hands a0 a1 a2 H = some (r, H')) : H'.length = H.length := tlb_X10_hands_0 a0 a1 a2 H h
def fm_X10_swimsOut_b42 (l1 : Int32) (l2 : Int32) (t0 : Int32) (H : qx_H) : Option (Int64 × qx_H) := if l1 = 0 then (if t0 = 0 then (some (Int32.toInt64 l2, H)) else (some (Int32.toInt64 (l2 / 31), H))) else (if t0 = 0 then (some (31, H)) else (some (1, H)))
def fm_X10_swimsOut_b37 (l1 : Int32) (l2 : Int32) (H : qx_H) : Option (Int64 × qx_H) := fm_X10_swimsOut_b42 l1 l2 1 H
def fm_X10_swimsOut (a0 : Nat) (a1 : Int32) (H : qx_H) : Option (Int64 × qx_H) := if (fm_X10_isBelow a1 2) = 0 then (if hp_is H a0 8 = true then (ob2 (fm_X10_refuse a0 (-1000000001) H) fun v11 H11 => some (Int32.toInt64 v11, H11)) else none) else ((hp_gR H a0 8 0).bind fun v17 => (hp_gR H v17 4 0).bind fun v20 => if hp_is H v20 3 = true then ((fm_X5_missingThreads v20 H).bind fun v23 => if v23 = 0 then (fm_X10_swimsOut_b37 a1 v23 H) else (if a1 = 0 then (if ((if v23 = 31 then 1 else 0) : Int32) = 0 then (some (Int32.toInt64 v23, H)) else (some (Int32.toInt64 (v23 / 31), H))) else (if ((if v23 = 31 then 1 else 0) : Int32) = 0 then (some (31, H)) else (some (1, H))))) else none)
theorem tb_X10_swimsOut_42 {st : xT} {d : Nat} {R : Option Value → qx_H → Prop} (hd : 2 ≤ d) {r : Int64} {H' : qx_H} (hR : R (some (.long r)) H') (l1 : Int32) (l2 : Int32) (t0 : Int32) (z0 : Option Value) (hz0 : qx_ns z0 = true) (H : qx_H) (h : fm_X10_swimsOut_b42 l1 l2 t0 H = some (r, H')) : qx_V (xE st d) R (xc103 st) (42, [z0, some (.int l1), some (.int l2), none], [.int t0], H) := by
  unfold fm_X10_swimsOut_b42 at h
  refine qv_br (c := l1 = 0) (a := (47, [z0, some (.int l1), some (.int l2), some (.int t0)], [], H)) (b := (62, [z0, some (.int l1), some (.int l2), some (.int t0)], [], H)) 3 rfl (fun c44 => ?_) (fun c44 => ?_)
  · replace h := qv_pos c44 h
    refine qv_br (c := t0 = 0) (a := (59, [z0, some (.int l1), some (.int l2), some (.int t0)], [], H)) (b := (51, [z0, some (.int l1), some (.int l2), some (.int t0)], [], H)) 2 rfl (fun c48 => ?_) (fun c48 => ?_)
    · replace h := qv_pos c48 h
      refine qv_run 2 (σ := (61, [z0, some (.int l1), some (.int l2), some (.int t0)], [.long (Int32.toInt64 l2)], H)) rfl ?_
      obtain ⟨rfl, rfl⟩ := qv_pair h
      exact qv_retl rfl hR
    · replace h := qv_neg c48 h
      refine qv_run 2 (σ := (54, [z0, some (.int l1), some (.int l2), some (.int t0)], [.int 31, .int l2], H)) rfl ?_
      refine qv_div rfl (by decide) ?_
      refine qv_run 2 (σ := (61, [z0, some (.int l1), some (.int l2), some (.int t0)], [.long (Int32.toInt64 (l2 / 31))], H)) rfl ?_
      obtain ⟨rfl, rfl⟩ := qv_pair h
      exact qv_retl rfl hR
  · replace h := qv_neg c44 h
    refine qv_br (c := t0 = 0) (a := (70, [z0, some (.int l1), some (.int l2), some (.int t0)], [], H)) (b := (66, [z0, some (.int l1), some (.int l2), some (.int t0)], [], H)) 2 rfl (fun c63 => ?_) (fun c63 => ?_)
    · replace h := qv_pos c63 h
      refine qv_run 1 (σ := (73, [z0, some (.int l1), some (.int l2), some (.int t0)], [.long 31], H)) rfl ?_
      obtain ⟨rfl, rfl⟩ := qv_pair h
      exact qv_retl rfl hR
    · replace h := qv_neg c63 h
      refine qv_run 2 (σ := (73, [z0, some (.int l1), some (.int l2), some (.int t0)], [.long 1], H)) rfl ?_
      obtain ⟨rfl, rfl⟩ := qv_pair h
      exact qv_retl rfl hR
theorem tlb_X10_swimsOut_42 {r : Int64} {H' : qx_H} (l1 : Int32) (l2 : Int32) (t0 : Int32) (H : qx_H) (h : fm_X10_swimsOut_b42 l1 l2 t0 H = some (r, H')) : H'.length = H.length := by
  unfold fm_X10_swimsOut_b42 at h
  by_cases c44 : l1 = 0
  · replace h := qv_pos c44 h
    by_cases c48 : t0 = 0
    · replace h := qv_pos c48 h
      obtain ⟨rfl, rfl⟩ := qv_pair h
      rfl
    · replace h := qv_neg c48 h
      obtain ⟨rfl, rfl⟩ := qv_pair h
      rfl
  · replace h := qv_neg c44 h
    by_cases c63 : t0 = 0
    · replace h := qv_pos c63 h
      obtain ⟨rfl, rfl⟩ := qv_pair h
      rfl
    · replace h := qv_neg c63 h
      obtain ⟨rfl, rfl⟩ := qv_pair h
      rfl
theorem tb_X10_swimsOut_37 {st : xT} {d : Nat} {R : Option Value → qx_H → Prop} (hd : 2 ≤ d) {r : Int64} {H' : qx_H} (hR : R (some (.long r)) H') (l1 : Int32) (l2 : Int32) (z0 : Option Value) (hz0 : qx_ns z0 = true) (H : qx_H) (h : fm_X10_swimsOut_b37 l1 l2 H = some (r, H')) : qx_V (xE st d) R (xc103 st) (37, [z0, some (.int l1), some (.int l2), none], [], H) := by
  unfold fm_X10_swimsOut_b37 at h
  refine qv_run 2 (σ := (42, [z0, some (.int l1), some (.int l2), none], [.int 1], H)) rfl ?_
  exact tb_X10_swimsOut_42 hd hR l1 l2 1 z0 hz0 H h
theorem tlb_X10_swimsOut_37 {r : Int64} {H' : qx_H} (l1 : Int32) (l2 : Int32) (H : qx_H) (h : fm_X10_swimsOut_b37 l1 l2 H = some (r, H')) : H'.length = H.length := by
  unfold fm_X10_swimsOut_b37 at h
  exact tlb_X10_swimsOut_42 l1 l2 1 H h
theorem tb_X10_swimsOut_0 {st : xT} {d : Nat} {R : Option Value → qx_H → Prop} (hd : 2 ≤ d) {r : Int64} {H' : qx_H} (hR : R (some (.long r)) H') (a0 : Nat) (a1 : Int32) (H : qx_H) (h : fm_X10_swimsOut a0 a1 H = some (r, H')) : qx_V (xE st d) R (xc103 st) (0, [some (.ref a0), some (.int a1), none, none], [], H) := by
  unfold fm_X10_swimsOut at h
  refine qv_run 2 (σ := (2, [some (.ref a0), some (.int a1), none, none], [.int 2, .int a1], H)) rfl ?_
  refine qv_call [.int a1, .int 2] rfl rfl rfl (Nat.le_of_ble_eq_true rfl) (th_X10_isBelow (by omega) rfl) rfl ?_
  refine qv_br (c := (fm_X10_isBelow a1 2) = 0) (a := (8, [some (.ref a0), some (.int a1), none, none], [], H)) (b := (16, [some (.ref a0), some (.int a1), none, none], [], H)) 1 rfl (fun c5 => ?_) (fun c5 => ?_)
  · replace h := qv_pos c5 h
    refine qv_run 2 (σ := (11, [some (.ref a0), some (.int a1), none, none], [.int (-1000000001), .ref a0], H)) rfl ?_
    obtain ⟨g11, h⟩ := qv_guard h
    obtain ⟨v11, H11, e11, h⟩ := qv_bind2 h
    refine qv_callV [.int (-1000000001)] rfl rfl rfl (Nat.le_of_ble_eq_true rfl) g11 (th_X10_refuse (by omega) e11) (tl_X10_refuse e11) ?_
    refine qv_run 1 (σ := (15, [some (.ref a0), some (.int a1), none, none], [.long (Int32.toInt64 v11)], H11)) rfl ?_
    obtain ⟨rfl, rfl⟩ := qv_pair h
    exact qv_retl rfl hR
  · replace h := qv_neg c5 h
    refine qv_run 1 (σ := (17, [some (.ref a0), some (.int a1), none, none], [.ref a0], H)) rfl ?_
    obtain ⟨v17, e17, h⟩ := qv_bind h
    refine qv_getR rfl e17 ?_
    obtain ⟨v20, e20, h⟩ := qv_bind h
    refine qv_getR rfl e20 ?_
    obtain ⟨g23, h⟩ := qv_guard h
    obtain ⟨v23, e23, h⟩ := qv_bind h
    refine qv_callV [] rfl rfl rfl (Nat.le_of_ble_eq_true rfl) g23 (th_X5_missingThreads (by omega) e23) rfl ?_
    refine qv_br (c := v23 = 0) (a := (37, [some (.ref a0), some (.int a1), some (.int v23), none], [], H)) (b := (31, [some (.ref a0), some (.int a1), some (.int v23), none], [], H)) 3 rfl (fun c28 => ?_) (fun c28 => ?_)
    · replace h := qv_pos c28 h
      exact tb_X10_swimsOut_37 hd hR a1 v23 (some (.ref a0)) rfl H h
    · replace h := qv_neg c28 h
      refine qv_dia (c := v23 = 31) (a := (37, [some (.ref a0), some (.int a1), some (.int v23), none], [], H)) (b := (41, [some (.ref a0), some (.int a1), some (.int v23), none], [], H)) (σ' := (42, [some (.ref a0), some (.int a1), some (.int v23), none], [.int (if v23 = 31 then 1 else 0)], H)) 3 rfl ?_ (fun c34 kk => qv_run 2 (σ := (42, [some (.ref a0), some (.int a1), some (.int v23), none], [.int 1], H)) rfl (qv_eq (by simp only [if_pos c34]) kk)) (fun c34 kk => qv_run 1 (σ := (42, [some (.ref a0), some (.int a1), some (.int v23), none], [.int 0], H)) rfl (qv_eq (by simp only [if_neg c34]) kk))
      refine qv_br (c := a1 = 0) (a := (47, [some (.ref a0), some (.int a1), some (.int v23), some (.int (if v23 = 31 then 1 else 0))], [], H)) (b := (62, [some (.ref a0), some (.int a1), some (.int v23), some (.int (if v23 = 31 then 1 else 0))], [], H)) 3 rfl (fun c44 => ?_) (fun c44 => ?_)
      · replace h := qv_pos c44 h
        refine qv_br (c := ((if v23 = 31 then 1 else 0) : Int32) = 0) (a := (59, [some (.ref a0), some (.int a1), some (.int v23), some (.int (if v23 = 31 then 1 else 0))], [], H)) (b := (51, [some (.ref a0), some (.int a1), some (.int v23), some (.int (if v23 = 31 then 1 else 0))], [], H)) 2 rfl (fun c48 => ?_) (fun c48 => ?_)
        · replace h := qv_pos c48 h
          refine qv_run 2 (σ := (61, [some (.ref a0), some (.int a1), some (.int v23), some (.int (if v23 = 31 then 1 else 0))], [.long (Int32.toInt64 v23)], H)) rfl ?_
          obtain ⟨rfl, rfl⟩ := qv_pair h
          exact qv_retl rfl hR
        · replace h := qv_neg c48 h
          refine qv_run 2 (σ := (54, [some (.ref a0), some (.int a1), some (.int v23), some (.int (if v23 = 31 then 1 else 0))], [.int 31, .int v23], H)) rfl ?_
          refine qv_div rfl (by decide) ?_
          refine qv_run 2 (σ := (61, [some (.ref a0), some (.int a1), some (.int v23), some (.int (if v23 = 31 then 1 else 0))], [.long (Int32.toInt64 (v23 / 31))], H)) rfl ?_
          obtain ⟨rfl, rfl⟩ := qv_pair h
          exact qv_retl rfl hR
      · replace h := qv_neg c44 h
        refine qv_br (c := ((if v23 = 31 then 1 else 0) : Int32) = 0) (a := (70, [some (.ref a0), some (.int a1), some (.int v23), some (.int (if v23 = 31 then 1 else 0))], [], H)) (b := (66, [some (.ref a0), some (.int a1), some (.int v23), some (.int (if v23 = 31 then 1 else 0))], [], H)) 2 rfl (fun c63 => ?_) (fun c63 => ?_)
        · replace h := qv_pos c63 h
          refine qv_run 1 (σ := (73, [some (.ref a0), some (.int a1), some (.int v23), some (.int (if v23 = 31 then 1 else 0))], [.long 31], H)) rfl ?_
          obtain ⟨rfl, rfl⟩ := qv_pair h
          exact qv_retl rfl hR
        · replace h := qv_neg c63 h
          refine qv_run 2 (σ := (73, [some (.ref a0), some (.int a1), some (.int v23), some (.int (if v23 = 31 then 1 else 0))], [.long 1], H)) rfl ?_
          obtain ⟨rfl, rfl⟩ := qv_pair h
          exact qv_retl rfl hR
theorem tlb_X10_swimsOut_0 {r : Int64} {H' : qx_H} (a0 : Nat) (a1 : Int32) (H : qx_H) (h : fm_X10_swimsOut a0 a1 H = some (r, H')) : H'.length = H.length := by
  unfold fm_X10_swimsOut at h
  by_cases c5 : (fm_X10_isBelow a1 2) = 0
  · replace h := qv_pos c5 h
    obtain ⟨g11, h⟩ := qv_guard h
    obtain ⟨v11, H11, e11, h⟩ := qv_bind2 h
    have q_H11 := tl_X10_refuse e11
    obtain ⟨rfl, rfl⟩ := qv_pair h
    omega
  · replace h := qv_neg c5 h
    obtain ⟨v17, e17, h⟩ := qv_bind h
    obtain ⟨v20, e20, h⟩ := qv_bind h
    obtain ⟨g23, h⟩ := qv_guard h
    obtain ⟨v23, e23, h⟩ := qv_bind h
    by_cases c28 : v23 = 0
    · replace h := qv_pos c28 h
      exact tlb_X10_swimsOut_37 a1 v23 H h
    · replace h := qv_neg c28 h
      by_cases c44 : a1 = 0
      · replace h := qv_pos c44 h
        by_cases c48 : ((if v23 = 31 then 1 else 0) : Int32) = 0
        · replace h := qv_pos c48 h
          obtain ⟨rfl, rfl⟩ := qv_pair h
          rfl
        · replace h := qv_neg c48 h
          obtain ⟨rfl, rfl⟩ := qv_pair h
          rfl
      · replace h := qv_neg c44 h
        by_cases c63 : ((if v23 = 31 then 1 else 0) : Int32) = 0
        · replace h := qv_pos c63 h
          obtain ⟨rfl, rfl⟩ := qv_pair h
          rfl
        · replace h := qv_neg c63 h
          obtain ⟨rfl, rfl⟩ := qv_pair h
          rfl
theorem th_X10_swimsOut {st : xT} {d : Nat} (hd : 3 ≤ d) {a0 : Nat} {a1 : Int32} {H : qx_H} {r : Int64} {H' : qx_H} (h : fm_X10_swimsOut a0 a1 H = some (r, H')) : xE st d 103 [.ref a0, .int a1] H (some (.long r)) H' := by
  obtain ⟨d, rfl⟩ : ∃ d', d = d' + 1 := ⟨d - 1, by omega⟩
  exact xE_of (xe103 st) xl103 (Nat.le_of_ble_eq_true rfl) (ls := [some (.ref a0), some (.int a1), none, none]) rfl (tb_X10_swimsOut_0 (by omega) ⟨rfl, rfl⟩ a0 a1 H h)
theorem tl_X10_swimsOut {a0 : Nat} {a1 : Int32} {H : qx_H} {r : Int64} {H' : qx_H} (h : fm_X10_swimsOut a0 a1 H = some (r, H')) : H'.length = H.length := tlb_X10_swimsOut_0 a0 a1 H h
def fm_X10_voice_b17 (st : xT) (l0 : Nat) (H : qx_H) : Option (Int32 × qx_H) := if hp_is H l0 8 = true then (ob2 (fm_X10_refuse l0 (-1000000001) H) fun v20 H20 => some (v20, H20)) else none
def fm_X10_voice (st : xT) (a0 : Nat) (a1 : Int32) (a2 : Int32) (a3 : Int32) (H : qx_H) : Option (Int32 × qx_H) := if (fm_X10_isBelow a1 20) = 0 then (fm_X10_voice_b17 st a0 H) else (if (fm_X10_isBelow a2 4) = 0 then (fm_X10_voice_b17 st a0 H) else ((hp_gR H a0 8 7).bind fun v25 => (hp_gR H a0 8 0).bind fun v29 => (hp_gR H v29 4 0).bind fun v32 => (hp_gR H v32 3 0).bind fun v35 => (hp_ald H v35 a1).bind fun v39 => (hp_gR H a0 8 0).bind fun v41 => (hp_gR H v41 4 0).bind fun v44 => (hp_gR H v44 3 1).bind fun v47 => (hp_ald H v47 a1).bind fun v51 => if hp_is H v25 7 = true then (ob2 (fm_X9_hear st v25 v39 v51 a1 a2 a3 H) fun v55 H55 => (hp_gR H55 a0 8 7).bind fun v61 => (hp_gI H55 v61 7 2).bind fun v64 => if v64 = 0 then (some (v55, H55)) else (if hp_is H55 a0 8 = true then (ob2 (fm_X10_refuse a0 (-1000000006) H55) fun v74 H74 => some (v74, H74)) else none)) else none))
theorem tb_X10_voice_17 {st : xT} {d : Nat} {R : Option Value → qx_H → Prop} (hd : 50 ≤ d) {r : Int32} {H' : qx_H} (hR : R (some (.int r)) H') (l0 : Nat) (z1 : Option Value) (hz1 : qx_ns z1 = true) (z2 : Option Value) (hz2 : qx_ns z2 = true) (z3 : Option Value) (hz3 : qx_ns z3 = true) (H : qx_H) (h : fm_X10_voice_b17 st l0 H = some (r, H')) : qx_V (xE st d) R (xc104 st) (17, [some (.ref l0), z1, z2, z3, none], [], H) := by
  unfold fm_X10_voice_b17 at h
  refine qv_run 2 (σ := (20, [some (.ref l0), z1, z2, z3, none], [.int (-1000000001), .ref l0], H)) rfl ?_
  obtain ⟨g20, h⟩ := qv_guard h
  obtain ⟨v20, H20, e20, h⟩ := qv_bind2 h
  refine qv_callV [.int (-1000000001)] rfl rfl rfl (Nat.le_of_ble_eq_true rfl) g20 (th_X10_refuse (by omega) e20) (tl_X10_refuse e20) ?_
  obtain ⟨rfl, rfl⟩ := qv_pair h
  exact qv_reti rfl hR
theorem tlb_X10_voice_17 {st : xT} {r : Int32} {H' : qx_H} (l0 : Nat) (H : qx_H) (h : fm_X10_voice_b17 st l0 H = some (r, H')) : H'.length = H.length := by
  unfold fm_X10_voice_b17 at h
  obtain ⟨g20, h⟩ := qv_guard h
  obtain ⟨v20, H20, e20, h⟩ := qv_bind2 h
  have q_H20 := tl_X10_refuse e20
  obtain ⟨rfl, rfl⟩ := qv_pair h
  omega
theorem tb_X10_voice_0 {st : xT} {d : Nat} {R : Option Value → qx_H → Prop} (hd : 50 ≤ d) {r : Int32} {H' : qx_H} (hR : R (some (.int r)) H') (a0 : Nat) (a1 : Int32) (a2 : Int32) (a3 : Int32) (H : qx_H) (h : fm_X10_voice st a0 a1 a2 a3 H = some (r, H')) : qx_V (xE st d) R (xc104 st) (0, [some (.ref a0), some (.int a1), some (.int a2), some (.int a3), none], [], H) := by
  unfold fm_X10_voice at h
  refine qv_run 2 (σ := (3, [some (.ref a0), some (.int a1), some (.int a2), some (.int a3), none], [.int 20, .int a1], H)) rfl ?_
  refine qv_call [.int a1, .int 20] rfl rfl rfl (Nat.le_of_ble_eq_true rfl) (th_X10_isBelow (by omega) rfl) rfl ?_
  refine qv_br (c := (fm_X10_isBelow a1 20) = 0) (a := (17, [some (.ref a0), some (.int a1), some (.int a2), some (.int a3), none], [], H)) (b := (9, [some (.ref a0), some (.int a1), some (.int a2), some (.int a3), none], [], H)) 1 rfl (fun c6 => ?_) (fun c6 => ?_)
  · replace h := qv_pos c6 h
    exact tb_X10_voice_17 hd hR a0 (some (.int a1)) rfl (some (.int a2)) rfl (some (.int a3)) rfl H h
  · replace h := qv_neg c6 h
    refine qv_run 2 (σ := (11, [some (.ref a0), some (.int a1), some (.int a2), some (.int a3), none], [.int 4, .int a2], H)) rfl ?_
    refine qv_call [.int a2, .int 4] rfl rfl rfl (Nat.le_of_ble_eq_true rfl) (th_X10_isBelow (by omega) rfl) rfl ?_
    refine qv_br (c := (fm_X10_isBelow a2 4) = 0) (a := (17, [some (.ref a0), some (.int a1), some (.int a2), some (.int a3), none], [], H)) (b := (24, [some (.ref a0), some (.int a1), some (.int a2), some (.int a3), none], [], H)) 1 rfl (fun c14 => ?_) (fun c14 => ?_)
    · replace h := qv_pos c14 h
      exact tb_X10_voice_17 hd hR a0 (some (.int a1)) rfl (some (.int a2)) rfl (some (.int a3)) rfl H h
    · replace h := qv_neg c14 h
      refine qv_run 1 (σ := (25, [some (.ref a0), some (.int a1), some (.int a2), some (.int a3), none], [.ref a0], H)) rfl ?_
      obtain ⟨v25, e25, h⟩ := qv_bind h
      refine qv_getR rfl e25 ?_
      refine qv_run 1 (σ := (29, [some (.ref a0), some (.int a1), some (.int a2), some (.int a3), none], [.ref a0, .ref v25], H)) rfl ?_
      obtain ⟨v29, e29, h⟩ := qv_bind h
      refine qv_getR rfl e29 ?_
      obtain ⟨v32, e32, h⟩ := qv_bind h
      refine qv_getR rfl e32 ?_
      obtain ⟨v35, e35, h⟩ := qv_bind h
      refine qv_getR rfl e35 ?_
      refine qv_run 1 (σ := (39, [some (.ref a0), some (.int a1), some (.int a2), some (.int a3), none], [.int a1, .ref v35, .ref v25], H)) rfl ?_
      obtain ⟨v39, e39, h⟩ := qv_bind h
      refine qv_ald rfl e39 ?_
      refine qv_run 1 (σ := (41, [some (.ref a0), some (.int a1), some (.int a2), some (.int a3), none], [.ref a0, .int v39, .ref v25], H)) rfl ?_
      obtain ⟨v41, e41, h⟩ := qv_bind h
      refine qv_getR rfl e41 ?_
      obtain ⟨v44, e44, h⟩ := qv_bind h
      refine qv_getR rfl e44 ?_
      obtain ⟨v47, e47, h⟩ := qv_bind h
      refine qv_getR rfl e47 ?_
      refine qv_run 1 (σ := (51, [some (.ref a0), some (.int a1), some (.int a2), some (.int a3), none], [.int a1, .ref v47, .int v39, .ref v25], H)) rfl ?_
      obtain ⟨v51, e51, h⟩ := qv_bind h
      refine qv_ald rfl e51 ?_
      refine qv_run 3 (σ := (55, [some (.ref a0), some (.int a1), some (.int a2), some (.int a3), none], [.int a3, .int a2, .int a1, .int v51, .int v39, .ref v25], H)) rfl ?_
      obtain ⟨g55, h⟩ := qv_guard h
      obtain ⟨v55, H55, e55, h⟩ := qv_bind2 h
      refine qv_callV [.int v39, .int v51, .int a1, .int a2, .int a3] rfl rfl rfl (Nat.le_of_ble_eq_true rfl) g55 (th_X9_hear (by omega) e55) (tl_X9_hear e55) ?_
      refine qv_run 2 (σ := (61, [some (.ref a0), some (.int a1), some (.int a2), some (.int a3), some (.int v55)], [.ref a0], H55)) rfl ?_
      obtain ⟨v61, e61, h⟩ := qv_bind h
      refine qv_getR rfl e61 ?_
      obtain ⟨v64, e64, h⟩ := qv_bind h
      refine qv_getI rfl e64 ?_
      refine qv_br (c := v64 = 0) (a := (80, [some (.ref a0), some (.int a1), some (.int a2), some (.int a3), some (.int v55)], [], H55)) (b := (70, [some (.ref a0), some (.int a1), some (.int a2), some (.int a3), some (.int v55)], [], H55)) 1 rfl (fun c67 => ?_) (fun c67 => ?_)
      · replace h := qv_pos c67 h
        refine qv_run 1 (σ := (82, [some (.ref a0), some (.int a1), some (.int a2), some (.int a3), some (.int v55)], [.int v55], H55)) rfl ?_
        obtain ⟨rfl, rfl⟩ := qv_pair h
        exact qv_reti rfl hR
      · replace h := qv_neg c67 h
        refine qv_run 2 (σ := (74, [some (.ref a0), some (.int a1), some (.int a2), some (.int a3), some (.int v55)], [.int (-1000000006), .ref a0], H55)) rfl ?_
        obtain ⟨g74, h⟩ := qv_guard h
        obtain ⟨v74, H74, e74, h⟩ := qv_bind2 h
        refine qv_callV [.int (-1000000006)] rfl rfl rfl (Nat.le_of_ble_eq_true rfl) g74 (th_X10_refuse (by omega) e74) (tl_X10_refuse e74) ?_
        refine qv_run 1 (σ := (82, [some (.ref a0), some (.int a1), some (.int a2), some (.int a3), some (.int v55)], [.int v74], H74)) rfl ?_
        obtain ⟨rfl, rfl⟩ := qv_pair h
        exact qv_reti rfl hR
theorem tlb_X10_voice_0 {st : xT} {r : Int32} {H' : qx_H} (a0 : Nat) (a1 : Int32) (a2 : Int32) (a3 : Int32) (H : qx_H) (h : fm_X10_voice st a0 a1 a2 a3 H = some (r, H')) : H'.length = H.length := by
  unfold fm_X10_voice at h
  by_cases c6 : (fm_X10_isBelow a1 20) = 0
  · replace h := qv_pos c6 h
    exact tlb_X10_voice_17 a0 H h
  · replace h := qv_neg c6 h
    by_cases c14 : (fm_X10_isBelow a2 4) = 0
    · replace h := qv_pos c14 h
      exact tlb_X10_voice_17 a0 H h
    · replace h := qv_neg c14 h
      obtain ⟨v25, e25, h⟩ := qv_bind h
      obtain ⟨v29, e29, h⟩ := qv_bind h
      obtain ⟨v32, e32, h⟩ := qv_bind h
      obtain ⟨v35, e35, h⟩ := qv_bind h
      obtain ⟨v39, e39, h⟩ := qv_bind h
      obtain ⟨v41, e41, h⟩ := qv_bind h
      obtain ⟨v44, e44, h⟩ := qv_bind h
      obtain ⟨v47, e47, h⟩ := qv_bind h
      obtain ⟨v51, e51, h⟩ := qv_bind h
      obtain ⟨g55, h⟩ := qv_guard h
      obtain ⟨v55, H55, e55, h⟩ := qv_bind2 h
      have q_H55 := tl_X9_hear e55
      obtain ⟨v61, e61, h⟩ := qv_bind h
      obtain ⟨v64, e64, h⟩ := qv_bind h
      by_cases c67 : v64 = 0
      · replace h := qv_pos c67 h
        obtain ⟨rfl, rfl⟩ := qv_pair h
        omega
      · replace h := qv_neg c67 h
        obtain ⟨g74, h⟩ := qv_guard h
        obtain ⟨v74, H74, e74, h⟩ := qv_bind2 h
        have q_H74 := tl_X10_refuse e74
        obtain ⟨rfl, rfl⟩ := qv_pair h
        omega
theorem th_X10_voice {st : xT} {d : Nat} (hd : 51 ≤ d) {a0 : Nat} {a1 : Int32} {a2 : Int32} {a3 : Int32} {H : qx_H} {r : Int32} {H' : qx_H} (h : fm_X10_voice st a0 a1 a2 a3 H = some (r, H')) : xE st d 104 [.ref a0, .int a1, .int a2, .int a3] H (some (.int r)) H' := by
  obtain ⟨d, rfl⟩ : ∃ d', d = d' + 1 := ⟨d - 1, by omega⟩
  exact xE_of (xe104 st) xl104 (Nat.le_of_ble_eq_true rfl) (ls := [some (.ref a0), some (.int a1), some (.int a2), some (.int a3), none]) rfl (tb_X10_voice_0 (by omega) ⟨rfl, rfl⟩ a0 a1 a2 a3 H h)
theorem tl_X10_voice {st : xT} {a0 : Nat} {a1 : Int32} {a2 : Int32} {a3 : Int32} {H : qx_H} {r : Int32} {H' : qx_H} (h : fm_X10_voice st a0 a1 a2 a3 H = some (r, H')) : H'.length = H.length := tlb_X10_voice_0 a0 a1 a2 a3 H h
def fm_X10_body (a0 : Nat) (a1 : Int32) (H : qx_H) : Option (Int32 × qx_H) := (hp_gR H a0 8 7).bind fun v2 => (hp_gI H v2 7 1).bind fun v5 => if (fm_X10_isBelow a1 v5) = 0 then (if hp_is H a0 8 = true then (ob2 (fm_X10_refuse a0 (-1000000002) H) fun v17 H17 => some (v17, H17)) else none) else ((hp_gR H a0 8 7).bind fun v22 => (hp_gR H v22 7 0).bind fun v25 => (hp_ald H v25 a1).bind fun v29 => some (v29, H))
theorem tb_X10_body_0 {st : xT} {d : Nat} {R : Option Value → qx_H → Prop} (hd : 2 ≤ d) {r : Int32} {H' : qx_H} (hR : R (some (.int r)) H') (a0 : Nat) (a1 : Int32) (H : qx_H) (h : fm_X10_body a0 a1 H = some (r, H')) : qx_V (xE st d) R (xc105 st) (0, [some (.ref a0), some (.int a1)], [], H) := by
  unfold fm_X10_body at h
  refine qv_run 2 (σ := (2, [some (.ref a0), some (.int a1)], [.ref a0, .int a1], H)) rfl ?_
  obtain ⟨v2, e2, h⟩ := qv_bind h
  refine qv_getR rfl e2 ?_
  obtain ⟨v5, e5, h⟩ := qv_bind h
  refine qv_getI rfl e5 ?_
  refine qv_call [.int a1, .int v5] rfl rfl rfl (Nat.le_of_ble_eq_true rfl) (th_X10_isBelow (by omega) rfl) rfl ?_
  refine qv_br (c := (fm_X10_isBelow a1 v5) = 0) (a := (14, [some (.ref a0), some (.int a1)], [], H)) (b := (21, [some (.ref a0), some (.int a1)], [], H)) 1 rfl (fun c11 => ?_) (fun c11 => ?_)
  · replace h := qv_pos c11 h
    refine qv_run 2 (σ := (17, [some (.ref a0), some (.int a1)], [.int (-1000000002), .ref a0], H)) rfl ?_
    obtain ⟨g17, h⟩ := qv_guard h
    obtain ⟨v17, H17, e17, h⟩ := qv_bind2 h
    refine qv_callV [.int (-1000000002)] rfl rfl rfl (Nat.le_of_ble_eq_true rfl) g17 (th_X10_refuse (by omega) e17) (tl_X10_refuse e17) ?_
    obtain ⟨rfl, rfl⟩ := qv_pair h
    exact qv_reti rfl hR
  · replace h := qv_neg c11 h
    refine qv_run 1 (σ := (22, [some (.ref a0), some (.int a1)], [.ref a0], H)) rfl ?_
    obtain ⟨v22, e22, h⟩ := qv_bind h
    refine qv_getR rfl e22 ?_
    obtain ⟨v25, e25, h⟩ := qv_bind h
    refine qv_getR rfl e25 ?_
    refine qv_run 1 (σ := (29, [some (.ref a0), some (.int a1)], [.int a1, .ref v25], H)) rfl ?_
    obtain ⟨v29, e29, h⟩ := qv_bind h
    refine qv_ald rfl e29 ?_
    obtain ⟨rfl, rfl⟩ := qv_pair h
    exact qv_reti rfl hR
theorem tlb_X10_body_0 {r : Int32} {H' : qx_H} (a0 : Nat) (a1 : Int32) (H : qx_H) (h : fm_X10_body a0 a1 H = some (r, H')) : H'.length = H.length := by
  unfold fm_X10_body at h
  obtain ⟨v2, e2, h⟩ := qv_bind h
  obtain ⟨v5, e5, h⟩ := qv_bind h
  by_cases c11 : (fm_X10_isBelow a1 v5) = 0
  · replace h := qv_pos c11 h
    obtain ⟨g17, h⟩ := qv_guard h
    obtain ⟨v17, H17, e17, h⟩ := qv_bind2 h
    have q_H17 := tl_X10_refuse e17
    obtain ⟨rfl, rfl⟩ := qv_pair h
    omega
  · replace h := qv_neg c11 h
    obtain ⟨v22, e22, h⟩ := qv_bind h
    obtain ⟨v25, e25, h⟩ := qv_bind h
    obtain ⟨v29, e29, h⟩ := qv_bind h
    obtain ⟨rfl, rfl⟩ := qv_pair h
    rfl
theorem th_X10_body {st : xT} {d : Nat} (hd : 3 ≤ d) {a0 : Nat} {a1 : Int32} {H : qx_H} {r : Int32} {H' : qx_H} (h : fm_X10_body a0 a1 H = some (r, H')) : xE st d 105 [.ref a0, .int a1] H (some (.int r)) H' := by
  obtain ⟨d, rfl⟩ : ∃ d', d = d' + 1 := ⟨d - 1, by omega⟩
  exact xE_of (xe105 st) xl105 (Nat.le_of_ble_eq_true rfl) (ls := [some (.ref a0), some (.int a1)]) rfl (tb_X10_body_0 (by omega) ⟨rfl, rfl⟩ a0 a1 H h)
theorem tl_X10_body {a0 : Nat} {a1 : Int32} {H : qx_H} {r : Int32} {H' : qx_H} (h : fm_X10_body a0 a1 H = some (r, H')) : H'.length = H.length := tlb_X10_body_0 a0 a1 H h
def fm_X10_sheet_b30 (l0 : Nat) (H : qx_H) : Option (Int32 × qx_H) := if hp_is H l0 8 = true then (ob2 (fm_X10_refuse l0 (-1000000001) H) fun v33 H33 => some (v33, H33)) else none
def fm_X10_sheet_b69 (l0 : Nat) (l1 : Int32) (l2 : Int32) (l3 : Int32) (H : qx_H) : Option (Int32 × qx_H) := (hp_gR H l0 8 8).bind fun v70 => (hp_ra H v70 l1).bind fun v74 => if hp_is H v74 5 = true then ((fm_X7_begin v74 l2 (if l2 = 0 then 0 else l3) H).bind fun H85 => some (1, H85)) else none
def fm_X10_sheet_b52 (l0 : Nat) (l1 : Int32) (l2 : Int32) (l3 : Int32) (H : qx_H) : Option (Int32 × qx_H) := if l2 = 0 then (fm_X10_sheet_b69 l0 l1 l2 l3 H) else (if l3 ≤ 40 then (fm_X10_sheet_b69 l0 l1 l2 l3 H) else (if hp_is H l0 8 = true then (ob2 (fm_X10_refuse l0 (-1000000001) H) fun v65 H65 => some (v65, H65)) else none))
def fm_X10_sheet_b37 (l0 : Nat) (l1 : Int32) (l2 : Int32) (l3 : Int32) (H : qx_H) : Option (Int32 × qx_H) := if l2 = 0 then (fm_X10_sheet_b52 l0 l1 l2 l3 H) else (if 0 ≤ l3 then (fm_X10_sheet_b52 l0 l1 l2 l3 H) else (if hp_is H l0 8 = true then (ob2 (fm_X10_refuse l0 (-1000000003) H) fun v48 H48 => some (v48, H48)) else none))
def fm_X10_sheet (a0 : Nat) (a1 : Int32) (a2 : Int32) (a3 : Int32) (H : qx_H) : Option (Int32 × qx_H) := if (fm_X10_isBelow a1 4) = 0 then (fm_X10_sheet_b30 a0 H) else (if a2 = 0 then (fm_X10_sheet_b37 a0 a1 a2 a3 H) else (if a2 = 8 then (fm_X10_sheet_b37 a0 a1 a2 a3 H) else (if a2 = 16 then (fm_X10_sheet_b37 a0 a1 a2 a3 H) else (if a2 = 32 then (fm_X10_sheet_b37 a0 a1 a2 a3 H) else (fm_X10_sheet_b30 a0 H)))))
theorem tb_X10_sheet_30 {st : xT} {d : Nat} {R : Option Value → qx_H → Prop} (hd : 2 ≤ d) {r : Int32} {H' : qx_H} (hR : R (some (.int r)) H') (l0 : Nat) (z1 : Option Value) (hz1 : qx_ns z1 = true) (z2 : Option Value) (hz2 : qx_ns z2 = true) (z3 : Option Value) (hz3 : qx_ns z3 = true) (H : qx_H) (h : fm_X10_sheet_b30 l0 H = some (r, H')) : qx_V (xE st d) R (xc106 st) (30, [some (.ref l0), z1, z2, z3], [], H) := by
  unfold fm_X10_sheet_b30 at h
  refine qv_run 2 (σ := (33, [some (.ref l0), z1, z2, z3], [.int (-1000000001), .ref l0], H)) rfl ?_
  obtain ⟨g33, h⟩ := qv_guard h
  obtain ⟨v33, H33, e33, h⟩ := qv_bind2 h
  refine qv_callV [.int (-1000000001)] rfl rfl rfl (Nat.le_of_ble_eq_true rfl) g33 (th_X10_refuse (by omega) e33) (tl_X10_refuse e33) ?_
  obtain ⟨rfl, rfl⟩ := qv_pair h
  exact qv_reti rfl hR
theorem tlb_X10_sheet_30 {r : Int32} {H' : qx_H} (l0 : Nat) (H : qx_H) (h : fm_X10_sheet_b30 l0 H = some (r, H')) : H'.length = H.length := by
  unfold fm_X10_sheet_b30 at h
  obtain ⟨g33, h⟩ := qv_guard h
  obtain ⟨v33, H33, e33, h⟩ := qv_bind2 h
  have q_H33 := tl_X10_refuse e33
  obtain ⟨rfl, rfl⟩ := qv_pair h
  omega
theorem tb_X10_sheet_69 {st : xT} {d : Nat} {R : Option Value → qx_H → Prop} (hd : 2 ≤ d) {r : Int32} {H' : qx_H} (hR : R (some (.int r)) H') (l0 : Nat) (l1 : Int32) (l2 : Int32) (l3 : Int32) (H : qx_H) (h : fm_X10_sheet_b69 l0 l1 l2 l3 H = some (r, H')) : qx_V (xE st d) R (xc106 st) (69, [some (.ref l0), some (.int l1), some (.int l2), some (.int l3)], [], H) := by
  unfold fm_X10_sheet_b69 at h
  refine qv_run 1 (σ := (70, [some (.ref l0), some (.int l1), some (.int l2), some (.int l3)], [.ref l0], H)) rfl ?_
  obtain ⟨v70, e70, h⟩ := qv_bind h
  refine qv_getR rfl e70 ?_
  refine qv_run 1 (σ := (74, [some (.ref l0), some (.int l1), some (.int l2), some (.int l3)], [.int l1, .ref v70], H)) rfl ?_
  obtain ⟨v74, e74, h⟩ := qv_bind h
  refine qv_ra rfl e74 ?_
  refine qv_dia (c := l2 = 0) (a := (80, [some (.ref l0), some (.int l1), some (.int l2), some (.int l3)], [.int l2, .ref v74], H)) (b := (84, [some (.ref l0), some (.int l1), some (.int l2), some (.int l3)], [.int l2, .ref v74], H)) (σ' := (85, [some (.ref l0), some (.int l1), some (.int l2), some (.int l3)], [.int (if l2 = 0 then 0 else l3), .int l2, .ref v74], H)) 3 rfl ?_ (fun c77 kk => qv_run 2 (σ := (85, [some (.ref l0), some (.int l1), some (.int l2), some (.int l3)], [.int 0, .int l2, .ref v74], H)) rfl (qv_eq (by simp only [if_pos c77]) kk)) (fun c77 kk => qv_run 1 (σ := (85, [some (.ref l0), some (.int l1), some (.int l2), some (.int l3)], [.int l3, .int l2, .ref v74], H)) rfl (qv_eq (by simp only [if_neg c77]) kk))
  obtain ⟨g85, h⟩ := qv_guard h
  obtain ⟨H85, e85, h⟩ := qv_bind h
  refine qv_callV [.int l2, .int (if l2 = 0 then 0 else l3)] rfl rfl rfl (Nat.le_of_ble_eq_true rfl) g85 (th_X7_begin (by omega) e85) (tl_X7_begin e85) ?_
  refine qv_run 1 (σ := (89, [some (.ref l0), some (.int l1), some (.int l2), some (.int l3)], [.int 1], H85)) rfl ?_
  obtain ⟨rfl, rfl⟩ := qv_pair h
  exact qv_reti rfl hR
theorem tlb_X10_sheet_69 {r : Int32} {H' : qx_H} (l0 : Nat) (l1 : Int32) (l2 : Int32) (l3 : Int32) (H : qx_H) (h : fm_X10_sheet_b69 l0 l1 l2 l3 H = some (r, H')) : H'.length = H.length := by
  unfold fm_X10_sheet_b69 at h
  obtain ⟨v70, e70, h⟩ := qv_bind h
  obtain ⟨v74, e74, h⟩ := qv_bind h
  obtain ⟨g85, h⟩ := qv_guard h
  obtain ⟨H85, e85, h⟩ := qv_bind h
  have q_H85 := tl_X7_begin e85
  obtain ⟨rfl, rfl⟩ := qv_pair h
  omega
theorem tb_X10_sheet_52 {st : xT} {d : Nat} {R : Option Value → qx_H → Prop} (hd : 2 ≤ d) {r : Int32} {H' : qx_H} (hR : R (some (.int r)) H') (l0 : Nat) (l1 : Int32) (l2 : Int32) (l3 : Int32) (H : qx_H) (h : fm_X10_sheet_b52 l0 l1 l2 l3 H = some (r, H')) : qx_V (xE st d) R (xc106 st) (52, [some (.ref l0), some (.int l1), some (.int l2), some (.int l3)], [], H) := by
  unfold fm_X10_sheet_b52 at h
  refine qv_br (c := l2 = 0) (a := (69, [some (.ref l0), some (.int l1), some (.int l2), some (.int l3)], [], H)) (b := (56, [some (.ref l0), some (.int l1), some (.int l2), some (.int l3)], [], H)) 2 rfl (fun c53 => ?_) (fun c53 => ?_)
  · replace h := qv_pos c53 h
    exact tb_X10_sheet_69 hd hR l0 l1 l2 l3 H h
  · replace h := qv_neg c53 h
    refine qv_br (c := l3 ≤ 40) (a := (69, [some (.ref l0), some (.int l1), some (.int l2), some (.int l3)], [], H)) (b := (62, [some (.ref l0), some (.int l1), some (.int l2), some (.int l3)], [], H)) 3 rfl (fun c59 => ?_) (fun c59 => ?_)
    · replace h := qv_pos c59 h
      exact tb_X10_sheet_69 hd hR l0 l1 l2 l3 H h
    · replace h := qv_neg c59 h
      refine qv_run 2 (σ := (65, [some (.ref l0), some (.int l1), some (.int l2), some (.int l3)], [.int (-1000000001), .ref l0], H)) rfl ?_
      obtain ⟨g65, h⟩ := qv_guard h
      obtain ⟨v65, H65, e65, h⟩ := qv_bind2 h
      refine qv_callV [.int (-1000000001)] rfl rfl rfl (Nat.le_of_ble_eq_true rfl) g65 (th_X10_refuse (by omega) e65) (tl_X10_refuse e65) ?_
      obtain ⟨rfl, rfl⟩ := qv_pair h
      exact qv_reti rfl hR
theorem tlb_X10_sheet_52 {r : Int32} {H' : qx_H} (l0 : Nat) (l1 : Int32) (l2 : Int32) (l3 : Int32) (H : qx_H) (h : fm_X10_sheet_b52 l0 l1 l2 l3 H = some (r, H')) : H'.length = H.length := by
  unfold fm_X10_sheet_b52 at h
  by_cases c53 : l2 = 0
  · replace h := qv_pos c53 h
    exact tlb_X10_sheet_69 l0 l1 l2 l3 H h
  · replace h := qv_neg c53 h
    by_cases c59 : l3 ≤ 40
    · replace h := qv_pos c59 h
      exact tlb_X10_sheet_69 l0 l1 l2 l3 H h
    · replace h := qv_neg c59 h
      obtain ⟨g65, h⟩ := qv_guard h
      obtain ⟨v65, H65, e65, h⟩ := qv_bind2 h
      have q_H65 := tl_X10_refuse e65
      obtain ⟨rfl, rfl⟩ := qv_pair h
      omega
theorem tb_X10_sheet_37 {st : xT} {d : Nat} {R : Option Value → qx_H → Prop} (hd : 2 ≤ d) {r : Int32} {H' : qx_H} (hR : R (some (.int r)) H') (l0 : Nat) (l1 : Int32) (l2 : Int32) (l3 : Int32) (H : qx_H) (h : fm_X10_sheet_b37 l0 l1 l2 l3 H = some (r, H')) : qx_V (xE st d) R (xc106 st) (37, [some (.ref l0), some (.int l1), some (.int l2), some (.int l3)], [], H) := by
  unfold fm_X10_sheet_b37 at h
  refine qv_br (c := l2 = 0) (a := (52, [some (.ref l0), some (.int l1), some (.int l2), some (.int l3)], [], H)) (b := (41, [some (.ref l0), some (.int l1), some (.int l2), some (.int l3)], [], H)) 2 rfl (fun c38 => ?_) (fun c38 => ?_)
  · replace h := qv_pos c38 h
    exact tb_X10_sheet_52 hd hR l0 l1 l2 l3 H h
  · replace h := qv_neg c38 h
    refine qv_br (c := 0 ≤ l3) (a := (52, [some (.ref l0), some (.int l1), some (.int l2), some (.int l3)], [], H)) (b := (45, [some (.ref l0), some (.int l1), some (.int l2), some (.int l3)], [], H)) 2 rfl (fun c42 => ?_) (fun c42 => ?_)
    · replace h := qv_pos c42 h
      exact tb_X10_sheet_52 hd hR l0 l1 l2 l3 H h
    · replace h := qv_neg c42 h
      refine qv_run 2 (σ := (48, [some (.ref l0), some (.int l1), some (.int l2), some (.int l3)], [.int (-1000000003), .ref l0], H)) rfl ?_
      obtain ⟨g48, h⟩ := qv_guard h
      obtain ⟨v48, H48, e48, h⟩ := qv_bind2 h
      refine qv_callV [.int (-1000000003)] rfl rfl rfl (Nat.le_of_ble_eq_true rfl) g48 (th_X10_refuse (by omega) e48) (tl_X10_refuse e48) ?_
      obtain ⟨rfl, rfl⟩ := qv_pair h
      exact qv_reti rfl hR
theorem tlb_X10_sheet_37 {r : Int32} {H' : qx_H} (l0 : Nat) (l1 : Int32) (l2 : Int32) (l3 : Int32) (H : qx_H) (h : fm_X10_sheet_b37 l0 l1 l2 l3 H = some (r, H')) : H'.length = H.length := by
  unfold fm_X10_sheet_b37 at h
  by_cases c38 : l2 = 0
  · replace h := qv_pos c38 h
    exact tlb_X10_sheet_52 l0 l1 l2 l3 H h
  · replace h := qv_neg c38 h
    by_cases c42 : 0 ≤ l3
    · replace h := qv_pos c42 h
      exact tlb_X10_sheet_52 l0 l1 l2 l3 H h
    · replace h := qv_neg c42 h
      obtain ⟨g48, h⟩ := qv_guard h
      obtain ⟨v48, H48, e48, h⟩ := qv_bind2 h
      have q_H48 := tl_X10_refuse e48
      obtain ⟨rfl, rfl⟩ := qv_pair h
      omega
theorem tb_X10_sheet_0 {st : xT} {d : Nat} {R : Option Value → qx_H → Prop} (hd : 2 ≤ d) {r : Int32} {H' : qx_H} (hR : R (some (.int r)) H') (a0 : Nat) (a1 : Int32) (a2 : Int32) (a3 : Int32) (H : qx_H) (h : fm_X10_sheet a0 a1 a2 a3 H = some (r, H')) : qx_V (xE st d) R (xc106 st) (0, [some (.ref a0), some (.int a1), some (.int a2), some (.int a3)], [], H) := by
  unfold fm_X10_sheet at h
  refine qv_run 2 (σ := (2, [some (.ref a0), some (.int a1), some (.int a2), some (.int a3)], [.int 4, .int a1], H)) rfl ?_
  refine qv_call [.int a1, .int 4] rfl rfl rfl (Nat.le_of_ble_eq_true rfl) (th_X10_isBelow (by omega) rfl) rfl ?_
  refine qv_br (c := (fm_X10_isBelow a1 4) = 0) (a := (30, [some (.ref a0), some (.int a1), some (.int a2), some (.int a3)], [], H)) (b := (8, [some (.ref a0), some (.int a1), some (.int a2), some (.int a3)], [], H)) 1 rfl (fun c5 => ?_) (fun c5 => ?_)
  · replace h := qv_pos c5 h
    exact tb_X10_sheet_30 hd hR a0 (some (.int a1)) rfl (some (.int a2)) rfl (some (.int a3)) rfl H h
  · replace h := qv_neg c5 h
    refine qv_br (c := a2 = 0) (a := (37, [some (.ref a0), some (.int a1), some (.int a2), some (.int a3)], [], H)) (b := (12, [some (.ref a0), some (.int a1), some (.int a2), some (.int a3)], [], H)) 2 rfl (fun c9 => ?_) (fun c9 => ?_)
    · replace h := qv_pos c9 h
      exact tb_X10_sheet_37 hd hR a0 a1 a2 a3 H h
    · replace h := qv_neg c9 h
      refine qv_br (c := a2 = 8) (a := (37, [some (.ref a0), some (.int a1), some (.int a2), some (.int a3)], [], H)) (b := (18, [some (.ref a0), some (.int a1), some (.int a2), some (.int a3)], [], H)) 3 rfl (fun c15 => ?_) (fun c15 => ?_)
      · replace h := qv_pos c15 h
        exact tb_X10_sheet_37 hd hR a0 a1 a2 a3 H h
      · replace h := qv_neg c15 h
        refine qv_br (c := a2 = 16) (a := (37, [some (.ref a0), some (.int a1), some (.int a2), some (.int a3)], [], H)) (b := (24, [some (.ref a0), some (.int a1), some (.int a2), some (.int a3)], [], H)) 3 rfl (fun c21 => ?_) (fun c21 => ?_)
        · replace h := qv_pos c21 h
          exact tb_X10_sheet_37 hd hR a0 a1 a2 a3 H h
        · replace h := qv_neg c21 h
          refine qv_br (c := a2 = 32) (a := (37, [some (.ref a0), some (.int a1), some (.int a2), some (.int a3)], [], H)) (b := (30, [some (.ref a0), some (.int a1), some (.int a2), some (.int a3)], [], H)) 3 rfl (fun c27 => ?_) (fun c27 => ?_)
          · replace h := qv_pos c27 h
            exact tb_X10_sheet_37 hd hR a0 a1 a2 a3 H h
          · replace h := qv_neg c27 h
            exact tb_X10_sheet_30 hd hR a0 (some (.int a1)) rfl (some (.int a2)) rfl (some (.int a3)) rfl H h
theorem tlb_X10_sheet_0 {r : Int32} {H' : qx_H} (a0 : Nat) (a1 : Int32) (a2 : Int32) (a3 : Int32) (H : qx_H) (h : fm_X10_sheet a0 a1 a2 a3 H = some (r, H')) : H'.length = H.length := by
  unfold fm_X10_sheet at h
  by_cases c5 : (fm_X10_isBelow a1 4) = 0
  · replace h := qv_pos c5 h
    exact tlb_X10_sheet_30 a0 H h
  · replace h := qv_neg c5 h
    by_cases c9 : a2 = 0
    · replace h := qv_pos c9 h
      exact tlb_X10_sheet_37 a0 a1 a2 a3 H h
    · replace h := qv_neg c9 h
      by_cases c15 : a2 = 8
      · replace h := qv_pos c15 h
        exact tlb_X10_sheet_37 a0 a1 a2 a3 H h
      · replace h := qv_neg c15 h
        by_cases c21 : a2 = 16
        · replace h := qv_pos c21 h
          exact tlb_X10_sheet_37 a0 a1 a2 a3 H h
        · replace h := qv_neg c21 h
          by_cases c27 : a2 = 32
          · replace h := qv_pos c27 h
            exact tlb_X10_sheet_37 a0 a1 a2 a3 H h
          · replace h := qv_neg c27 h
            exact tlb_X10_sheet_30 a0 H h
theorem th_X10_sheet {st : xT} {d : Nat} (hd : 3 ≤ d) {a0 : Nat} {a1 : Int32} {a2 : Int32} {a3 : Int32} {H : qx_H} {r : Int32} {H' : qx_H} (h : fm_X10_sheet a0 a1 a2 a3 H = some (r, H')) : xE st d 106 [.ref a0, .int a1, .int a2, .int a3] H (some (.int r)) H' := by
  obtain ⟨d, rfl⟩ : ∃ d', d = d' + 1 := ⟨d - 1, by omega⟩
  exact xE_of (xe106 st) xl106 (Nat.le_of_ble_eq_true rfl) (ls := [some (.ref a0), some (.int a1), some (.int a2), some (.int a3)]) rfl (tb_X10_sheet_0 (by omega) ⟨rfl, rfl⟩ a0 a1 a2 a3 H h)
theorem tl_X10_sheet {a0 : Nat} {a1 : Int32} {a2 : Int32} {a3 : Int32} {H : qx_H} {r : Int32} {H' : qx_H} (h : fm_X10_sheet a0 a1 a2 a3 H = some (r, H')) : H'.length = H.length := tlb_X10_sheet_0 a0 a1 a2 a3 H h
def fm_X10_put (a0 : Nat) (a1 : Int32) (a2 : Int32) (a3 : Int32) (H : qx_H) : Option (Int32 × qx_H) := if (fm_X10_isBelow a1 4) = 0 then (if hp_is H a0 8 = true then (ob2 (fm_X10_refuse a0 (-1000000001) H) fun v11 H11 => some (v11, H11)) else none) else ((hp_gR H a0 8 8).bind fun v16 => (hp_ra H v16 a1).bind fun v20 => if hp_is H v20 5 = true then ((fm_X7_isMissing v20 H).bind fun v25 => if v25 = 0 then ((hp_gI H v20 5 2).bind fun v41 => if (fm_X10_isBelow a2 v41) = 0 then (if hp_is H a0 8 = true then (ob2 (fm_X10_refuse a0 (-1000000001) H) fun v53 H53 => some (v53, H53)) else none) else ((fm_X7_write v20 a2 a3 H).bind fun H61 => some (1, H61))) else (if hp_is H a0 8 = true then (ob2 (fm_X10_refuse a0 (-1000000002) H) fun v34 H34 => some (v34, H34)) else none)) else none)
theorem tb_X10_put_0 {st : xT} {d : Nat} {R : Option Value → qx_H → Prop} (hd : 2 ≤ d) {r : Int32} {H' : qx_H} (hR : R (some (.int r)) H') (a0 : Nat) (a1 : Int32) (a2 : Int32) (a3 : Int32) (H : qx_H) (h : fm_X10_put a0 a1 a2 a3 H = some (r, H')) : qx_V (xE st d) R (xc107 st) (0, [some (.ref a0), some (.int a1), some (.int a2), some (.int a3), none], [], H) := by
  unfold fm_X10_put at h
  refine qv_run 2 (σ := (2, [some (.ref a0), some (.int a1), some (.int a2), some (.int a3), none], [.int 4, .int a1], H)) rfl ?_
  refine qv_call [.int a1, .int 4] rfl rfl rfl (Nat.le_of_ble_eq_true rfl) (th_X10_isBelow (by omega) rfl) rfl ?_
  refine qv_br (c := (fm_X10_isBelow a1 4) = 0) (a := (8, [some (.ref a0), some (.int a1), some (.int a2), some (.int a3), none], [], H)) (b := (15, [some (.ref a0), some (.int a1), some (.int a2), some (.int a3), none], [], H)) 1 rfl (fun c5 => ?_) (fun c5 => ?_)
  · replace h := qv_pos c5 h
    refine qv_run 2 (σ := (11, [some (.ref a0), some (.int a1), some (.int a2), some (.int a3), none], [.int (-1000000001), .ref a0], H)) rfl ?_
    obtain ⟨g11, h⟩ := qv_guard h
    obtain ⟨v11, H11, e11, h⟩ := qv_bind2 h
    refine qv_callV [.int (-1000000001)] rfl rfl rfl (Nat.le_of_ble_eq_true rfl) g11 (th_X10_refuse (by omega) e11) (tl_X10_refuse e11) ?_
    obtain ⟨rfl, rfl⟩ := qv_pair h
    exact qv_reti rfl hR
  · replace h := qv_neg c5 h
    refine qv_run 1 (σ := (16, [some (.ref a0), some (.int a1), some (.int a2), some (.int a3), none], [.ref a0], H)) rfl ?_
    obtain ⟨v16, e16, h⟩ := qv_bind h
    refine qv_getR rfl e16 ?_
    refine qv_run 1 (σ := (20, [some (.ref a0), some (.int a1), some (.int a2), some (.int a3), none], [.int a1, .ref v16], H)) rfl ?_
    obtain ⟨v20, e20, h⟩ := qv_bind h
    refine qv_ra rfl e20 ?_
    refine qv_run 2 (σ := (25, [some (.ref a0), some (.int a1), some (.int a2), some (.int a3), some (.ref v20)], [.ref v20], H)) rfl ?_
    obtain ⟨g25, h⟩ := qv_guard h
    obtain ⟨v25, e25, h⟩ := qv_bind h
    refine qv_callV [] rfl rfl rfl (Nat.le_of_ble_eq_true rfl) g25 (th_X7_isMissing (by omega) e25) rfl ?_
    refine qv_br (c := v25 = 0) (a := (38, [some (.ref a0), some (.int a1), some (.int a2), some (.int a3), some (.ref v20)], [], H)) (b := (31, [some (.ref a0), some (.int a1), some (.int a2), some (.int a3), some (.ref v20)], [], H)) 1 rfl (fun c28 => ?_) (fun c28 => ?_)
    · replace h := qv_pos c28 h
      refine qv_run 2 (σ := (41, [some (.ref a0), some (.int a1), some (.int a2), some (.int a3), some (.ref v20)], [.ref v20, .int a2], H)) rfl ?_
      obtain ⟨v41, e41, h⟩ := qv_bind h
      refine qv_getI rfl e41 ?_
      refine qv_call [.int a2, .int v41] rfl rfl rfl (Nat.le_of_ble_eq_true rfl) (th_X10_isBelow (by omega) rfl) rfl ?_
      refine qv_br (c := (fm_X10_isBelow a2 v41) = 0) (a := (50, [some (.ref a0), some (.int a1), some (.int a2), some (.int a3), some (.ref v20)], [], H)) (b := (57, [some (.ref a0), some (.int a1), some (.int a2), some (.int a3), some (.ref v20)], [], H)) 1 rfl (fun c47 => ?_) (fun c47 => ?_)
      · replace h := qv_pos c47 h
        refine qv_run 2 (σ := (53, [some (.ref a0), some (.int a1), some (.int a2), some (.int a3), some (.ref v20)], [.int (-1000000001), .ref a0], H)) rfl ?_
        obtain ⟨g53, h⟩ := qv_guard h
        obtain ⟨v53, H53, e53, h⟩ := qv_bind2 h
        refine qv_callV [.int (-1000000001)] rfl rfl rfl (Nat.le_of_ble_eq_true rfl) g53 (th_X10_refuse (by omega) e53) (tl_X10_refuse e53) ?_
        obtain ⟨rfl, rfl⟩ := qv_pair h
        exact qv_reti rfl hR
      · replace h := qv_neg c47 h
        refine qv_run 3 (σ := (61, [some (.ref a0), some (.int a1), some (.int a2), some (.int a3), some (.ref v20)], [.int a3, .int a2, .ref v20], H)) rfl ?_
        obtain ⟨H61, e61, h⟩ := qv_bind h
        refine qv_callV [.int a2, .int a3] rfl rfl rfl (Nat.le_of_ble_eq_true rfl) g25 (th_X7_write (by omega) e61) (tl_X7_write e61) ?_
        refine qv_run 1 (σ := (65, [some (.ref a0), some (.int a1), some (.int a2), some (.int a3), some (.ref v20)], [.int 1], H61)) rfl ?_
        obtain ⟨rfl, rfl⟩ := qv_pair h
        exact qv_reti rfl hR
    · replace h := qv_neg c28 h
      refine qv_run 2 (σ := (34, [some (.ref a0), some (.int a1), some (.int a2), some (.int a3), some (.ref v20)], [.int (-1000000002), .ref a0], H)) rfl ?_
      obtain ⟨g34, h⟩ := qv_guard h
      obtain ⟨v34, H34, e34, h⟩ := qv_bind2 h
      refine qv_callV [.int (-1000000002)] rfl rfl rfl (Nat.le_of_ble_eq_true rfl) g34 (th_X10_refuse (by omega) e34) (tl_X10_refuse e34) ?_
      obtain ⟨rfl, rfl⟩ := qv_pair h
      exact qv_reti rfl hR
theorem tlb_X10_put_0 {r : Int32} {H' : qx_H} (a0 : Nat) (a1 : Int32) (a2 : Int32) (a3 : Int32) (H : qx_H) (h : fm_X10_put a0 a1 a2 a3 H = some (r, H')) : H'.length = H.length := by
  unfold fm_X10_put at h
  by_cases c5 : (fm_X10_isBelow a1 4) = 0
  · replace h := qv_pos c5 h
    obtain ⟨g11, h⟩ := qv_guard h
    obtain ⟨v11, H11, e11, h⟩ := qv_bind2 h
    have q_H11 := tl_X10_refuse e11
    obtain ⟨rfl, rfl⟩ := qv_pair h
    omega
  · replace h := qv_neg c5 h
    obtain ⟨v16, e16, h⟩ := qv_bind h
    obtain ⟨v20, e20, h⟩ := qv_bind h
    obtain ⟨g25, h⟩ := qv_guard h
    obtain ⟨v25, e25, h⟩ := qv_bind h
    by_cases c28 : v25 = 0
    · replace h := qv_pos c28 h
      obtain ⟨v41, e41, h⟩ := qv_bind h
      by_cases c47 : (fm_X10_isBelow a2 v41) = 0
      · replace h := qv_pos c47 h
        obtain ⟨g53, h⟩ := qv_guard h
        obtain ⟨v53, H53, e53, h⟩ := qv_bind2 h
        have q_H53 := tl_X10_refuse e53
        obtain ⟨rfl, rfl⟩ := qv_pair h
        omega
      · replace h := qv_neg c47 h
        obtain ⟨H61, e61, h⟩ := qv_bind h
        have q_H61 := tl_X7_write e61
        obtain ⟨rfl, rfl⟩ := qv_pair h
        omega
    · replace h := qv_neg c28 h
      obtain ⟨g34, h⟩ := qv_guard h
      obtain ⟨v34, H34, e34, h⟩ := qv_bind2 h
      have q_H34 := tl_X10_refuse e34
      obtain ⟨rfl, rfl⟩ := qv_pair h
      omega
theorem th_X10_put {st : xT} {d : Nat} (hd : 3 ≤ d) {a0 : Nat} {a1 : Int32} {a2 : Int32} {a3 : Int32} {H : qx_H} {r : Int32} {H' : qx_H} (h : fm_X10_put a0 a1 a2 a3 H = some (r, H')) : xE st d 107 [.ref a0, .int a1, .int a2, .int a3] H (some (.int r)) H' := by
  obtain ⟨d, rfl⟩ : ∃ d', d = d' + 1 := ⟨d - 1, by omega⟩
  exact xE_of (xe107 st) xl107 (Nat.le_of_ble_eq_true rfl) (ls := [some (.ref a0), some (.int a1), some (.int a2), some (.int a3), none]) rfl (tb_X10_put_0 (by omega) ⟨rfl, rfl⟩ a0 a1 a2 a3 H h)
theorem tl_X10_put {a0 : Nat} {a1 : Int32} {a2 : Int32} {a3 : Int32} {H : qx_H} {r : Int32} {H' : qx_H} (h : fm_X10_put a0 a1 a2 a3 H = some (r, H')) : H'.length = H.length := tlb_X10_put_0 a0 a1 a2 a3 H h
