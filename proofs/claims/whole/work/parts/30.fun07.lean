def fm_X11_threadIs_b25 (l0 : Nat) (H : qx_H) : Option (Int32 × qx_H) := if hp_is H l0 9 = true then (ob2 (fm_X11_error l0 1 H) fun v27 H27 => some (v27, H27)) else none
def fm_X11_threadIs (a0 : Nat) (a1 : Int32) (a2 : Int32) (H : qx_H) : Option (Int32 × qx_H) := if (fm_X11_isThread a1) = 0 then (fm_X11_threadIs_b25 a0 H) else (if (fm_X11_in a2 0 5) = 0 then (fm_X11_threadIs_b25 a0 H) else (if hp_is H a0 9 = true then (ob2 (fm_X11_toldThread a0 a1 a2 H) fun v19 H19 => some (v19, H19)) else none))
theorem tb_X11_threadIs_25 {st : xT} {d : Nat} {R : Option Value → qx_H → Prop} (hd : 6 ≤ d) {r : Int32} {H' : qx_H} (hR : R (some (.int r)) H') (l0 : Nat) (z1 : Option Value) (hz1 : qx_ns z1 = true) (z2 : Option Value) (hz2 : qx_ns z2 = true) (H : qx_H) (h : fm_X11_threadIs_b25 l0 H = some (r, H')) : qx_V (xE st d) R (xc172 st) (25, [some (.ref l0), z1, z2], [], H) := by
  unfold fm_X11_threadIs_b25 at h
  refine qv_run 2 (σ := (27, [some (.ref l0), z1, z2], [.int 1, .ref l0], H)) rfl ?_
  obtain ⟨g27, h⟩ := qv_guard h
  obtain ⟨v27, H27, e27, h⟩ := qv_bind2 h
  refine qv_callV [.int 1] rfl rfl rfl (Nat.le_of_ble_eq_true rfl) g27 (th_X11_error (by omega) e27) (tl_X11_error e27) ?_
  obtain ⟨rfl, rfl⟩ := qv_pair h
  exact qv_reti rfl hR
theorem tlb_X11_threadIs_25 {r : Int32} {H' : qx_H} (l0 : Nat) (H : qx_H) (h : fm_X11_threadIs_b25 l0 H = some (r, H')) : H'.length = H.length := by
  unfold fm_X11_threadIs_b25 at h
  obtain ⟨g27, h⟩ := qv_guard h
  obtain ⟨v27, H27, e27, h⟩ := qv_bind2 h
  have q_H27 := tl_X11_error e27
  obtain ⟨rfl, rfl⟩ := qv_pair h
  omega
theorem tb_X11_threadIs_0 {st : xT} {d : Nat} {R : Option Value → qx_H → Prop} (hd : 6 ≤ d) {r : Int32} {H' : qx_H} (hR : R (some (.int r)) H') (a0 : Nat) (a1 : Int32) (a2 : Int32) (H : qx_H) (h : fm_X11_threadIs a0 a1 a2 H = some (r, H')) : qx_V (xE st d) R (xc172 st) (0, [some (.ref a0), some (.int a1), some (.int a2)], [], H) := by
  unfold fm_X11_threadIs at h
  refine qv_run 1 (σ := (1, [some (.ref a0), some (.int a1), some (.int a2)], [.int a1], H)) rfl ?_
  refine qv_call [.int a1] rfl rfl rfl (Nat.le_of_ble_eq_true rfl) (th_X11_isThread (by omega) rfl) rfl ?_
  refine qv_br (c := (fm_X11_isThread a1) = 0) (a := (25, [some (.ref a0), some (.int a1), some (.int a2)], [], H)) (b := (7, [some (.ref a0), some (.int a1), some (.int a2)], [], H)) 1 rfl (fun c4 => ?_) (fun c4 => ?_)
  · replace h := qv_pos c4 h
    exact tb_X11_threadIs_25 hd hR a0 (some (.int a1)) rfl (some (.int a2)) rfl H h
  · replace h := qv_neg c4 h
    refine qv_run 3 (σ := (10, [some (.ref a0), some (.int a1), some (.int a2)], [.int 5, .int 0, .int a2], H)) rfl ?_
    refine qv_call [.int a2, .int 0, .int 5] rfl rfl rfl (Nat.le_of_ble_eq_true rfl) (th_X11_in (by omega) rfl) rfl ?_
    refine qv_br (c := (fm_X11_in a2 0 5) = 0) (a := (25, [some (.ref a0), some (.int a1), some (.int a2)], [], H)) (b := (16, [some (.ref a0), some (.int a1), some (.int a2)], [], H)) 1 rfl (fun c13 => ?_) (fun c13 => ?_)
    · replace h := qv_pos c13 h
      exact tb_X11_threadIs_25 hd hR a0 (some (.int a1)) rfl (some (.int a2)) rfl H h
    · replace h := qv_neg c13 h
      refine qv_run 3 (σ := (19, [some (.ref a0), some (.int a1), some (.int a2)], [.int a2, .int a1, .ref a0], H)) rfl ?_
      obtain ⟨g19, h⟩ := qv_guard h
      obtain ⟨v19, H19, e19, h⟩ := qv_bind2 h
      refine qv_callV [.int a1, .int a2] rfl rfl rfl (Nat.le_of_ble_eq_true rfl) g19 (th_X11_toldThread (by omega) e19) (tl_X11_toldThread e19) ?_
      refine qv_run 1 (σ := (30, [some (.ref a0), some (.int a1), some (.int a2)], [.int v19], H19)) rfl ?_
      obtain ⟨rfl, rfl⟩ := qv_pair h
      exact qv_reti rfl hR
theorem tlb_X11_threadIs_0 {r : Int32} {H' : qx_H} (a0 : Nat) (a1 : Int32) (a2 : Int32) (H : qx_H) (h : fm_X11_threadIs a0 a1 a2 H = some (r, H')) : H'.length = H.length := by
  unfold fm_X11_threadIs at h
  by_cases c4 : (fm_X11_isThread a1) = 0
  · replace h := qv_pos c4 h
    exact tlb_X11_threadIs_25 a0 H h
  · replace h := qv_neg c4 h
    by_cases c13 : (fm_X11_in a2 0 5) = 0
    · replace h := qv_pos c13 h
      exact tlb_X11_threadIs_25 a0 H h
    · replace h := qv_neg c13 h
      obtain ⟨g19, h⟩ := qv_guard h
      obtain ⟨v19, H19, e19, h⟩ := qv_bind2 h
      have q_H19 := tl_X11_toldThread e19
      obtain ⟨rfl, rfl⟩ := qv_pair h
      omega
theorem th_X11_threadIs {st : xT} {d : Nat} (hd : 7 ≤ d) {a0 : Nat} {a1 : Int32} {a2 : Int32} {H : qx_H} {r : Int32} {H' : qx_H} (h : fm_X11_threadIs a0 a1 a2 H = some (r, H')) : xE st d 172 [.ref a0, .int a1, .int a2] H (some (.int r)) H' := by
  obtain ⟨d, rfl⟩ : ∃ d', d = d' + 1 := ⟨d - 1, by omega⟩
  exact xE_of (xe172 st) xl172 (Nat.le_of_ble_eq_true rfl) (ls := [some (.ref a0), some (.int a1), some (.int a2)]) rfl (tb_X11_threadIs_0 (by omega) ⟨rfl, rfl⟩ a0 a1 a2 H h)
theorem tl_X11_threadIs {a0 : Nat} {a1 : Int32} {a2 : Int32} {H : qx_H} {r : Int32} {H' : qx_H} (h : fm_X11_threadIs a0 a1 a2 H = some (r, H')) : H'.length = H.length := tlb_X11_threadIs_0 a0 a1 a2 H h
def fm_X11_loses (a0 : Nat) (a1 : Int32) (H : qx_H) : Option qx_H := (hp_gR H a0 9 0).bind fun v1 => (hp_ast H v1 ((88 + (3 * a1)) + 0) 0).bind fun H13 => (hp_gR H13 a0 9 0).bind fun v15 => (hp_ast H13 v15 ((88 + (3 * a1)) + 1) 0).bind fun H27 => some H27
theorem tb_X11_loses_0 {st : xT} {d : Nat} {R : Option Value → qx_H → Prop} (hd : 0 ≤ d) {H' : qx_H} (hR : R (none) H') (a0 : Nat) (a1 : Int32) (H : qx_H) (h : fm_X11_loses a0 a1 H = some H') : qx_V (xE st d) R (xc173 st) (0, [some (.ref a0), some (.int a1)], [], H) := by
  unfold fm_X11_loses at h
  refine qv_run 1 (σ := (1, [some (.ref a0), some (.int a1)], [.ref a0], H)) rfl ?_
  obtain ⟨v1, e1, h⟩ := qv_bind h
  refine qv_getR rfl e1 ?_
  refine qv_run 8 (σ := (13, [some (.ref a0), some (.int a1)], [.int 0, .int ((88 + (3 * a1)) + 0), .ref v1], H)) rfl ?_
  obtain ⟨H13, e13, h⟩ := qv_bind h
  refine qv_ast rfl e13 ?_
  refine qv_run 1 (σ := (15, [some (.ref a0), some (.int a1)], [.ref a0], H13)) rfl ?_
  obtain ⟨v15, e15, h⟩ := qv_bind h
  refine qv_getR rfl e15 ?_
  refine qv_run 8 (σ := (27, [some (.ref a0), some (.int a1)], [.int 0, .int ((88 + (3 * a1)) + 1), .ref v15], H13)) rfl ?_
  obtain ⟨H27, e27, h⟩ := qv_bind h
  refine qv_ast rfl e27 ?_
  cases h
  exact qv_ret0 rfl hR
theorem tlb_X11_loses_0 {H' : qx_H} (a0 : Nat) (a1 : Int32) (H : qx_H) (h : fm_X11_loses a0 a1 H = some H') : H'.length = H.length := by
  unfold fm_X11_loses at h
  obtain ⟨v1, e1, h⟩ := qv_bind h
  obtain ⟨H13, e13, h⟩ := qv_bind h
  have q_H13 := hp_ast_len e13
  obtain ⟨v15, e15, h⟩ := qv_bind h
  obtain ⟨H27, e27, h⟩ := qv_bind h
  have q_H27 := hp_ast_len e27
  cases h
  omega
theorem th_X11_loses {st : xT} {d : Nat} (hd : 1 ≤ d) {a0 : Nat} {a1 : Int32} {H : qx_H} {H' : qx_H} (h : fm_X11_loses a0 a1 H = some H') : xE st d 173 [.ref a0, .int a1] H (none) H' := by
  obtain ⟨d, rfl⟩ : ∃ d', d = d' + 1 := ⟨d - 1, by omega⟩
  exact xE_of (xe173 st) xl173 (Nat.le_of_ble_eq_true rfl) (ls := [some (.ref a0), some (.int a1)]) rfl (tb_X11_loses_0 (by omega) ⟨rfl, rfl⟩ a0 a1 H h)
theorem tl_X11_loses {a0 : Nat} {a1 : Int32} {H : qx_H} {H' : qx_H} (h : fm_X11_loses a0 a1 H = some H') : H'.length = H.length := tlb_X11_loses_0 a0 a1 H h
def fm_X11_renews (a0 : Nat) (a1 : Int32) (H : qx_H) : Option qx_H := (hp_gR H a0 9 0).bind fun v1 => (hp_ast H v1 ((88 + (3 * a1)) + 0) 1).bind fun H13 => (hp_gR H13 a0 9 0).bind fun v15 => (hp_ast H13 v15 ((88 + (3 * a1)) + 1) 0).bind fun H27 => (hp_gR H27 a0 9 0).bind fun v29 => (hp_gR H27 a0 9 0).bind fun v41 => (hp_ald H27 v41 0).bind fun v45 => (hp_ast H27 v29 ((88 + (3 * a1)) + 2) v45).bind fun H46 => some H46
theorem tb_X11_renews_0 {st : xT} {d : Nat} {R : Option Value → qx_H → Prop} (hd : 0 ≤ d) {H' : qx_H} (hR : R (none) H') (a0 : Nat) (a1 : Int32) (H : qx_H) (h : fm_X11_renews a0 a1 H = some H') : qx_V (xE st d) R (xc174 st) (0, [some (.ref a0), some (.int a1)], [], H) := by
  unfold fm_X11_renews at h
  refine qv_run 1 (σ := (1, [some (.ref a0), some (.int a1)], [.ref a0], H)) rfl ?_
  obtain ⟨v1, e1, h⟩ := qv_bind h
  refine qv_getR rfl e1 ?_
  refine qv_run 8 (σ := (13, [some (.ref a0), some (.int a1)], [.int 1, .int ((88 + (3 * a1)) + 0), .ref v1], H)) rfl ?_
  obtain ⟨H13, e13, h⟩ := qv_bind h
  refine qv_ast rfl e13 ?_
  refine qv_run 1 (σ := (15, [some (.ref a0), some (.int a1)], [.ref a0], H13)) rfl ?_
  obtain ⟨v15, e15, h⟩ := qv_bind h
  refine qv_getR rfl e15 ?_
  refine qv_run 8 (σ := (27, [some (.ref a0), some (.int a1)], [.int 0, .int ((88 + (3 * a1)) + 1), .ref v15], H13)) rfl ?_
  obtain ⟨H27, e27, h⟩ := qv_bind h
  refine qv_ast rfl e27 ?_
  refine qv_run 1 (σ := (29, [some (.ref a0), some (.int a1)], [.ref a0], H27)) rfl ?_
  obtain ⟨v29, e29, h⟩ := qv_bind h
  refine qv_getR rfl e29 ?_
  refine qv_run 8 (σ := (41, [some (.ref a0), some (.int a1)], [.ref a0, .int ((88 + (3 * a1)) + 2), .ref v29], H27)) rfl ?_
  obtain ⟨v41, e41, h⟩ := qv_bind h
  refine qv_getR rfl e41 ?_
  refine qv_run 1 (σ := (45, [some (.ref a0), some (.int a1)], [.int 0, .ref v41, .int ((88 + (3 * a1)) + 2), .ref v29], H27)) rfl ?_
  obtain ⟨v45, e45, h⟩ := qv_bind h
  refine qv_ald rfl e45 ?_
  obtain ⟨H46, e46, h⟩ := qv_bind h
  refine qv_ast rfl e46 ?_
  cases h
  exact qv_ret0 rfl hR
theorem tlb_X11_renews_0 {H' : qx_H} (a0 : Nat) (a1 : Int32) (H : qx_H) (h : fm_X11_renews a0 a1 H = some H') : H'.length = H.length := by
  unfold fm_X11_renews at h
  obtain ⟨v1, e1, h⟩ := qv_bind h
  obtain ⟨H13, e13, h⟩ := qv_bind h
  have q_H13 := hp_ast_len e13
  obtain ⟨v15, e15, h⟩ := qv_bind h
  obtain ⟨H27, e27, h⟩ := qv_bind h
  have q_H27 := hp_ast_len e27
  obtain ⟨v29, e29, h⟩ := qv_bind h
  obtain ⟨v41, e41, h⟩ := qv_bind h
  obtain ⟨v45, e45, h⟩ := qv_bind h
  obtain ⟨H46, e46, h⟩ := qv_bind h
  have q_H46 := hp_ast_len e46
  cases h
  omega
theorem th_X11_renews {st : xT} {d : Nat} (hd : 1 ≤ d) {a0 : Nat} {a1 : Int32} {H : qx_H} {H' : qx_H} (h : fm_X11_renews a0 a1 H = some H') : xE st d 174 [.ref a0, .int a1] H (none) H' := by
  obtain ⟨d, rfl⟩ : ∃ d', d = d' + 1 := ⟨d - 1, by omega⟩
  exact xE_of (xe174 st) xl174 (Nat.le_of_ble_eq_true rfl) (ls := [some (.ref a0), some (.int a1)]) rfl (tb_X11_renews_0 (by omega) ⟨rfl, rfl⟩ a0 a1 H h)
theorem tl_X11_renews {a0 : Nat} {a1 : Int32} {H : qx_H} {H' : qx_H} (h : fm_X11_renews a0 a1 H = some H') : H'.length = H.length := tlb_X11_renews_0 a0 a1 H h
def fm_X11_cut (a0 : Nat) (a1 : Int32) (H : qx_H) : Option (Int32 × qx_H) := if (fm_X11_isThread a1) = 0 then (if hp_is H a0 9 = true then (ob2 (fm_X11_error a0 1 H) fun v9 H9 => some (v9, H9)) else none) else (if hp_is H a0 9 = true then ((fm_X11_isMissing a0 a1 H).bind fun v15 => if v15 = 0 then ((fm_X11_loses a0 a1 H).bind fun H29 => if hp_is H29 a0 9 = true then ((fm_X11_missing a0 H29).bind fun v33 => some (v33, H29)) else none) else (ob2 (fm_X11_error a0 3 H) fun v23 H23 => some (v23, H23))) else none)
theorem tb_X11_cut_0 {st : xT} {d : Nat} {R : Option Value → qx_H → Prop} (hd : 3 ≤ d) {r : Int32} {H' : qx_H} (hR : R (some (.int r)) H') (a0 : Nat) (a1 : Int32) (H : qx_H) (h : fm_X11_cut a0 a1 H = some (r, H')) : qx_V (xE st d) R (xc175 st) (0, [some (.ref a0), some (.int a1)], [], H) := by
  unfold fm_X11_cut at h
  refine qv_run 1 (σ := (1, [some (.ref a0), some (.int a1)], [.int a1], H)) rfl ?_
  refine qv_call [.int a1] rfl rfl rfl (Nat.le_of_ble_eq_true rfl) (th_X11_isThread (by omega) rfl) rfl ?_
  refine qv_br (c := (fm_X11_isThread a1) = 0) (a := (7, [some (.ref a0), some (.int a1)], [], H)) (b := (13, [some (.ref a0), some (.int a1)], [], H)) 1 rfl (fun c4 => ?_) (fun c4 => ?_)
  · replace h := qv_pos c4 h
    refine qv_run 2 (σ := (9, [some (.ref a0), some (.int a1)], [.int 1, .ref a0], H)) rfl ?_
    obtain ⟨g9, h⟩ := qv_guard h
    obtain ⟨v9, H9, e9, h⟩ := qv_bind2 h
    refine qv_callV [.int 1] rfl rfl rfl (Nat.le_of_ble_eq_true rfl) g9 (th_X11_error (by omega) e9) (tl_X11_error e9) ?_
    obtain ⟨rfl, rfl⟩ := qv_pair h
    exact qv_reti rfl hR
  · replace h := qv_neg c4 h
    refine qv_run 2 (σ := (15, [some (.ref a0), some (.int a1)], [.int a1, .ref a0], H)) rfl ?_
    obtain ⟨g15, h⟩ := qv_guard h
    obtain ⟨v15, e15, h⟩ := qv_bind h
    refine qv_callV [.int a1] rfl rfl rfl (Nat.le_of_ble_eq_true rfl) g15 (th_X11_isMissing (by omega) e15) rfl ?_
    refine qv_br (c := v15 = 0) (a := (27, [some (.ref a0), some (.int a1)], [], H)) (b := (21, [some (.ref a0), some (.int a1)], [], H)) 1 rfl (fun c18 => ?_) (fun c18 => ?_)
    · replace h := qv_pos c18 h
      refine qv_run 2 (σ := (29, [some (.ref a0), some (.int a1)], [.int a1, .ref a0], H)) rfl ?_
      obtain ⟨H29, e29, h⟩ := qv_bind h
      refine qv_callV [.int a1] rfl rfl rfl (Nat.le_of_ble_eq_true rfl) g15 (th_X11_loses (by omega) e29) (tl_X11_loses e29) ?_
      refine qv_run 1 (σ := (33, [some (.ref a0), some (.int a1)], [.ref a0], H29)) rfl ?_
      obtain ⟨g33, h⟩ := qv_guard h
      obtain ⟨v33, e33, h⟩ := qv_bind h
      refine qv_callV [] rfl rfl rfl (Nat.le_of_ble_eq_true rfl) g33 (th_X11_missing (by omega) e33) rfl ?_
      obtain ⟨rfl, rfl⟩ := qv_pair h
      exact qv_reti rfl hR
    · replace h := qv_neg c18 h
      refine qv_run 2 (σ := (23, [some (.ref a0), some (.int a1)], [.int 3, .ref a0], H)) rfl ?_
      obtain ⟨v23, H23, e23, h⟩ := qv_bind2 h
      refine qv_callV [.int 3] rfl rfl rfl (Nat.le_of_ble_eq_true rfl) g15 (th_X11_error (by omega) e23) (tl_X11_error e23) ?_
      obtain ⟨rfl, rfl⟩ := qv_pair h
      exact qv_reti rfl hR
theorem tlb_X11_cut_0 {r : Int32} {H' : qx_H} (a0 : Nat) (a1 : Int32) (H : qx_H) (h : fm_X11_cut a0 a1 H = some (r, H')) : H'.length = H.length := by
  unfold fm_X11_cut at h
  by_cases c4 : (fm_X11_isThread a1) = 0
  · replace h := qv_pos c4 h
    obtain ⟨g9, h⟩ := qv_guard h
    obtain ⟨v9, H9, e9, h⟩ := qv_bind2 h
    have q_H9 := tl_X11_error e9
    obtain ⟨rfl, rfl⟩ := qv_pair h
    omega
  · replace h := qv_neg c4 h
    obtain ⟨g15, h⟩ := qv_guard h
    obtain ⟨v15, e15, h⟩ := qv_bind h
    by_cases c18 : v15 = 0
    · replace h := qv_pos c18 h
      obtain ⟨H29, e29, h⟩ := qv_bind h
      have q_H29 := tl_X11_loses e29
      obtain ⟨g33, h⟩ := qv_guard h
      obtain ⟨v33, e33, h⟩ := qv_bind h
      obtain ⟨rfl, rfl⟩ := qv_pair h
      omega
    · replace h := qv_neg c18 h
      obtain ⟨v23, H23, e23, h⟩ := qv_bind2 h
      have q_H23 := tl_X11_error e23
      obtain ⟨rfl, rfl⟩ := qv_pair h
      omega
theorem th_X11_cut {st : xT} {d : Nat} (hd : 4 ≤ d) {a0 : Nat} {a1 : Int32} {H : qx_H} {r : Int32} {H' : qx_H} (h : fm_X11_cut a0 a1 H = some (r, H')) : xE st d 175 [.ref a0, .int a1] H (some (.int r)) H' := by
  obtain ⟨d, rfl⟩ : ∃ d', d = d' + 1 := ⟨d - 1, by omega⟩
  exact xE_of (xe175 st) xl175 (Nat.le_of_ble_eq_true rfl) (ls := [some (.ref a0), some (.int a1)]) rfl (tb_X11_cut_0 (by omega) ⟨rfl, rfl⟩ a0 a1 H h)
theorem tl_X11_cut {a0 : Nat} {a1 : Int32} {H : qx_H} {r : Int32} {H' : qx_H} (h : fm_X11_cut a0 a1 H = some (r, H')) : H'.length = H.length := tlb_X11_cut_0 a0 a1 H h
def fm_X11_wear_b17 (l0 : Nat) (H : qx_H) : Option (Int32 × qx_H) := if hp_is H l0 9 = true then (ob2 (fm_X11_error l0 1 H) fun v19 H19 => some (v19, H19)) else none
def fm_X11_wear (a0 : Nat) (a1 : Int32) (a2 : Int32) (H : qx_H) : Option (Int32 × qx_H) := if (fm_X11_isThread a1) = 0 then (fm_X11_wear_b17 a0 H) else (if (fm_X11_in a2 0 99) = 0 then (fm_X11_wear_b17 a0 H) else (if hp_is H a0 9 = true then ((fm_X11_isMissing a0 a1 H).bind fun v25 => if v25 = 0 then (ob2 (fm_X11_change1 a0 ((88 + (3 * a1)) + 1) a2 H) fun v49 H49 => some (v49, H49)) else (ob2 (fm_X11_error a0 3 H) fun v33 H33 => some (v33, H33))) else none))
theorem tb_X11_wear_17 {st : xT} {d : Nat} {R : Option Value → qx_H → Prop} (hd : 2 ≤ d) {r : Int32} {H' : qx_H} (hR : R (some (.int r)) H') (l0 : Nat) (z1 : Option Value) (hz1 : qx_ns z1 = true) (z2 : Option Value) (hz2 : qx_ns z2 = true) (H : qx_H) (h : fm_X11_wear_b17 l0 H = some (r, H')) : qx_V (xE st d) R (xc176 st) (17, [some (.ref l0), z1, z2], [], H) := by
  unfold fm_X11_wear_b17 at h
  refine qv_run 2 (σ := (19, [some (.ref l0), z1, z2], [.int 1, .ref l0], H)) rfl ?_
  obtain ⟨g19, h⟩ := qv_guard h
  obtain ⟨v19, H19, e19, h⟩ := qv_bind2 h
  refine qv_callV [.int 1] rfl rfl rfl (Nat.le_of_ble_eq_true rfl) g19 (th_X11_error (by omega) e19) (tl_X11_error e19) ?_
  obtain ⟨rfl, rfl⟩ := qv_pair h
  exact qv_reti rfl hR
theorem tlb_X11_wear_17 {r : Int32} {H' : qx_H} (l0 : Nat) (H : qx_H) (h : fm_X11_wear_b17 l0 H = some (r, H')) : H'.length = H.length := by
  unfold fm_X11_wear_b17 at h
  obtain ⟨g19, h⟩ := qv_guard h
  obtain ⟨v19, H19, e19, h⟩ := qv_bind2 h
  have q_H19 := tl_X11_error e19
  obtain ⟨rfl, rfl⟩ := qv_pair h
  omega
theorem tb_X11_wear_0 {st : xT} {d : Nat} {R : Option Value → qx_H → Prop} (hd : 2 ≤ d) {r : Int32} {H' : qx_H} (hR : R (some (.int r)) H') (a0 : Nat) (a1 : Int32) (a2 : Int32) (H : qx_H) (h : fm_X11_wear a0 a1 a2 H = some (r, H')) : qx_V (xE st d) R (xc176 st) (0, [some (.ref a0), some (.int a1), some (.int a2)], [], H) := by
  unfold fm_X11_wear at h
  refine qv_run 1 (σ := (1, [some (.ref a0), some (.int a1), some (.int a2)], [.int a1], H)) rfl ?_
  refine qv_call [.int a1] rfl rfl rfl (Nat.le_of_ble_eq_true rfl) (th_X11_isThread (by omega) rfl) rfl ?_
  refine qv_br (c := (fm_X11_isThread a1) = 0) (a := (17, [some (.ref a0), some (.int a1), some (.int a2)], [], H)) (b := (7, [some (.ref a0), some (.int a1), some (.int a2)], [], H)) 1 rfl (fun c4 => ?_) (fun c4 => ?_)
  · replace h := qv_pos c4 h
    exact tb_X11_wear_17 hd hR a0 (some (.int a1)) rfl (some (.int a2)) rfl H h
  · replace h := qv_neg c4 h
    refine qv_run 3 (σ := (11, [some (.ref a0), some (.int a1), some (.int a2)], [.int 99, .int 0, .int a2], H)) rfl ?_
    refine qv_call [.int a2, .int 0, .int 99] rfl rfl rfl (Nat.le_of_ble_eq_true rfl) (th_X11_in (by omega) rfl) rfl ?_
    refine qv_br (c := (fm_X11_in a2 0 99) = 0) (a := (17, [some (.ref a0), some (.int a1), some (.int a2)], [], H)) (b := (23, [some (.ref a0), some (.int a1), some (.int a2)], [], H)) 1 rfl (fun c14 => ?_) (fun c14 => ?_)
    · replace h := qv_pos c14 h
      exact tb_X11_wear_17 hd hR a0 (some (.int a1)) rfl (some (.int a2)) rfl H h
    · replace h := qv_neg c14 h
      refine qv_run 2 (σ := (25, [some (.ref a0), some (.int a1), some (.int a2)], [.int a1, .ref a0], H)) rfl ?_
      obtain ⟨g25, h⟩ := qv_guard h
      obtain ⟨v25, e25, h⟩ := qv_bind h
      refine qv_callV [.int a1] rfl rfl rfl (Nat.le_of_ble_eq_true rfl) g25 (th_X11_isMissing (by omega) e25) rfl ?_
      refine qv_br (c := v25 = 0) (a := (39, [some (.ref a0), some (.int a1), some (.int a2)], [], H)) (b := (31, [some (.ref a0), some (.int a1), some (.int a2)], [], H)) 1 rfl (fun c28 => ?_) (fun c28 => ?_)
      · replace h := qv_pos c28 h
        refine qv_run 9 (σ := (49, [some (.ref a0), some (.int a1), some (.int a2)], [.int a2, .int ((88 + (3 * a1)) + 1), .ref a0], H)) rfl ?_
        obtain ⟨v49, H49, e49, h⟩ := qv_bind2 h
        refine qv_callV [.int ((88 + (3 * a1)) + 1), .int a2] rfl rfl rfl (Nat.le_of_ble_eq_true rfl) g25 (th_X11_change1 (by omega) e49) (tl_X11_change1 e49) ?_
        obtain ⟨rfl, rfl⟩ := qv_pair h
        exact qv_reti rfl hR
      · replace h := qv_neg c28 h
        refine qv_run 2 (σ := (33, [some (.ref a0), some (.int a1), some (.int a2)], [.int 3, .ref a0], H)) rfl ?_
        obtain ⟨v33, H33, e33, h⟩ := qv_bind2 h
        refine qv_callV [.int 3] rfl rfl rfl (Nat.le_of_ble_eq_true rfl) g25 (th_X11_error (by omega) e33) (tl_X11_error e33) ?_
        refine qv_run 1 (σ := (52, [some (.ref a0), some (.int a1), some (.int a2)], [.int v33], H33)) rfl ?_
        obtain ⟨rfl, rfl⟩ := qv_pair h
        exact qv_reti rfl hR
theorem tlb_X11_wear_0 {r : Int32} {H' : qx_H} (a0 : Nat) (a1 : Int32) (a2 : Int32) (H : qx_H) (h : fm_X11_wear a0 a1 a2 H = some (r, H')) : H'.length = H.length := by
  unfold fm_X11_wear at h
  by_cases c4 : (fm_X11_isThread a1) = 0
  · replace h := qv_pos c4 h
    exact tlb_X11_wear_17 a0 H h
  · replace h := qv_neg c4 h
    by_cases c14 : (fm_X11_in a2 0 99) = 0
    · replace h := qv_pos c14 h
      exact tlb_X11_wear_17 a0 H h
    · replace h := qv_neg c14 h
      obtain ⟨g25, h⟩ := qv_guard h
      obtain ⟨v25, e25, h⟩ := qv_bind h
      by_cases c28 : v25 = 0
      · replace h := qv_pos c28 h
        obtain ⟨v49, H49, e49, h⟩ := qv_bind2 h
        have q_H49 := tl_X11_change1 e49
        obtain ⟨rfl, rfl⟩ := qv_pair h
        omega
      · replace h := qv_neg c28 h
        obtain ⟨v33, H33, e33, h⟩ := qv_bind2 h
        have q_H33 := tl_X11_error e33
        obtain ⟨rfl, rfl⟩ := qv_pair h
        omega
theorem th_X11_wear {st : xT} {d : Nat} (hd : 3 ≤ d) {a0 : Nat} {a1 : Int32} {a2 : Int32} {H : qx_H} {r : Int32} {H' : qx_H} (h : fm_X11_wear a0 a1 a2 H = some (r, H')) : xE st d 176 [.ref a0, .int a1, .int a2] H (some (.int r)) H' := by
  obtain ⟨d, rfl⟩ : ∃ d', d = d' + 1 := ⟨d - 1, by omega⟩
  exact xE_of (xe176 st) xl176 (Nat.le_of_ble_eq_true rfl) (ls := [some (.ref a0), some (.int a1), some (.int a2)]) rfl (tb_X11_wear_0 (by omega) ⟨rfl, rfl⟩ a0 a1 a2 H h)
theorem tl_X11_wear {a0 : Nat} {a1 : Int32} {a2 : Int32} {H : qx_H} {r : Int32} {H' : qx_H} (h : fm_X11_wear a0 a1 a2 H = some (r, H')) : H'.length = H.length := tlb_X11_wear_0 a0 a1 a2 H h
def fm_X11_twine (a0 : Nat) (a1 : Int32) (H : qx_H) : Option (Int32 × qx_H) := if (fm_X11_in a1 0 9999) = 0 then (if hp_is H a0 9 = true then (ob2 (fm_X11_error a0 1 H) fun v22 H22 => some (v22, H22)) else none) else (if hp_is H a0 9 = true then (ob2 (fm_X11_change1 a0 1 a1 H) fun v14 H14 => some (v14, H14)) else none)
theorem tb_X11_twine_0 {st : xT} {d : Nat} {R : Option Value → qx_H → Prop} (hd : 1 ≤ d) {r : Int32} {H' : qx_H} (hR : R (some (.int r)) H') (a0 : Nat) (a1 : Int32) (H : qx_H) (h : fm_X11_twine a0 a1 H = some (r, H')) : qx_V (xE st d) R (xc177 st) (0, [some (.ref a0), some (.int a1)], [], H) := by
  unfold fm_X11_twine at h
  refine qv_run 3 (σ := (5, [some (.ref a0), some (.int a1)], [.int 9999, .int 0, .int a1], H)) rfl ?_
  refine qv_call [.int a1, .int 0, .int 9999] rfl rfl rfl (Nat.le_of_ble_eq_true rfl) (th_X11_in (by omega) rfl) rfl ?_
  refine qv_br (c := (fm_X11_in a1 0 9999) = 0) (a := (20, [some (.ref a0), some (.int a1)], [], H)) (b := (11, [some (.ref a0), some (.int a1)], [], H)) 1 rfl (fun c8 => ?_) (fun c8 => ?_)
  · replace h := qv_pos c8 h
    refine qv_run 2 (σ := (22, [some (.ref a0), some (.int a1)], [.int 1, .ref a0], H)) rfl ?_
    obtain ⟨g22, h⟩ := qv_guard h
    obtain ⟨v22, H22, e22, h⟩ := qv_bind2 h
    refine qv_callV [.int 1] rfl rfl rfl (Nat.le_of_ble_eq_true rfl) g22 (th_X11_error (by omega) e22) (tl_X11_error e22) ?_
    obtain ⟨rfl, rfl⟩ := qv_pair h
    exact qv_reti rfl hR
  · replace h := qv_neg c8 h
    refine qv_run 3 (σ := (14, [some (.ref a0), some (.int a1)], [.int a1, .int 1, .ref a0], H)) rfl ?_
    obtain ⟨g14, h⟩ := qv_guard h
    obtain ⟨v14, H14, e14, h⟩ := qv_bind2 h
    refine qv_callV [.int 1, .int a1] rfl rfl rfl (Nat.le_of_ble_eq_true rfl) g14 (th_X11_change1 (by omega) e14) (tl_X11_change1 e14) ?_
    refine qv_run 1 (σ := (25, [some (.ref a0), some (.int a1)], [.int v14], H14)) rfl ?_
    obtain ⟨rfl, rfl⟩ := qv_pair h
    exact qv_reti rfl hR
theorem tlb_X11_twine_0 {r : Int32} {H' : qx_H} (a0 : Nat) (a1 : Int32) (H : qx_H) (h : fm_X11_twine a0 a1 H = some (r, H')) : H'.length = H.length := by
  unfold fm_X11_twine at h
  by_cases c8 : (fm_X11_in a1 0 9999) = 0
  · replace h := qv_pos c8 h
    obtain ⟨g22, h⟩ := qv_guard h
    obtain ⟨v22, H22, e22, h⟩ := qv_bind2 h
    have q_H22 := tl_X11_error e22
    obtain ⟨rfl, rfl⟩ := qv_pair h
    omega
  · replace h := qv_neg c8 h
    obtain ⟨g14, h⟩ := qv_guard h
    obtain ⟨v14, H14, e14, h⟩ := qv_bind2 h
    have q_H14 := tl_X11_change1 e14
    obtain ⟨rfl, rfl⟩ := qv_pair h
    omega
theorem th_X11_twine {st : xT} {d : Nat} (hd : 2 ≤ d) {a0 : Nat} {a1 : Int32} {H : qx_H} {r : Int32} {H' : qx_H} (h : fm_X11_twine a0 a1 H = some (r, H')) : xE st d 177 [.ref a0, .int a1] H (some (.int r)) H' := by
  obtain ⟨d, rfl⟩ : ∃ d', d = d' + 1 := ⟨d - 1, by omega⟩
  exact xE_of (xe177 st) xl177 (Nat.le_of_ble_eq_true rfl) (ls := [some (.ref a0), some (.int a1)]) rfl (tb_X11_twine_0 (by omega) ⟨rfl, rfl⟩ a0 a1 H h)
theorem tl_X11_twine {a0 : Nat} {a1 : Int32} {H : qx_H} {r : Int32} {H' : qx_H} (h : fm_X11_twine a0 a1 H = some (r, H')) : H'.length = H.length := tlb_X11_twine_0 a0 a1 H h
def fm_X11_speed_b30 (l0 : Nat) (H : qx_H) : Option (Int32 × qx_H) := if hp_is H l0 9 = true then (ob2 (fm_X11_error l0 1 H) fun v32 H32 => some (v32, H32)) else none
def fm_X11_speed (a0 : Nat) (a1 : Int32) (a2 : Int32) (H : qx_H) : Option (Int32 × qx_H) := if (fm_X11_in a1 0 2) = 0 then (fm_X11_speed_b30 a0 H) else (if (fm_X11_in a2 1 30) = 0 then (fm_X11_speed_b30 a0 H) else (if hp_is H a0 9 = true then (ob2 (fm_X11_change1 a0 (5 + a1) a2 H) fun v24 H24 => some (v24, H24)) else none))
theorem tb_X11_speed_30 {st : xT} {d : Nat} {R : Option Value → qx_H → Prop} (hd : 1 ≤ d) {r : Int32} {H' : qx_H} (hR : R (some (.int r)) H') (l0 : Nat) (z1 : Option Value) (hz1 : qx_ns z1 = true) (z2 : Option Value) (hz2 : qx_ns z2 = true) (H : qx_H) (h : fm_X11_speed_b30 l0 H = some (r, H')) : qx_V (xE st d) R (xc178 st) (30, [some (.ref l0), z1, z2], [], H) := by
  unfold fm_X11_speed_b30 at h
  refine qv_run 2 (σ := (32, [some (.ref l0), z1, z2], [.int 1, .ref l0], H)) rfl ?_
  obtain ⟨g32, h⟩ := qv_guard h
  obtain ⟨v32, H32, e32, h⟩ := qv_bind2 h
  refine qv_callV [.int 1] rfl rfl rfl (Nat.le_of_ble_eq_true rfl) g32 (th_X11_error (by omega) e32) (tl_X11_error e32) ?_
  obtain ⟨rfl, rfl⟩ := qv_pair h
  exact qv_reti rfl hR
theorem tlb_X11_speed_30 {r : Int32} {H' : qx_H} (l0 : Nat) (H : qx_H) (h : fm_X11_speed_b30 l0 H = some (r, H')) : H'.length = H.length := by
  unfold fm_X11_speed_b30 at h
  obtain ⟨g32, h⟩ := qv_guard h
  obtain ⟨v32, H32, e32, h⟩ := qv_bind2 h
  have q_H32 := tl_X11_error e32
  obtain ⟨rfl, rfl⟩ := qv_pair h
  omega
theorem tb_X11_speed_0 {st : xT} {d : Nat} {R : Option Value → qx_H → Prop} (hd : 1 ≤ d) {r : Int32} {H' : qx_H} (hR : R (some (.int r)) H') (a0 : Nat) (a1 : Int32) (a2 : Int32) (H : qx_H) (h : fm_X11_speed a0 a1 a2 H = some (r, H')) : qx_V (xE st d) R (xc178 st) (0, [some (.ref a0), some (.int a1), some (.int a2)], [], H) := by
  unfold fm_X11_speed at h
  refine qv_run 3 (σ := (3, [some (.ref a0), some (.int a1), some (.int a2)], [.int 2, .int 0, .int a1], H)) rfl ?_
  refine qv_call [.int a1, .int 0, .int 2] rfl rfl rfl (Nat.le_of_ble_eq_true rfl) (th_X11_in (by omega) rfl) rfl ?_
  refine qv_br (c := (fm_X11_in a1 0 2) = 0) (a := (30, [some (.ref a0), some (.int a1), some (.int a2)], [], H)) (b := (9, [some (.ref a0), some (.int a1), some (.int a2)], [], H)) 1 rfl (fun c6 => ?_) (fun c6 => ?_)
  · replace h := qv_pos c6 h
    exact tb_X11_speed_30 hd hR a0 (some (.int a1)) rfl (some (.int a2)) rfl H h
  · replace h := qv_neg c6 h
    refine qv_run 3 (σ := (13, [some (.ref a0), some (.int a1), some (.int a2)], [.int 30, .int 1, .int a2], H)) rfl ?_
    refine qv_call [.int a2, .int 1, .int 30] rfl rfl rfl (Nat.le_of_ble_eq_true rfl) (th_X11_in (by omega) rfl) rfl ?_
    refine qv_br (c := (fm_X11_in a2 1 30) = 0) (a := (30, [some (.ref a0), some (.int a1), some (.int a2)], [], H)) (b := (19, [some (.ref a0), some (.int a1), some (.int a2)], [], H)) 1 rfl (fun c16 => ?_) (fun c16 => ?_)
    · replace h := qv_pos c16 h
      exact tb_X11_speed_30 hd hR a0 (some (.int a1)) rfl (some (.int a2)) rfl H h
    · replace h := qv_neg c16 h
      refine qv_run 5 (σ := (24, [some (.ref a0), some (.int a1), some (.int a2)], [.int a2, .int (5 + a1), .ref a0], H)) rfl ?_
      obtain ⟨g24, h⟩ := qv_guard h
      obtain ⟨v24, H24, e24, h⟩ := qv_bind2 h
      refine qv_callV [.int (5 + a1), .int a2] rfl rfl rfl (Nat.le_of_ble_eq_true rfl) g24 (th_X11_change1 (by omega) e24) (tl_X11_change1 e24) ?_
      refine qv_run 1 (σ := (35, [some (.ref a0), some (.int a1), some (.int a2)], [.int v24], H24)) rfl ?_
      obtain ⟨rfl, rfl⟩ := qv_pair h
      exact qv_reti rfl hR
theorem tlb_X11_speed_0 {r : Int32} {H' : qx_H} (a0 : Nat) (a1 : Int32) (a2 : Int32) (H : qx_H) (h : fm_X11_speed a0 a1 a2 H = some (r, H')) : H'.length = H.length := by
  unfold fm_X11_speed at h
  by_cases c6 : (fm_X11_in a1 0 2) = 0
  · replace h := qv_pos c6 h
    exact tlb_X11_speed_30 a0 H h
  · replace h := qv_neg c6 h
    by_cases c16 : (fm_X11_in a2 1 30) = 0
    · replace h := qv_pos c16 h
      exact tlb_X11_speed_30 a0 H h
    · replace h := qv_neg c16 h
      obtain ⟨g24, h⟩ := qv_guard h
      obtain ⟨v24, H24, e24, h⟩ := qv_bind2 h
      have q_H24 := tl_X11_change1 e24
      obtain ⟨rfl, rfl⟩ := qv_pair h
      omega
theorem th_X11_speed {st : xT} {d : Nat} (hd : 2 ≤ d) {a0 : Nat} {a1 : Int32} {a2 : Int32} {H : qx_H} {r : Int32} {H' : qx_H} (h : fm_X11_speed a0 a1 a2 H = some (r, H')) : xE st d 178 [.ref a0, .int a1, .int a2] H (some (.int r)) H' := by
  obtain ⟨d, rfl⟩ : ∃ d', d = d' + 1 := ⟨d - 1, by omega⟩
  exact xE_of (xe178 st) xl178 (Nat.le_of_ble_eq_true rfl) (ls := [some (.ref a0), some (.int a1), some (.int a2)]) rfl (tb_X11_speed_0 (by omega) ⟨rfl, rfl⟩ a0 a1 a2 H h)
theorem tl_X11_speed {a0 : Nat} {a1 : Int32} {a2 : Int32} {H : qx_H} {r : Int32} {H' : qx_H} (h : fm_X11_speed a0 a1 a2 H = some (r, H')) : H'.length = H.length := tlb_X11_speed_0 a0 a1 a2 H h
def fm_X11_isSheet (a0 : Int32) : Int32 := (fm_X11_in a0 0 3)
theorem tb_X11_isSheet_0 {st : xT} {d : Nat} {R : Option Value → qx_H → Prop} (hd : 1 ≤ d) {r : Int32} {H : qx_H} (hR : R (some (.int r)) H) (a0 : Int32) (h : fm_X11_isSheet a0 = r) : qx_V (xE st d) R (xc219 st) (0, [some (.int a0)], [], H) := by
  unfold fm_X11_isSheet at h
  refine qv_run 3 (σ := (3, [some (.int a0)], [.int 3, .int 0, .int a0], H)) rfl ?_
  refine qv_call [.int a0, .int 0, .int 3] rfl rfl rfl (Nat.le_of_ble_eq_true rfl) (th_X11_in (by omega) rfl) rfl ?_
  subst h
  exact qv_retz rfl (fz_X11_in) hR
theorem tzb_X11_isSheet_0 {r : Int32} (a0 : Int32) (h : fm_X11_isSheet a0 = r) : r = 0 ∨ r = 1 := by
  unfold fm_X11_isSheet at h
  subst h
  exact (fz_X11_in)
theorem th_X11_isSheet {st : xT} {d : Nat} (hd : 2 ≤ d) {a0 : Int32} {r : Int32} {H : qx_H} (h : fm_X11_isSheet a0 = r) : xE st d 219 [.int a0] H (some (.int r)) H := by
  obtain ⟨d, rfl⟩ : ∃ d', d = d' + 1 := ⟨d - 1, by omega⟩
  exact xE_of (xe219 st) xl219 (Nat.le_of_ble_eq_true rfl) (ls := [some (.int a0)]) rfl (tb_X11_isSheet_0 (by omega) ⟨rfl, rfl⟩ a0 h)
theorem tz_X11_isSheet {a0 : Int32} {r : Int32} (h : fm_X11_isSheet a0 = r) : r = 0 ∨ r = 1 := tzb_X11_isSheet_0 a0 h
theorem fz_X11_isSheet {a0 : Int32} : fm_X11_isSheet a0 = 0 ∨ fm_X11_isSheet a0 = 1 := tz_X11_isSheet rfl
def fm_X11_run_b14 (l0 : Nat) (H : qx_H) : Option (Int32 × qx_H) := if hp_is H l0 9 = true then (ob2 (fm_X11_error l0 1 H) fun v16 H16 => some (v16, H16)) else none
def fm_X11_run_b38 (l0 : Nat) (H : qx_H) : Option (Int32 × qx_H) := if hp_is H l0 9 = true then (ob2 (fm_X11_error l0 2 H) fun v40 H40 => some (v40, H40)) else none
def fm_X11_run_b202 : Nat → Nat → Int32 → Int32 → Int32 → Int32 → qx_H → Option (Int32 × qx_H)
  | 0, _, _, _, _, _, _ => none
  | n + 1, l0, l1, l2, l5, l6, H => (hp_gR H l0 9 20).bind fun v205 => (hp_ald H v205 l1).bind fun v209 => if v209 ≤ l6 then ((hp_gR H l0 9 20).bind fun v264 => (hp_ald H v264 l1).bind fun v268 => some (v268 - 1, H)) else ((hp_gR H l0 9 21).bind fun v215 => (hp_ald H v215 ((l5 + l6) - 1)).bind fun v225 => (hp_gR H l0 9 21).bind fun v227 => (hp_ald H v227 (l5 + l6)).bind fun v235 => if hp_is H l0 9 = true then ((fm_X11_renews l0 (fm_X11_between v225 v235) H).bind fun H239 => (hp_gR H239 l0 9 21).bind fun v244 => (hp_ald H239 v244 (l5 + l6)).bind fun v252 => if hp_is H239 l0 9 = true then ((fm_X11_tiedBy l0 v252 l2 H239).bind fun H254 => fm_X11_run_b202 n l0 l1 l2 l5 (l6 + 1) H254) else none) else none)
def fm_X11_run_b165 (k61 : Nat → Int32 → Int32 → Int32 → Int32 → Int32 → Int32 → qx_H → Option (Int32 × qx_H)) (l0 : Nat) (l1 : Int32) (l2 : Int32) (l3 : Int32) (l4 : Int32) (l5 : Int32) (l6 : Int32) (H : qx_H) : Option (Int32 × qx_H) := k61 l0 l1 l2 l3 l4 l5 (l6 + 1) H
def fm_X11_run_b137 (l6 : Int32) (H : qx_H) : Option (Int32 × qx_H) := some ((-10) - l6, H)
def fm_X11_run_b61 : Nat → Nat → Int32 → Int32 → Int32 → Int32 → Int32 → Int32 → qx_H → Option (Int32 × qx_H)
  | 0, _, _, _, _, _, _, _, _ => none
  | n + 1, l0, l1, l2, l3, l4, l5, l6, H => (hp_gR H l0 9 20).bind fun v64 => (hp_ald H v64 l1).bind fun v68 => if v68 ≤ l6 then ((hp_gR H l0 9 0).bind fun v172 => (hp_ald H v172 1).bind fun v176 => if l4 ≤ v176 then ((hp_gR H l0 9 0).bind fun v189 => (hp_ald H v189 1).bind fun v194 => (hp_ast H v189 1 (v194 - l4)).bind fun H198 => fm_X11_run_b202 5000 l0 l1 l2 l5 1 H198) else (if hp_is H l0 9 = true then (ob2 (fm_X11_error l0 4 H) fun v184 H184 => some (v184, H184)) else none)) else ((hp_gR H l0 9 21).bind fun v73 => (hp_ald H v73 (l5 + l6)).bind fun v81 => if (fm_X11_isKnot v81) = 0 then (some ((-10) - l6, H)) else (if l6 ≤ 0 then (fm_X11_run_b165 (fm_X11_run_b61 n) l0 l1 l2 l3 l4 l5 l6 H) else ((hp_gR H l0 9 21).bind fun v104 => (hp_ald H v104 ((l5 + l6) - 1)).bind fun v114 => if (fm_X11_between v114 v81) = (-1) then (fm_X11_run_b137 l6 H) else (if (fm_X11_isIn l3 (fm_X11_between v114 v81)) = 0 then (fm_X11_run_b137 l6 H) else (if hp_is H l0 9 = true then ((fm_X11_takes l0 v81 H).bind fun v158 => fm_X11_run_b165 (fm_X11_run_b61 n) l0 l1 l2 (l3 &&& ((ji_shl 1 (fm_X11_between v114 v81)) ^^^ (-1))) (l4 + (2 + v158)) l5 l6 H) else none)))))
def fm_X11_run (a0 : Nat) (a1 : Int32) (a2 : Int32) (H : qx_H) : Option (Int32 × qx_H) := if (fm_X11_isSheet a1) = 0 then (fm_X11_run_b14 a0 H) else (if (fm_X11_isHand a2) = 0 then (fm_X11_run_b14 a0 H) else ((hp_gR H a0 9 19).bind fun v21 => (hp_ald H v21 a1).bind fun v25 => if v25 = 0 then (fm_X11_run_b38 a0 H) else ((hp_gR H a0 9 20).bind fun v30 => (hp_ald H v30 a1).bind fun v34 => if v34 = 0 then (fm_X11_run_b38 a0 H) else (if hp_is H a0 9 = true then ((fm_X11_gone a0 H).bind fun v45 => fm_X11_run_b61 5000 a0 a1 a2 v45 0 (40 * a1) 0 H) else none))))
theorem tb_X11_run_14 {st : xT} {d : Nat} {R : Option Value → qx_H → Prop} (hd : 3 ≤ d) {r : Int32} {H' : qx_H} (hR : R (some (.int r)) H') (l0 : Nat) (z1 : Option Value) (hz1 : qx_ns z1 = true) (z2 : Option Value) (hz2 : qx_ns z2 = true) (H : qx_H) (h : fm_X11_run_b14 l0 H = some (r, H')) : qx_V (xE st d) R (xc179 st) (14, [some (.ref l0), z1, z2, none, none, none, none, none, none], [], H) := by
  unfold fm_X11_run_b14 at h
  refine qv_run 2 (σ := (16, [some (.ref l0), z1, z2, none, none, none, none, none, none], [.int 1, .ref l0], H)) rfl ?_
  obtain ⟨g16, h⟩ := qv_guard h
  obtain ⟨v16, H16, e16, h⟩ := qv_bind2 h
  refine qv_callV [.int 1] rfl rfl rfl (Nat.le_of_ble_eq_true rfl) g16 (th_X11_error (by omega) e16) (tl_X11_error e16) ?_
  obtain ⟨rfl, rfl⟩ := qv_pair h
  exact qv_reti rfl hR
theorem tlb_X11_run_14 {r : Int32} {H' : qx_H} (l0 : Nat) (H : qx_H) (h : fm_X11_run_b14 l0 H = some (r, H')) : H'.length = H.length := by
  unfold fm_X11_run_b14 at h
  obtain ⟨g16, h⟩ := qv_guard h
  obtain ⟨v16, H16, e16, h⟩ := qv_bind2 h
  have q_H16 := tl_X11_error e16
  obtain ⟨rfl, rfl⟩ := qv_pair h
  omega
theorem tb_X11_run_38 {st : xT} {d : Nat} {R : Option Value → qx_H → Prop} (hd : 3 ≤ d) {r : Int32} {H' : qx_H} (hR : R (some (.int r)) H') (l0 : Nat) (z1 : Option Value) (hz1 : qx_ns z1 = true) (z2 : Option Value) (hz2 : qx_ns z2 = true) (H : qx_H) (h : fm_X11_run_b38 l0 H = some (r, H')) : qx_V (xE st d) R (xc179 st) (38, [some (.ref l0), z1, z2, none, none, none, none, none, none], [], H) := by
  unfold fm_X11_run_b38 at h
  refine qv_run 2 (σ := (40, [some (.ref l0), z1, z2, none, none, none, none, none, none], [.int 2, .ref l0], H)) rfl ?_
  obtain ⟨g40, h⟩ := qv_guard h
  obtain ⟨v40, H40, e40, h⟩ := qv_bind2 h
  refine qv_callV [.int 2] rfl rfl rfl (Nat.le_of_ble_eq_true rfl) g40 (th_X11_error (by omega) e40) (tl_X11_error e40) ?_
  obtain ⟨rfl, rfl⟩ := qv_pair h
  exact qv_reti rfl hR
theorem tlb_X11_run_38 {r : Int32} {H' : qx_H} (l0 : Nat) (H : qx_H) (h : fm_X11_run_b38 l0 H = some (r, H')) : H'.length = H.length := by
  unfold fm_X11_run_b38 at h
  obtain ⟨g40, h⟩ := qv_guard h
  obtain ⟨v40, H40, e40, h⟩ := qv_bind2 h
  have q_H40 := tl_X11_error e40
  obtain ⟨rfl, rfl⟩ := qv_pair h
  omega
theorem tb_X11_run_202 {st : xT} {d : Nat} {R : Option Value → qx_H → Prop} (hd : 3 ≤ d) {r : Int32} {H' : qx_H} (hR : R (some (.int r)) H') : ∀ (n : Nat) (l0 : Nat) (l1 : Int32) (l2 : Int32) (l5 : Int32) (l6 : Int32) (z3 : Option Value) (hz3 : qx_ns z3 = true) (z4 : Option Value) (hz4 : qx_ns z4 = true) (z7 : Option Value) (hz7 : qx_ns z7 = true) (z8 : Option Value) (hz8 : qx_ns z8 = true) (H : qx_H) (h : fm_X11_run_b202 n l0 l1 l2 l5 l6 H = some (r, H')), qx_V (xE st d) R (xc179 st) (202, [some (.ref l0), some (.int l1), some (.int l2), z3, z4, some (.int l5), some (.int l6), z7, z8], [], H) := by
  intro n
  induction n with
  | zero => intro l0 l1 l2 l5 l6 z3 hz3 z4 hz4 z7 hz7 z8 hz8 H h; exact nomatch (show (none : Option (Int32 × qx_H)) = some (r, H') from h)
  | succ n ih =>
    intro l0 l1 l2 l5 l6 z3 hz3 z4 hz4 z7 hz7 z8 hz8 H h
    unfold fm_X11_run_b202 at h
    refine qv_run 2 (σ := (205, [some (.ref l0), some (.int l1), some (.int l2), z3, z4, some (.int l5), some (.int l6), z7, z8], [.ref l0, .int l6], H)) rfl ?_
    obtain ⟨v205, e205, h⟩ := qv_bind h
    refine qv_getR rfl e205 ?_
    refine qv_run 1 (σ := (209, [some (.ref l0), some (.int l1), some (.int l2), z3, z4, some (.int l5), some (.int l6), z7, z8], [.int l1, .ref v205, .int l6], H)) rfl ?_
    obtain ⟨v209, e209, h⟩ := qv_bind h
    refine qv_ald rfl e209 ?_
    refine qv_br (c := v209 ≤ l6) (a := (263, [some (.ref l0), some (.int l1), some (.int l2), z3, z4, some (.int l5), some (.int l6), z7, z8], [], H)) (b := (213, [some (.ref l0), some (.int l1), some (.int l2), z3, z4, some (.int l5), some (.int l6), z7, z8], [], H)) 1 rfl (fun c210 => ?_) (fun c210 => ?_)
    · replace h := qv_pos c210 h
      refine qv_run 1 (σ := (264, [some (.ref l0), some (.int l1), some (.int l2), z3, z4, some (.int l5), some (.int l6), z7, z8], [.ref l0], H)) rfl ?_
      obtain ⟨v264, e264, h⟩ := qv_bind h
      refine qv_getR rfl e264 ?_
      refine qv_run 1 (σ := (268, [some (.ref l0), some (.int l1), some (.int l2), z3, z4, some (.int l5), some (.int l6), z7, z8], [.int l1, .ref v264], H)) rfl ?_
      obtain ⟨v268, e268, h⟩ := qv_bind h
      refine qv_ald rfl e268 ?_
      refine qv_run 2 (σ := (271, [some (.ref l0), some (.int l1), some (.int l2), z3, z4, some (.int l5), some (.int l6), z7, z8], [.int (v268 - 1)], H)) rfl ?_
      obtain ⟨rfl, rfl⟩ := qv_pair h
      exact qv_reti rfl hR
    · replace h := qv_neg c210 h
      refine qv_run 2 (σ := (215, [some (.ref l0), some (.int l1), some (.int l2), z3, z4, some (.int l5), some (.int l6), z7, z8], [.ref l0, .ref l0], H)) rfl ?_
      obtain ⟨v215, e215, h⟩ := qv_bind h
      refine qv_getR rfl e215 ?_
      refine qv_run 5 (σ := (225, [some (.ref l0), some (.int l1), some (.int l2), z3, z4, some (.int l5), some (.int l6), z7, z8], [.int ((l5 + l6) - 1), .ref v215, .ref l0], H)) rfl ?_
      obtain ⟨v225, e225, h⟩ := qv_bind h
      refine qv_ald rfl e225 ?_
      refine qv_run 1 (σ := (227, [some (.ref l0), some (.int l1), some (.int l2), z3, z4, some (.int l5), some (.int l6), z7, z8], [.ref l0, .int v225, .ref l0], H)) rfl ?_
      obtain ⟨v227, e227, h⟩ := qv_bind h
      refine qv_getR rfl e227 ?_
      refine qv_run 3 (σ := (235, [some (.ref l0), some (.int l1), some (.int l2), z3, z4, some (.int l5), some (.int l6), z7, z8], [.int (l5 + l6), .ref v227, .int v225, .ref l0], H)) rfl ?_
      obtain ⟨v235, e235, h⟩ := qv_bind h
      refine qv_ald rfl e235 ?_
      refine qv_call [.int v225, .int v235] rfl rfl rfl (Nat.le_of_ble_eq_true rfl) (th_X11_between (by omega) rfl) rfl ?_
      obtain ⟨g239, h⟩ := qv_guard h
      obtain ⟨H239, e239, h⟩ := qv_bind h
      refine qv_callV [.int (fm_X11_between v225 v235)] rfl rfl rfl (Nat.le_of_ble_eq_true rfl) g239 (th_X11_renews (by omega) e239) (tl_X11_renews e239) ?_
      refine qv_run 2 (σ := (244, [some (.ref l0), some (.int l1), some (.int l2), z3, z4, some (.int l5), some (.int l6), z7, z8], [.ref l0, .ref l0], H239)) rfl ?_
      obtain ⟨v244, e244, h⟩ := qv_bind h
      refine qv_getR rfl e244 ?_
      refine qv_run 3 (σ := (252, [some (.ref l0), some (.int l1), some (.int l2), z3, z4, some (.int l5), some (.int l6), z7, z8], [.int (l5 + l6), .ref v244, .ref l0], H239)) rfl ?_
      obtain ⟨v252, e252, h⟩ := qv_bind h
      refine qv_ald rfl e252 ?_
      refine qv_run 1 (σ := (254, [some (.ref l0), some (.int l1), some (.int l2), z3, z4, some (.int l5), some (.int l6), z7, z8], [.int l2, .int v252, .ref l0], H239)) rfl ?_
      obtain ⟨g254, h⟩ := qv_guard h
      obtain ⟨H254, e254, h⟩ := qv_bind h
      refine qv_callV [.int v252, .int l2] rfl rfl rfl (Nat.le_of_ble_eq_true rfl) g254 (th_X11_tiedBy (by omega) e254) (tl_X11_tiedBy e254) ?_
      refine qv_run 2 (σ := (202, [some (.ref l0), some (.int l1), some (.int l2), z3, z4, some (.int l5), some (.int (l6 + 1)), z7, z8], [], H254)) rfl ?_
      exact ih l0 l1 l2 l5 (l6 + 1) z3 hz3 z4 hz4 z7 hz7 z8 hz8 H254 h
theorem tlb_X11_run_202 {r : Int32} {H' : qx_H} : ∀ (n : Nat) (l0 : Nat) (l1 : Int32) (l2 : Int32) (l5 : Int32) (l6 : Int32) (H : qx_H) (h : fm_X11_run_b202 n l0 l1 l2 l5 l6 H = some (r, H')), H'.length = H.length := by
  intro n
  induction n with
  | zero => intro l0 l1 l2 l5 l6 H h; exact nomatch (show (none : Option (Int32 × qx_H)) = some (r, H') from h)
  | succ n ih =>
    intro l0 l1 l2 l5 l6 H h
    unfold fm_X11_run_b202 at h
    obtain ⟨v205, e205, h⟩ := qv_bind h
    obtain ⟨v209, e209, h⟩ := qv_bind h
    by_cases c210 : v209 ≤ l6
    · replace h := qv_pos c210 h
      obtain ⟨v264, e264, h⟩ := qv_bind h
      obtain ⟨v268, e268, h⟩ := qv_bind h
      obtain ⟨rfl, rfl⟩ := qv_pair h
      rfl
    · replace h := qv_neg c210 h
      obtain ⟨v215, e215, h⟩ := qv_bind h
      obtain ⟨v225, e225, h⟩ := qv_bind h
      obtain ⟨v227, e227, h⟩ := qv_bind h
      obtain ⟨v235, e235, h⟩ := qv_bind h
      obtain ⟨g239, h⟩ := qv_guard h
      obtain ⟨H239, e239, h⟩ := qv_bind h
      have q_H239 := tl_X11_renews e239
      obtain ⟨v244, e244, h⟩ := qv_bind h
      obtain ⟨v252, e252, h⟩ := qv_bind h
      obtain ⟨g254, h⟩ := qv_guard h
      obtain ⟨H254, e254, h⟩ := qv_bind h
      have q_H254 := tl_X11_tiedBy e254
      have q_end := ih l0 l1 l2 l5 (l6 + 1) H254 h
      omega
theorem tb_X11_run_165 {st : xT} {d : Nat} {R : Option Value → qx_H → Prop} (hd : 3 ≤ d) {r : Int32} {H' : qx_H} (k61 : Nat → Int32 → Int32 → Int32 → Int32 → Int32 → Int32 → qx_H → Option (Int32 × qx_H)) (hk61 : ∀ (l0 : Nat) (l1 : Int32) (l2 : Int32) (l3 : Int32) (l4 : Int32) (l5 : Int32) (l6 : Int32) (z7 : Option Value) (hz7 : qx_ns z7 = true) (z8 : Option Value) (hz8 : qx_ns z8 = true) (H : qx_H), k61 l0 l1 l2 l3 l4 l5 l6 H = some (r, H') → qx_V (xE st d) R (xc179 st) (61, [some (.ref l0), some (.int l1), some (.int l2), some (.int l3), some (.int l4), some (.int l5), some (.int l6), z7, z8], [], H)) (hR : R (some (.int r)) H') (l0 : Nat) (l1 : Int32) (l2 : Int32) (l3 : Int32) (l4 : Int32) (l5 : Int32) (l6 : Int32) (z7 : Option Value) (hz7 : qx_ns z7 = true) (z8 : Option Value) (hz8 : qx_ns z8 = true) (H : qx_H) (h : fm_X11_run_b165 k61 l0 l1 l2 l3 l4 l5 l6 H = some (r, H')) : qx_V (xE st d) R (xc179 st) (165, [some (.ref l0), some (.int l1), some (.int l2), some (.int l3), some (.int l4), some (.int l5), some (.int l6), z7, z8], [], H) := by
  unfold fm_X11_run_b165 at h
  refine qv_run 2 (σ := (61, [some (.ref l0), some (.int l1), some (.int l2), some (.int l3), some (.int l4), some (.int l5), some (.int (l6 + 1)), z7, z8], [], H)) rfl ?_
  exact hk61 l0 l1 l2 l3 l4 l5 (l6 + 1) z7 hz7 z8 hz8 H h
theorem tlb_X11_run_165 {r : Int32} {H' : qx_H} (k61 : Nat → Int32 → Int32 → Int32 → Int32 → Int32 → Int32 → qx_H → Option (Int32 × qx_H)) (hk61 : ∀ (l0 : Nat) (l1 : Int32) (l2 : Int32) (l3 : Int32) (l4 : Int32) (l5 : Int32) (l6 : Int32) (H : qx_H), k61 l0 l1 l2 l3 l4 l5 l6 H = some (r, H') → H'.length = H.length) (l0 : Nat) (l1 : Int32) (l2 : Int32) (l3 : Int32) (l4 : Int32) (l5 : Int32) (l6 : Int32) (H : qx_H) (h : fm_X11_run_b165 k61 l0 l1 l2 l3 l4 l5 l6 H = some (r, H')) : H'.length = H.length := by
  unfold fm_X11_run_b165 at h
  exact hk61 l0 l1 l2 l3 l4 l5 (l6 + 1) H h
theorem tb_X11_run_137 {st : xT} {d : Nat} {R : Option Value → qx_H → Prop} (hd : 3 ≤ d) {r : Int32} {H' : qx_H} (hR : R (some (.int r)) H') (l6 : Int32) (z0 : Option Value) (hz0 : qx_ns z0 = true) (z1 : Option Value) (hz1 : qx_ns z1 = true) (z2 : Option Value) (hz2 : qx_ns z2 = true) (z3 : Option Value) (hz3 : qx_ns z3 = true) (z4 : Option Value) (hz4 : qx_ns z4 = true) (z5 : Option Value) (hz5 : qx_ns z5 = true) (z7 : Option Value) (hz7 : qx_ns z7 = true) (z8 : Option Value) (hz8 : qx_ns z8 = true) (H : qx_H) (h : fm_X11_run_b137 l6 H = some (r, H')) : qx_V (xE st d) R (xc179 st) (137, [z0, z1, z2, z3, z4, z5, some (.int l6), z7, z8], [], H) := by
  unfold fm_X11_run_b137 at h
  refine qv_run 3 (σ := (142, [z0, z1, z2, z3, z4, z5, some (.int l6), z7, z8], [.int ((-10) - l6)], H)) rfl ?_
  obtain ⟨rfl, rfl⟩ := qv_pair h
  exact qv_reti rfl hR
theorem tlb_X11_run_137 {r : Int32} {H' : qx_H} (l6 : Int32) (H : qx_H) (h : fm_X11_run_b137 l6 H = some (r, H')) : H'.length = H.length := by
  unfold fm_X11_run_b137 at h
  obtain ⟨rfl, rfl⟩ := qv_pair h
  rfl
theorem tb_X11_run_61 {st : xT} {d : Nat} {R : Option Value → qx_H → Prop} (hd : 3 ≤ d) {r : Int32} {H' : qx_H} (hR : R (some (.int r)) H') : ∀ (n : Nat) (l0 : Nat) (l1 : Int32) (l2 : Int32) (l3 : Int32) (l4 : Int32) (l5 : Int32) (l6 : Int32) (z7 : Option Value) (hz7 : qx_ns z7 = true) (z8 : Option Value) (hz8 : qx_ns z8 = true) (H : qx_H) (h : fm_X11_run_b61 n l0 l1 l2 l3 l4 l5 l6 H = some (r, H')), qx_V (xE st d) R (xc179 st) (61, [some (.ref l0), some (.int l1), some (.int l2), some (.int l3), some (.int l4), some (.int l5), some (.int l6), z7, z8], [], H) := by
  intro n
  induction n with
  | zero => intro l0 l1 l2 l3 l4 l5 l6 z7 hz7 z8 hz8 H h; exact nomatch (show (none : Option (Int32 × qx_H)) = some (r, H') from h)
  | succ n ih =>
    intro l0 l1 l2 l3 l4 l5 l6 z7 hz7 z8 hz8 H h
    unfold fm_X11_run_b61 at h
    refine qv_run 2 (σ := (64, [some (.ref l0), some (.int l1), some (.int l2), some (.int l3), some (.int l4), some (.int l5), some (.int l6), z7, z8], [.ref l0, .int l6], H)) rfl ?_
    obtain ⟨v64, e64, h⟩ := qv_bind h
    refine qv_getR rfl e64 ?_
    refine qv_run 1 (σ := (68, [some (.ref l0), some (.int l1), some (.int l2), some (.int l3), some (.int l4), some (.int l5), some (.int l6), z7, z8], [.int l1, .ref v64, .int l6], H)) rfl ?_
    obtain ⟨v68, e68, h⟩ := qv_bind h
    refine qv_ald rfl e68 ?_
    refine qv_br (c := v68 ≤ l6) (a := (171, [some (.ref l0), some (.int l1), some (.int l2), some (.int l3), some (.int l4), some (.int l5), some (.int l6), z7, z8], [], H)) (b := (72, [some (.ref l0), some (.int l1), some (.int l2), some (.int l3), some (.int l4), some (.int l5), some (.int l6), z7, z8], [], H)) 1 rfl (fun c69 => ?_) (fun c69 => ?_)
    · replace h := qv_pos c69 h
      refine qv_run 1 (σ := (172, [some (.ref l0), some (.int l1), some (.int l2), some (.int l3), some (.int l4), some (.int l5), some (.int l6), z7, z8], [.ref l0], H)) rfl ?_
      obtain ⟨v172, e172, h⟩ := qv_bind h
      refine qv_getR rfl e172 ?_
      refine qv_run 1 (σ := (176, [some (.ref l0), some (.int l1), some (.int l2), some (.int l3), some (.int l4), some (.int l5), some (.int l6), z7, z8], [.int 1, .ref v172], H)) rfl ?_
      obtain ⟨v176, e176, h⟩ := qv_bind h
      refine qv_ald rfl e176 ?_
      refine qv_br (c := l4 ≤ v176) (a := (188, [some (.ref l0), some (.int l1), some (.int l2), some (.int l3), some (.int l4), some (.int l5), some (.int l6), z7, z8], [], H)) (b := (182, [some (.ref l0), some (.int l1), some (.int l2), some (.int l3), some (.int l4), some (.int l5), some (.int l6), z7, z8], [], H)) 2 rfl (fun c179 => ?_) (fun c179 => ?_)
      · replace h := qv_pos c179 h
        refine qv_run 1 (σ := (189, [some (.ref l0), some (.int l1), some (.int l2), some (.int l3), some (.int l4), some (.int l5), some (.int l6), z7, z8], [.ref l0], H)) rfl ?_
        obtain ⟨v189, e189, h⟩ := qv_bind h
        refine qv_getR rfl e189 ?_
        refine qv_run 2 (σ := (194, [some (.ref l0), some (.int l1), some (.int l2), some (.int l3), some (.int l4), some (.int l5), some (.int l6), z7, z8], [.int 1, .ref v189, .int 1, .ref v189], H)) rfl ?_
        obtain ⟨v194, e194, h⟩ := qv_bind h
        refine qv_ald rfl e194 ?_
        refine qv_run 2 (σ := (198, [some (.ref l0), some (.int l1), some (.int l2), some (.int l3), some (.int l4), some (.int l5), some (.int l6), z7, z8], [.int (v194 - l4), .int 1, .ref v189], H)) rfl ?_
        obtain ⟨H198, e198, h⟩ := qv_bind h
        refine qv_ast rfl e198 ?_
        refine qv_run 2 (σ := (202, [some (.ref l0), some (.int l1), some (.int l2), some (.int l3), some (.int l4), some (.int l5), some (.int 1), z7, z8], [], H198)) rfl ?_
        exact tb_X11_run_202 hd hR 5000 l0 l1 l2 l5 1 (some (.int l3)) rfl (some (.int l4)) rfl z7 hz7 z8 hz8 H198 h
      · replace h := qv_neg c179 h
        refine qv_run 2 (σ := (184, [some (.ref l0), some (.int l1), some (.int l2), some (.int l3), some (.int l4), some (.int l5), some (.int l6), z7, z8], [.int 4, .ref l0], H)) rfl ?_
        obtain ⟨g184, h⟩ := qv_guard h
        obtain ⟨v184, H184, e184, h⟩ := qv_bind2 h
        refine qv_callV [.int 4] rfl rfl rfl (Nat.le_of_ble_eq_true rfl) g184 (th_X11_error (by omega) e184) (tl_X11_error e184) ?_
        obtain ⟨rfl, rfl⟩ := qv_pair h
        exact qv_reti rfl hR
    · replace h := qv_neg c69 h
      refine qv_run 1 (σ := (73, [some (.ref l0), some (.int l1), some (.int l2), some (.int l3), some (.int l4), some (.int l5), some (.int l6), z7, z8], [.ref l0], H)) rfl ?_
      obtain ⟨v73, e73, h⟩ := qv_bind h
      refine qv_getR rfl e73 ?_
      refine qv_run 3 (σ := (81, [some (.ref l0), some (.int l1), some (.int l2), some (.int l3), some (.int l4), some (.int l5), some (.int l6), z7, z8], [.int (l5 + l6), .ref v73], H)) rfl ?_
      obtain ⟨v81, e81, h⟩ := qv_bind h
      refine qv_ald rfl e81 ?_
      refine qv_run 2 (σ := (86, [some (.ref l0), some (.int l1), some (.int l2), some (.int l3), some (.int l4), some (.int l5), some (.int l6), some (.int v81), z8], [.int v81], H)) rfl ?_
      refine qv_call [.int v81] rfl rfl rfl (Nat.le_of_ble_eq_true rfl) (th_X11_isKnot (by omega) rfl) rfl ?_
      refine qv_br (c := (fm_X11_isKnot v81) = 0) (a := (92, [some (.ref l0), some (.int l1), some (.int l2), some (.int l3), some (.int l4), some (.int l5), some (.int l6), some (.int v81), z8], [], H)) (b := (98, [some (.ref l0), some (.int l1), some (.int l2), some (.int l3), some (.int l4), some (.int l5), some (.int l6), some (.int v81), z8], [], H)) 1 rfl (fun c89 => ?_) (fun c89 => ?_)
      · replace h := qv_pos c89 h
        refine qv_run 3 (σ := (97, [some (.ref l0), some (.int l1), some (.int l2), some (.int l3), some (.int l4), some (.int l5), some (.int l6), some (.int v81), z8], [.int ((-10) - l6)], H)) rfl ?_
        obtain ⟨rfl, rfl⟩ := qv_pair h
        exact qv_reti rfl hR
      · replace h := qv_neg c89 h
        refine qv_br (c := l6 ≤ 0) (a := (165, [some (.ref l0), some (.int l1), some (.int l2), some (.int l3), some (.int l4), some (.int l5), some (.int l6), some (.int v81), z8], [], H)) (b := (103, [some (.ref l0), some (.int l1), some (.int l2), some (.int l3), some (.int l4), some (.int l5), some (.int l6), some (.int v81), z8], [], H)) 2 rfl (fun c100 => ?_) (fun c100 => ?_)
        · replace h := qv_pos c100 h
          exact tb_X11_run_165 hd _ ih hR l0 l1 l2 l3 l4 l5 l6 (some (.int v81)) rfl z8 hz8 H h
        · replace h := qv_neg c100 h
          refine qv_run 1 (σ := (104, [some (.ref l0), some (.int l1), some (.int l2), some (.int l3), some (.int l4), some (.int l5), some (.int l6), some (.int v81), z8], [.ref l0], H)) rfl ?_
          obtain ⟨v104, e104, h⟩ := qv_bind h
          refine qv_getR rfl e104 ?_
          refine qv_run 5 (σ := (114, [some (.ref l0), some (.int l1), some (.int l2), some (.int l3), some (.int l4), some (.int l5), some (.int l6), some (.int v81), z8], [.int ((l5 + l6) - 1), .ref v104], H)) rfl ?_
          obtain ⟨v114, e114, h⟩ := qv_bind h
          refine qv_ald rfl e114 ?_
          refine qv_run 1 (σ := (117, [some (.ref l0), some (.int l1), some (.int l2), some (.int l3), some (.int l4), some (.int l5), some (.int l6), some (.int v81), z8], [.int v81, .int v114], H)) rfl ?_
          refine qv_call [.int v114, .int v81] rfl rfl rfl (Nat.le_of_ble_eq_true rfl) (th_X11_between (by omega) rfl) rfl ?_
          refine qv_br (c := (fm_X11_between v114 v81) = (-1)) (a := (137, [some (.ref l0), some (.int l1), some (.int l2), some (.int l3), some (.int l4), some (.int l5), some (.int l6), some (.int v81), some (.int (fm_X11_between v114 v81))], [], H)) (b := (128, [some (.ref l0), some (.int l1), some (.int l2), some (.int l3), some (.int l4), some (.int l5), some (.int l6), some (.int v81), some (.int (fm_X11_between v114 v81))], [], H)) 4 rfl (fun c125 => ?_) (fun c125 => ?_)
          · replace h := qv_pos c125 h
            exact tb_X11_run_137 hd hR l6 (some (.ref l0)) rfl (some (.int l1)) rfl (some (.int l2)) rfl (some (.int l3)) rfl (some (.int l4)) rfl (some (.int l5)) rfl (some (.int v81)) rfl (some (.int (fm_X11_between v114 v81))) rfl H h
          · replace h := qv_neg c125 h
            refine qv_run 2 (σ := (131, [some (.ref l0), some (.int l1), some (.int l2), some (.int l3), some (.int l4), some (.int l5), some (.int l6), some (.int v81), some (.int (fm_X11_between v114 v81))], [.int (fm_X11_between v114 v81), .int l3], H)) rfl ?_
            refine qv_call [.int l3, .int (fm_X11_between v114 v81)] rfl rfl rfl (Nat.le_of_ble_eq_true rfl) (th_X11_isIn (by omega) rfl) rfl ?_
            refine qv_br (c := (fm_X11_isIn l3 (fm_X11_between v114 v81)) = 0) (a := (137, [some (.ref l0), some (.int l1), some (.int l2), some (.int l3), some (.int l4), some (.int l5), some (.int l6), some (.int v81), some (.int (fm_X11_between v114 v81))], [], H)) (b := (143, [some (.ref l0), some (.int l1), some (.int l2), some (.int l3), some (.int l4), some (.int l5), some (.int l6), some (.int v81), some (.int (fm_X11_between v114 v81))], [], H)) 1 rfl (fun c134 => ?_) (fun c134 => ?_)
            · replace h := qv_pos c134 h
              exact tb_X11_run_137 hd hR l6 (some (.ref l0)) rfl (some (.int l1)) rfl (some (.int l2)) rfl (some (.int l3)) rfl (some (.int l4)) rfl (some (.int l5)) rfl (some (.int v81)) rfl (some (.int (fm_X11_between v114 v81))) rfl H h
            · replace h := qv_neg c134 h
              refine qv_run 12 (σ := (158, [some (.ref l0), some (.int l1), some (.int l2), some (.int (l3 &&& ((ji_shl 1 (fm_X11_between v114 v81)) ^^^ (-1)))), some (.int l4), some (.int l5), some (.int l6), some (.int v81), some (.int (fm_X11_between v114 v81))], [.int v81, .ref l0, .int 2, .int l4], H)) rfl ?_
              obtain ⟨g158, h⟩ := qv_guard h
              obtain ⟨v158, e158, h⟩ := qv_bind h
              refine qv_callV [.int v81] rfl rfl rfl (Nat.le_of_ble_eq_true rfl) g158 (th_X11_takes (by omega) e158) rfl ?_
              refine qv_run 3 (σ := (165, [some (.ref l0), some (.int l1), some (.int l2), some (.int (l3 &&& ((ji_shl 1 (fm_X11_between v114 v81)) ^^^ (-1)))), some (.int (l4 + (2 + v158))), some (.int l5), some (.int l6), some (.int v81), some (.int (fm_X11_between v114 v81))], [], H)) rfl ?_
              exact tb_X11_run_165 hd _ ih hR l0 l1 l2 (l3 &&& ((ji_shl 1 (fm_X11_between v114 v81)) ^^^ (-1))) (l4 + (2 + v158)) l5 l6 (some (.int v81)) rfl (some (.int (fm_X11_between v114 v81))) rfl H h
theorem tlb_X11_run_61 {r : Int32} {H' : qx_H} : ∀ (n : Nat) (l0 : Nat) (l1 : Int32) (l2 : Int32) (l3 : Int32) (l4 : Int32) (l5 : Int32) (l6 : Int32) (H : qx_H) (h : fm_X11_run_b61 n l0 l1 l2 l3 l4 l5 l6 H = some (r, H')), H'.length = H.length := by
  intro n
  induction n with
  | zero => intro l0 l1 l2 l3 l4 l5 l6 H h; exact nomatch (show (none : Option (Int32 × qx_H)) = some (r, H') from h)
  | succ n ih =>
    intro l0 l1 l2 l3 l4 l5 l6 H h
    unfold fm_X11_run_b61 at h
    obtain ⟨v64, e64, h⟩ := qv_bind h
    obtain ⟨v68, e68, h⟩ := qv_bind h
    by_cases c69 : v68 ≤ l6
    · replace h := qv_pos c69 h
      obtain ⟨v172, e172, h⟩ := qv_bind h
      obtain ⟨v176, e176, h⟩ := qv_bind h
      by_cases c179 : l4 ≤ v176
      · replace h := qv_pos c179 h
        obtain ⟨v189, e189, h⟩ := qv_bind h
        obtain ⟨v194, e194, h⟩ := qv_bind h
        obtain ⟨H198, e198, h⟩ := qv_bind h
        have q_H198 := hp_ast_len e198
        have q_end := tlb_X11_run_202 5000 l0 l1 l2 l5 1 H198 h
        omega
      · replace h := qv_neg c179 h
        obtain ⟨g184, h⟩ := qv_guard h
        obtain ⟨v184, H184, e184, h⟩ := qv_bind2 h
        have q_H184 := tl_X11_error e184
        obtain ⟨rfl, rfl⟩ := qv_pair h
        omega
    · replace h := qv_neg c69 h
      obtain ⟨v73, e73, h⟩ := qv_bind h
      obtain ⟨v81, e81, h⟩ := qv_bind h
      by_cases c89 : (fm_X11_isKnot v81) = 0
      · replace h := qv_pos c89 h
        obtain ⟨rfl, rfl⟩ := qv_pair h
        rfl
      · replace h := qv_neg c89 h
        by_cases c100 : l6 ≤ 0
        · replace h := qv_pos c100 h
          exact tlb_X11_run_165 _ ih l0 l1 l2 l3 l4 l5 l6 H h
        · replace h := qv_neg c100 h
          obtain ⟨v104, e104, h⟩ := qv_bind h
          obtain ⟨v114, e114, h⟩ := qv_bind h
          by_cases c125 : (fm_X11_between v114 v81) = (-1)
          · replace h := qv_pos c125 h
            exact tlb_X11_run_137 l6 H h
          · replace h := qv_neg c125 h
            by_cases c134 : (fm_X11_isIn l3 (fm_X11_between v114 v81)) = 0
            · replace h := qv_pos c134 h
              exact tlb_X11_run_137 l6 H h
            · replace h := qv_neg c134 h
              obtain ⟨g158, h⟩ := qv_guard h
              obtain ⟨v158, e158, h⟩ := qv_bind h
              exact tlb_X11_run_165 _ ih l0 l1 l2 (l3 &&& ((ji_shl 1 (fm_X11_between v114 v81)) ^^^ (-1))) (l4 + (2 + v158)) l5 l6 H h
theorem tb_X11_run_0 {st : xT} {d : Nat} {R : Option Value → qx_H → Prop} (hd : 3 ≤ d) {r : Int32} {H' : qx_H} (hR : R (some (.int r)) H') (a0 : Nat) (a1 : Int32) (a2 : Int32) (H : qx_H) (h : fm_X11_run a0 a1 a2 H = some (r, H')) : qx_V (xE st d) R (xc179 st) (0, [some (.ref a0), some (.int a1), some (.int a2), none, none, none, none, none, none], [], H) := by
  unfold fm_X11_run at h
  refine qv_run 1 (σ := (1, [some (.ref a0), some (.int a1), some (.int a2), none, none, none, none, none, none], [.int a1], H)) rfl ?_
  refine qv_call [.int a1] rfl rfl rfl (Nat.le_of_ble_eq_true rfl) (th_X11_isSheet (by omega) rfl) rfl ?_
  refine qv_br (c := (fm_X11_isSheet a1) = 0) (a := (14, [some (.ref a0), some (.int a1), some (.int a2), none, none, none, none, none, none], [], H)) (b := (7, [some (.ref a0), some (.int a1), some (.int a2), none, none, none, none, none, none], [], H)) 1 rfl (fun c4 => ?_) (fun c4 => ?_)
  · replace h := qv_pos c4 h
    exact tb_X11_run_14 hd hR a0 (some (.int a1)) rfl (some (.int a2)) rfl H h
  · replace h := qv_neg c4 h
    refine qv_run 1 (σ := (8, [some (.ref a0), some (.int a1), some (.int a2), none, none, none, none, none, none], [.int a2], H)) rfl ?_
    refine qv_call [.int a2] rfl rfl rfl (Nat.le_of_ble_eq_true rfl) (th_X11_isHand (by omega) rfl) rfl ?_
    refine qv_br (c := (fm_X11_isHand a2) = 0) (a := (14, [some (.ref a0), some (.int a1), some (.int a2), none, none, none, none, none, none], [], H)) (b := (20, [some (.ref a0), some (.int a1), some (.int a2), none, none, none, none, none, none], [], H)) 1 rfl (fun c11 => ?_) (fun c11 => ?_)
    · replace h := qv_pos c11 h
      exact tb_X11_run_14 hd hR a0 (some (.int a1)) rfl (some (.int a2)) rfl H h
    · replace h := qv_neg c11 h
      refine qv_run 1 (σ := (21, [some (.ref a0), some (.int a1), some (.int a2), none, none, none, none, none, none], [.ref a0], H)) rfl ?_
      obtain ⟨v21, e21, h⟩ := qv_bind h
      refine qv_getR rfl e21 ?_
      refine qv_run 1 (σ := (25, [some (.ref a0), some (.int a1), some (.int a2), none, none, none, none, none, none], [.int a1, .ref v21], H)) rfl ?_
      obtain ⟨v25, e25, h⟩ := qv_bind h
      refine qv_ald rfl e25 ?_
      refine qv_br (c := v25 = 0) (a := (38, [some (.ref a0), some (.int a1), some (.int a2), none, none, none, none, none, none], [], H)) (b := (29, [some (.ref a0), some (.int a1), some (.int a2), none, none, none, none, none, none], [], H)) 1 rfl (fun c26 => ?_) (fun c26 => ?_)
      · replace h := qv_pos c26 h
        exact tb_X11_run_38 hd hR a0 (some (.int a1)) rfl (some (.int a2)) rfl H h
      · replace h := qv_neg c26 h
        refine qv_run 1 (σ := (30, [some (.ref a0), some (.int a1), some (.int a2), none, none, none, none, none, none], [.ref a0], H)) rfl ?_
        obtain ⟨v30, e30, h⟩ := qv_bind h
        refine qv_getR rfl e30 ?_
        refine qv_run 1 (σ := (34, [some (.ref a0), some (.int a1), some (.int a2), none, none, none, none, none, none], [.int a1, .ref v30], H)) rfl ?_
        obtain ⟨v34, e34, h⟩ := qv_bind h
        refine qv_ald rfl e34 ?_
        refine qv_br (c := v34 = 0) (a := (38, [some (.ref a0), some (.int a1), some (.int a2), none, none, none, none, none, none], [], H)) (b := (44, [some (.ref a0), some (.int a1), some (.int a2), none, none, none, none, none, none], [], H)) 1 rfl (fun c35 => ?_) (fun c35 => ?_)
        · replace h := qv_pos c35 h
          exact tb_X11_run_38 hd hR a0 (some (.int a1)) rfl (some (.int a2)) rfl H h
        · replace h := qv_neg c35 h
          refine qv_run 1 (σ := (45, [some (.ref a0), some (.int a1), some (.int a2), none, none, none, none, none, none], [.ref a0], H)) rfl ?_
          obtain ⟨g45, h⟩ := qv_guard h
          obtain ⟨v45, e45, h⟩ := qv_bind h
          refine qv_callV [] rfl rfl rfl (Nat.le_of_ble_eq_true rfl) g45 (th_X11_gone (by omega) e45) rfl ?_
          refine qv_run 9 (σ := (61, [some (.ref a0), some (.int a1), some (.int a2), some (.int v45), some (.int 0), some (.int (40 * a1)), some (.int 0), none, none], [], H)) rfl ?_
          exact tb_X11_run_61 hd hR 5000 a0 a1 a2 v45 0 (40 * a1) 0 none rfl none rfl H h
theorem tlb_X11_run_0 {r : Int32} {H' : qx_H} (a0 : Nat) (a1 : Int32) (a2 : Int32) (H : qx_H) (h : fm_X11_run a0 a1 a2 H = some (r, H')) : H'.length = H.length := by
  unfold fm_X11_run at h
  by_cases c4 : (fm_X11_isSheet a1) = 0
  · replace h := qv_pos c4 h
    exact tlb_X11_run_14 a0 H h
  · replace h := qv_neg c4 h
    by_cases c11 : (fm_X11_isHand a2) = 0
    · replace h := qv_pos c11 h
      exact tlb_X11_run_14 a0 H h
    · replace h := qv_neg c11 h
      obtain ⟨v21, e21, h⟩ := qv_bind h
      obtain ⟨v25, e25, h⟩ := qv_bind h
      by_cases c26 : v25 = 0
      · replace h := qv_pos c26 h
        exact tlb_X11_run_38 a0 H h
      · replace h := qv_neg c26 h
        obtain ⟨v30, e30, h⟩ := qv_bind h
        obtain ⟨v34, e34, h⟩ := qv_bind h
        by_cases c35 : v34 = 0
        · replace h := qv_pos c35 h
          exact tlb_X11_run_38 a0 H h
        · replace h := qv_neg c35 h
          obtain ⟨g45, h⟩ := qv_guard h
          obtain ⟨v45, e45, h⟩ := qv_bind h
          exact tlb_X11_run_61 5000 a0 a1 a2 v45 0 (40 * a1) 0 H h
theorem th_X11_run {st : xT} {d : Nat} (hd : 4 ≤ d) {a0 : Nat} {a1 : Int32} {a2 : Int32} {H : qx_H} {r : Int32} {H' : qx_H} (h : fm_X11_run a0 a1 a2 H = some (r, H')) : xE st d 179 [.ref a0, .int a1, .int a2] H (some (.int r)) H' := by
  obtain ⟨d, rfl⟩ : ∃ d', d = d' + 1 := ⟨d - 1, by omega⟩
  exact xE_of (xe179 st) xl179 (Nat.le_of_ble_eq_true rfl) (ls := [some (.ref a0), some (.int a1), some (.int a2), none, none, none, none, none, none]) rfl (tb_X11_run_0 (by omega) ⟨rfl, rfl⟩ a0 a1 a2 H h)
theorem tl_X11_run {a0 : Nat} {a1 : Int32} {a2 : Int32} {H : qx_H} {r : Int32} {H' : qx_H} (h : fm_X11_run a0 a1 a2 H = some (r, H')) : H'.length = H.length := tlb_X11_run_0 a0 a1 a2 H h
def fm_X11_oddOnes_b4 : Nat → Int32 → Int32 → Int32 → qx_H → Option Int32
  | 0, _, _, _, _ => none
  | n + 1, l0, l1, l2, H => if 20 ≤ l2 then (some l1) else ((fm_X11_endsAt l0 l2 H).bind fun v13 => fm_X11_oddOnes_b4 n l0 (l1 + (ji_rem v13 2)) (l2 + 1) H)
def fm_X11_oddOnes (a0 : Int32) (H : qx_H) : Option Int32 := fm_X11_oddOnes_b4 5000 a0 0 0 H
theorem tb_X11_oddOnes_4 {st : xT} {d : Nat} {R : Option Value → qx_H → Prop} (hd : 4 ≤ d) {r : Int32} {H : qx_H} (hR : R (some (.int r)) H) : ∀ (n : Nat) (l0 : Int32) (l1 : Int32) (l2 : Int32) (h : fm_X11_oddOnes_b4 n l0 l1 l2 H = some r), qx_V (xE st d) R (xc180 st) (4, [some (.int l0), some (.int l1), some (.int l2)], [], H) := by
  intro n
  induction n with
  | zero => intro l0 l1 l2 h; exact nomatch (show (none : Option Int32) = some r from h)
  | succ n ih =>
    intro l0 l1 l2 h
    unfold fm_X11_oddOnes_b4 at h
    refine qv_br (c := 20 ≤ l2) (a := (26, [some (.int l0), some (.int l1), some (.int l2)], [], H)) (b := (10, [some (.int l0), some (.int l1), some (.int l2)], [], H)) 3 rfl (fun c7 => ?_) (fun c7 => ?_)
    · replace h := qv_pos c7 h
      refine qv_run 1 (σ := (27, [some (.int l0), some (.int l1), some (.int l2)], [.int l1], H)) rfl ?_
      cases h
      exact qv_reti rfl hR
    · replace h := qv_neg c7 h
      refine qv_run 3 (σ := (13, [some (.int l0), some (.int l1), some (.int l2)], [.int l2, .int l0, .int l1], H)) rfl ?_
      obtain ⟨v13, e13, h⟩ := qv_bind h
      refine qv_call [.int l0, .int l2] rfl rfl rfl (Nat.le_of_ble_eq_true rfl) (th_X11_endsAt (by omega) e13) rfl ?_
      refine qv_run 1 (σ := (17, [some (.int l0), some (.int l1), some (.int l2)], [.int 2, .int v13, .int l1], H)) rfl ?_
      refine qv_div rfl (by decide) ?_
      refine qv_run 4 (σ := (4, [some (.int l0), some (.int (l1 + (ji_rem v13 2))), some (.int (l2 + 1))], [], H)) rfl ?_
      exact ih l0 (l1 + (ji_rem v13 2)) (l2 + 1) h
theorem tb_X11_oddOnes_0 {st : xT} {d : Nat} {R : Option Value → qx_H → Prop} (hd : 4 ≤ d) {r : Int32} {H : qx_H} (hR : R (some (.int r)) H) (a0 : Int32) (h : fm_X11_oddOnes a0 H = some r) : qx_V (xE st d) R (xc180 st) (0, [some (.int a0), none, none], [], H) := by
  unfold fm_X11_oddOnes at h
  refine qv_run 4 (σ := (4, [some (.int a0), some (.int 0), some (.int 0)], [], H)) rfl ?_
  exact tb_X11_oddOnes_4 hd hR 5000 a0 0 0 h
theorem th_X11_oddOnes {st : xT} {d : Nat} (hd : 5 ≤ d) {a0 : Int32} {r : Int32} {H : qx_H} (h : fm_X11_oddOnes a0 H = some r) : xE st d 180 [.int a0] H (some (.int r)) H := by
  obtain ⟨d, rfl⟩ : ∃ d', d = d' + 1 := ⟨d - 1, by omega⟩
  exact xE_of (xe180 st) xl180 (Nat.le_of_ble_eq_true rfl) (ls := [some (.int a0), none, none]) rfl (tb_X11_oddOnes_0 (by omega) ⟨rfl, rfl⟩ a0 h)
def fm_X11_hangs_b85 (k21 : Int32 → Int32 → Int32 → Int32 → qx_H → Option Int32) (k33 : Int32 → Int32 → Int32 → Int32 → Int32 → qx_H → Option Int32) (l0 : Int32) (l2 : Int32) (l3 : Int32) (l4 : Int32) (l5 : Int32) (H : qx_H) : Option Int32 := k33 l0 l2 l3 l4 (l5 + 1) H
def fm_X11_hangs_b33 (k21 : Int32 → Int32 → Int32 → Int32 → qx_H → Option Int32) : Nat → Int32 → Int32 → Int32 → Int32 → Int32 → qx_H → Option Int32
  | 0, _, _, _, _, _, _ => none
  | n + 1, l0, l2, l3, l4, l5, H => if 31 ≤ l5 then (k21 l0 l2 l3 l4 H) else (if (fm_X11_isIn l0 l5) = 0 then (fm_X11_hangs_b85 k21 (fm_X11_hangs_b33 k21 n) l0 l2 l3 l4 l5 H) else (if (((ji_shl 1 (fm_X11_lessOf l5)) ||| (ji_shl 1 (fm_X11_otherOf l5))) &&& l3) = 0 then (fm_X11_hangs_b85 k21 (fm_X11_hangs_b33 k21 n) l0 l2 l3 l4 l5 H) else (fm_X11_hangs_b85 k21 (fm_X11_hangs_b33 k21 n) l0 (l2 ||| (ji_shl 1 l5)) (l3 ||| ((ji_shl 1 (fm_X11_lessOf l5)) ||| (ji_shl 1 (fm_X11_otherOf l5)))) l4 l5 H)))
def fm_X11_hangs_b21 : Nat → Int32 → Int32 → Int32 → Int32 → qx_H → Option Int32
  | 0, _, _, _, _, _ => none
  | n + 1, l0, l2, l3, l4, H => if l4 = l2 then (some l2) else (fm_X11_hangs_b33 (fm_X11_hangs_b21 n) 5000 l0 l2 l3 l2 0 H)
def fm_X11_hangs (a0 : Int32) (a1 : Int32) (H : qx_H) : Option Int32 := fm_X11_hangs_b21 5000 a0 (ji_shl 1 a1) ((ji_shl 1 (fm_X11_lessOf a1)) ||| (ji_shl 1 (fm_X11_otherOf a1))) 0 H
theorem tb_X11_hangs_85 {st : xT} {d : Nat} {R : Option Value → qx_H → Prop} (hd : 2 ≤ d) {r : Int32} {H : qx_H} (k21 : Int32 → Int32 → Int32 → Int32 → qx_H → Option Int32) (hk21 : ∀ (l0 : Int32) (l2 : Int32) (l3 : Int32) (l4 : Int32) (z1 : Option Value) (hz1 : qx_ns z1 = true) (z5 : Option Value) (hz5 : qx_ns z5 = true) (z6 : Option Value) (hz6 : qx_ns z6 = true), k21 l0 l2 l3 l4 H = some r → qx_V (xE st d) R (xc181 st) (21, [some (.int l0), z1, some (.int l2), some (.int l3), some (.int l4), z5, z6], [], H)) (k33 : Int32 → Int32 → Int32 → Int32 → Int32 → qx_H → Option Int32) (hk33 : ∀ (l0 : Int32) (l2 : Int32) (l3 : Int32) (l4 : Int32) (l5 : Int32) (z1 : Option Value) (hz1 : qx_ns z1 = true) (z6 : Option Value) (hz6 : qx_ns z6 = true), k33 l0 l2 l3 l4 l5 H = some r → qx_V (xE st d) R (xc181 st) (33, [some (.int l0), z1, some (.int l2), some (.int l3), some (.int l4), some (.int l5), z6], [], H)) (hR : R (some (.int r)) H) (l0 : Int32) (l2 : Int32) (l3 : Int32) (l4 : Int32) (l5 : Int32) (z1 : Option Value) (hz1 : qx_ns z1 = true) (z6 : Option Value) (hz6 : qx_ns z6 = true) (h : fm_X11_hangs_b85 k21 k33 l0 l2 l3 l4 l5 H = some r) : qx_V (xE st d) R (xc181 st) (85, [some (.int l0), z1, some (.int l2), some (.int l3), some (.int l4), some (.int l5), z6], [], H) := by
  unfold fm_X11_hangs_b85 at h
  refine qv_run 2 (σ := (33, [some (.int l0), z1, some (.int l2), some (.int l3), some (.int l4), some (.int (l5 + 1)), z6], [], H)) rfl ?_
  exact hk33 l0 l2 l3 l4 (l5 + 1) z1 hz1 z6 hz6 h
theorem tb_X11_hangs_33 {st : xT} {d : Nat} {R : Option Value → qx_H → Prop} (hd : 2 ≤ d) {r : Int32} {H : qx_H} (k21 : Int32 → Int32 → Int32 → Int32 → qx_H → Option Int32) (hk21 : ∀ (l0 : Int32) (l2 : Int32) (l3 : Int32) (l4 : Int32) (z1 : Option Value) (hz1 : qx_ns z1 = true) (z5 : Option Value) (hz5 : qx_ns z5 = true) (z6 : Option Value) (hz6 : qx_ns z6 = true), k21 l0 l2 l3 l4 H = some r → qx_V (xE st d) R (xc181 st) (21, [some (.int l0), z1, some (.int l2), some (.int l3), some (.int l4), z5, z6], [], H)) (hR : R (some (.int r)) H) : ∀ (n : Nat) (l0 : Int32) (l2 : Int32) (l3 : Int32) (l4 : Int32) (l5 : Int32) (z1 : Option Value) (hz1 : qx_ns z1 = true) (z6 : Option Value) (hz6 : qx_ns z6 = true) (h : fm_X11_hangs_b33 k21 n l0 l2 l3 l4 l5 H = some r), qx_V (xE st d) R (xc181 st) (33, [some (.int l0), z1, some (.int l2), some (.int l3), some (.int l4), some (.int l5), z6], [], H) := by
  intro n
  induction n with
  | zero => intro l0 l2 l3 l4 l5 z1 hz1 z6 hz6 h; exact nomatch (show (none : Option Int32) = some r from h)
  | succ n ih =>
    intro l0 l2 l3 l4 l5 z1 hz1 z6 hz6 h
    unfold fm_X11_hangs_b33 at h
    refine qv_br (c := 31 ≤ l5) (a := (91, [some (.int l0), z1, some (.int l2), some (.int l3), some (.int l4), some (.int l5), z6], [], H)) (b := (40, [some (.int l0), z1, some (.int l2), some (.int l3), some (.int l4), some (.int l5), z6], [], H)) 3 rfl (fun c37 => ?_) (fun c37 => ?_)
    · replace h := qv_pos c37 h
      refine qv_run 1 (σ := (21, [some (.int l0), z1, some (.int l2), some (.int l3), some (.int l4), some (.int l5), z6], [], H)) rfl ?_
      exact hk21 l0 l2 l3 l4 z1 hz1 (some (.int l5)) rfl z6 hz6 h
    · replace h := qv_neg c37 h
      refine qv_run 2 (σ := (43, [some (.int l0), z1, some (.int l2), some (.int l3), some (.int l4), some (.int l5), z6], [.int l5, .int 1], H)) rfl ?_
      refine qv_call [.int l5] rfl rfl rfl (Nat.le_of_ble_eq_true rfl) (th_X11_lessOf (by omega) rfl) rfl ?_
      refine qv_run 3 (σ := (50, [some (.int l0), z1, some (.int l2), some (.int l3), some (.int l4), some (.int l5), z6], [.int l5, .int 1, .int (ji_shl 1 (fm_X11_lessOf l5))], H)) rfl ?_
      refine qv_call [.int l5] rfl rfl rfl (Nat.le_of_ble_eq_true rfl) (th_X11_otherOf (by omega) rfl) rfl ?_
      refine qv_run 5 (σ := (60, [some (.int l0), z1, some (.int l2), some (.int l3), some (.int l4), some (.int l5), some (.int ((ji_shl 1 (fm_X11_lessOf l5)) ||| (ji_shl 1 (fm_X11_otherOf l5))))], [.int l5, .int l0], H)) rfl ?_
      refine qv_call [.int l0, .int l5] rfl rfl rfl (Nat.le_of_ble_eq_true rfl) (th_X11_isIn (by omega) rfl) rfl ?_
      refine qv_br (c := (fm_X11_isIn l0 l5) = 0) (a := (85, [some (.int l0), z1, some (.int l2), some (.int l3), some (.int l4), some (.int l5), some (.int ((ji_shl 1 (fm_X11_lessOf l5)) ||| (ji_shl 1 (fm_X11_otherOf l5))))], [], H)) (b := (66, [some (.int l0), z1, some (.int l2), some (.int l3), some (.int l4), some (.int l5), some (.int ((ji_shl 1 (fm_X11_lessOf l5)) ||| (ji_shl 1 (fm_X11_otherOf l5))))], [], H)) 1 rfl (fun c63 => ?_) (fun c63 => ?_)
      · replace h := qv_pos c63 h
        exact tb_X11_hangs_85 hd _ hk21 _ ih hR l0 l2 l3 l4 l5 z1 hz1 (some (.int ((ji_shl 1 (fm_X11_lessOf l5)) ||| (ji_shl 1 (fm_X11_otherOf l5))))) rfl h
      · replace h := qv_neg c63 h
        refine qv_br (c := (((ji_shl 1 (fm_X11_lessOf l5)) ||| (ji_shl 1 (fm_X11_otherOf l5))) &&& l3) = 0) (a := (85, [some (.int l0), z1, some (.int l2), some (.int l3), some (.int l4), some (.int l5), some (.int ((ji_shl 1 (fm_X11_lessOf l5)) ||| (ji_shl 1 (fm_X11_otherOf l5))))], [], H)) (b := (73, [some (.int l0), z1, some (.int l2), some (.int l3), some (.int l4), some (.int l5), some (.int ((ji_shl 1 (fm_X11_lessOf l5)) ||| (ji_shl 1 (fm_X11_otherOf l5))))], [], H)) 4 rfl (fun c70 => ?_) (fun c70 => ?_)
        · replace h := qv_pos c70 h
          exact tb_X11_hangs_85 hd _ hk21 _ ih hR l0 l2 l3 l4 l5 z1 hz1 (some (.int ((ji_shl 1 (fm_X11_lessOf l5)) ||| (ji_shl 1 (fm_X11_otherOf l5))))) rfl h
        · replace h := qv_neg c70 h
          refine qv_run 5 (σ := (79, [some (.int l0), z1, some (.int l2), some (.int l3), some (.int l4), some (.int l5), some (.int ((ji_shl 1 (fm_X11_lessOf l5)) ||| (ji_shl 1 (fm_X11_otherOf l5))))], [.int (l2 ||| (ji_shl 1 l5))], H)) rfl ?_
          refine qv_istN (ls' := [some (.int l0), z1, some (.int (l2 ||| (ji_shl 1 l5))), some (.int l3), some (.int l4), some (.int l5), some (.int ((ji_shl 1 (fm_X11_lessOf l5)) ||| (ji_shl 1 (fm_X11_otherOf l5))))]) rfl rfl (qx_kl_ns rfl hz1) rfl ?_
          refine qv_run 4 (σ := (85, [some (.int l0), z1, some (.int (l2 ||| (ji_shl 1 l5))), some (.int (l3 ||| ((ji_shl 1 (fm_X11_lessOf l5)) ||| (ji_shl 1 (fm_X11_otherOf l5))))), some (.int l4), some (.int l5), some (.int ((ji_shl 1 (fm_X11_lessOf l5)) ||| (ji_shl 1 (fm_X11_otherOf l5))))], [], H)) rfl ?_
          exact tb_X11_hangs_85 hd _ hk21 _ ih hR l0 (l2 ||| (ji_shl 1 l5)) (l3 ||| ((ji_shl 1 (fm_X11_lessOf l5)) ||| (ji_shl 1 (fm_X11_otherOf l5)))) l4 l5 z1 hz1 (some (.int ((ji_shl 1 (fm_X11_lessOf l5)) ||| (ji_shl 1 (fm_X11_otherOf l5))))) rfl h
theorem tb_X11_hangs_21 {st : xT} {d : Nat} {R : Option Value → qx_H → Prop} (hd : 2 ≤ d) {r : Int32} {H : qx_H} (hR : R (some (.int r)) H) : ∀ (n : Nat) (l0 : Int32) (l2 : Int32) (l3 : Int32) (l4 : Int32) (z1 : Option Value) (hz1 : qx_ns z1 = true) (z5 : Option Value) (hz5 : qx_ns z5 = true) (z6 : Option Value) (hz6 : qx_ns z6 = true) (h : fm_X11_hangs_b21 n l0 l2 l3 l4 H = some r), qx_V (xE st d) R (xc181 st) (21, [some (.int l0), z1, some (.int l2), some (.int l3), some (.int l4), z5, z6], [], H) := by
  intro n
  induction n with
  | zero => intro l0 l2 l3 l4 z1 hz1 z5 hz5 z6 hz6 h; exact nomatch (show (none : Option Int32) = some r from h)
  | succ n ih =>
    intro l0 l2 l3 l4 z1 hz1 z5 hz5 z6 hz6 h
    unfold fm_X11_hangs_b21 at h
    refine qv_br (c := l4 = l2) (a := (94, [some (.int l0), z1, some (.int l2), some (.int l3), some (.int l4), z5, z6], [], H)) (b := (27, [some (.int l0), z1, some (.int l2), some (.int l3), some (.int l4), z5, z6], [], H)) 3 rfl (fun c24 => ?_) (fun c24 => ?_)
    · replace h := qv_pos c24 h
      refine qv_run 1 (σ := (95, [some (.int l0), z1, some (.int l2), some (.int l3), some (.int l4), z5, z6], [.int l2], H)) rfl ?_
      cases h
      exact qv_reti rfl hR
    · replace h := qv_neg c24 h
      refine qv_run 4 (σ := (33, [some (.int l0), z1, some (.int l2), some (.int l3), some (.int l2), some (.int 0), z6], [], H)) rfl ?_
      exact tb_X11_hangs_33 hd _ ih hR 5000 l0 l2 l3 l2 0 z1 hz1 z6 hz6 h
theorem tb_X11_hangs_0 {st : xT} {d : Nat} {R : Option Value → qx_H → Prop} (hd : 2 ≤ d) {r : Int32} {H : qx_H} (hR : R (some (.int r)) H) (a0 : Int32) (a1 : Int32) (h : fm_X11_hangs a0 a1 H = some r) : qx_V (xE st d) R (xc181 st) (0, [some (.int a0), some (.int a1), none, none, none, none, none], [], H) := by
  unfold fm_X11_hangs at h
  refine qv_run 6 (σ := (6, [some (.int a0), some (.int a1), some (.int (ji_shl 1 a1)), none, none, none, none], [.int a1, .int 1], H)) rfl ?_
  refine qv_call [.int a1] rfl rfl rfl (Nat.le_of_ble_eq_true rfl) (th_X11_lessOf (by omega) rfl) rfl ?_
  refine qv_run 3 (σ := (12, [some (.int a0), some (.int a1), some (.int (ji_shl 1 a1)), none, none, none, none], [.int a1, .int 1, .int (ji_shl 1 (fm_X11_lessOf a1))], H)) rfl ?_
  refine qv_call [.int a1] rfl rfl rfl (Nat.le_of_ble_eq_true rfl) (th_X11_otherOf (by omega) rfl) rfl ?_
  refine qv_run 5 (σ := (21, [some (.int a0), some (.int a1), some (.int (ji_shl 1 a1)), some (.int ((ji_shl 1 (fm_X11_lessOf a1)) ||| (ji_shl 1 (fm_X11_otherOf a1)))), some (.int 0), none, none], [], H)) rfl ?_
  exact tb_X11_hangs_21 hd hR 5000 a0 (ji_shl 1 a1) ((ji_shl 1 (fm_X11_lessOf a1)) ||| (ji_shl 1 (fm_X11_otherOf a1))) 0 (some (.int a1)) rfl none rfl none rfl h
theorem th_X11_hangs {st : xT} {d : Nat} (hd : 3 ≤ d) {a0 : Int32} {a1 : Int32} {r : Int32} {H : qx_H} (h : fm_X11_hangs a0 a1 H = some r) : xE st d 181 [.int a0, .int a1] H (some (.int r)) H := by
  obtain ⟨d, rfl⟩ : ∃ d', d = d' + 1 := ⟨d - 1, by omega⟩
  exact xE_of (xe181 st) xl181 (Nat.le_of_ble_eq_true rfl) (ls := [some (.int a0), some (.int a1), none, none, none, none, none]) rfl (tb_X11_hangs_0 (by omega) ⟨rfl, rfl⟩ a0 a1 h)
def fm_X11_least_b2 : Nat → Int32 → Int32 → qx_H → Option Int32
  | 0, _, _, _ => none
  | n + 1, l0, l1, H => if (fm_X11_isIn l0 l1) = 0 then (fm_X11_least_b2 n l0 (l1 + 1) H) else (some l1)
def fm_X11_least (a0 : Int32) (H : qx_H) : Option Int32 := fm_X11_least_b2 5000 a0 0 H
theorem tb_X11_least_2 {st : xT} {d : Nat} {R : Option Value → qx_H → Prop} (hd : 1 ≤ d) {r : Int32} {H : qx_H} (hR : R (some (.int r)) H) : ∀ (n : Nat) (l0 : Int32) (l1 : Int32) (h : fm_X11_least_b2 n l0 l1 H = some r), qx_V (xE st d) R (xc182 st) (2, [some (.int l0), some (.int l1)], [], H) := by
  intro n
  induction n with
  | zero => intro l0 l1 h; exact nomatch (show (none : Option Int32) = some r from h)
  | succ n ih =>
    intro l0 l1 h
    unfold fm_X11_least_b2 at h
    refine qv_run 2 (σ := (4, [some (.int l0), some (.int l1)], [.int l1, .int l0], H)) rfl ?_
    refine qv_call [.int l0, .int l1] rfl rfl rfl (Nat.le_of_ble_eq_true rfl) (th_X11_isIn (by omega) rfl) rfl ?_
    refine qv_br (c := (fm_X11_isIn l0 l1) = 0) (a := (10, [some (.int l0), some (.int l1)], [], H)) (b := (16, [some (.int l0), some (.int l1)], [], H)) 1 rfl (fun c7 => ?_) (fun c7 => ?_)
    · replace h := qv_pos c7 h
      refine qv_run 2 (σ := (2, [some (.int l0), some (.int (l1 + 1))], [], H)) rfl ?_
      exact ih l0 (l1 + 1) h
    · replace h := qv_neg c7 h
      refine qv_run 1 (σ := (17, [some (.int l0), some (.int l1)], [.int l1], H)) rfl ?_
      cases h
      exact qv_reti rfl hR
theorem tb_X11_least_0 {st : xT} {d : Nat} {R : Option Value → qx_H → Prop} (hd : 1 ≤ d) {r : Int32} {H : qx_H} (hR : R (some (.int r)) H) (a0 : Int32) (h : fm_X11_least a0 H = some r) : qx_V (xE st d) R (xc182 st) (0, [some (.int a0), none], [], H) := by
  unfold fm_X11_least at h
  refine qv_run 2 (σ := (2, [some (.int a0), some (.int 0)], [], H)) rfl ?_
  exact tb_X11_least_2 hd hR 5000 a0 0 h
theorem th_X11_least {st : xT} {d : Nat} (hd : 2 ≤ d) {a0 : Int32} {r : Int32} {H : qx_H} (h : fm_X11_least a0 H = some r) : xE st d 182 [.int a0] H (some (.int r)) H := by
  obtain ⟨d, rfl⟩ : ∃ d', d = d' + 1 := ⟨d - 1, by omega⟩
  exact xE_of (xe182 st) xl182 (Nat.le_of_ble_eq_true rfl) (ls := [some (.int a0), none]) rfl (tb_X11_least_0 (by omega) ⟨rfl, rfl⟩ a0 h)
def fm_X11_isOneRun (a0 : Int32) (H : qx_H) : Option Int32 := if a0 = 0 then (some 0) else ((fm_X11_oddOnes a0 H).bind fun v5 => if 2 < v5 then (some 0) else ((fm_X11_least a0 H).bind fun v14 => (fm_X11_hangs a0 v14 H).bind fun v17 => if v17 = a0 then (some 1) else (some 0)))
theorem tb_X11_isOneRun_0 {st : xT} {d : Nat} {R : Option Value → qx_H → Prop} (hd : 5 ≤ d) {r : Int32} {H : qx_H} (hR : R (some (.int r)) H) (a0 : Int32) (h : fm_X11_isOneRun a0 H = some r) : qx_V (xE st d) R (xc183 st) (0, [some (.int a0)], [], H) := by
  unfold fm_X11_isOneRun at h
  refine qv_br (c := a0 = 0) (a := (28, [some (.int a0)], [], H)) (b := (4, [some (.int a0)], [], H)) 2 rfl (fun c1 => ?_) (fun c1 => ?_)
  · replace h := qv_pos c1 h
    refine qv_run 1 (σ := (29, [some (.int a0)], [.int 0], H)) rfl ?_
    cases h
    exact qv_retz rfl (Or.inl rfl) hR
  · replace h := qv_neg c1 h
    refine qv_run 1 (σ := (5, [some (.int a0)], [.int a0], H)) rfl ?_
    obtain ⟨v5, e5, h⟩ := qv_bind h
    refine qv_call [.int a0] rfl rfl rfl (Nat.le_of_ble_eq_true rfl) (th_X11_oddOnes (by omega) e5) rfl ?_
    refine qv_br (c := 2 < v5) (a := (28, [some (.int a0)], [], H)) (b := (12, [some (.int a0)], [], H)) 2 rfl (fun c9 => ?_) (fun c9 => ?_)
    · replace h := qv_pos c9 h
      refine qv_run 1 (σ := (29, [some (.int a0)], [.int 0], H)) rfl ?_
      cases h
      exact qv_retz rfl (Or.inl rfl) hR
    · replace h := qv_neg c9 h
      refine qv_run 2 (σ := (14, [some (.int a0)], [.int a0, .int a0], H)) rfl ?_
      obtain ⟨v14, e14, h⟩ := qv_bind h
      refine qv_call [.int a0] rfl rfl rfl (Nat.le_of_ble_eq_true rfl) (th_X11_least (by omega) e14) rfl ?_
      obtain ⟨v17, e17, h⟩ := qv_bind h
      refine qv_call [.int a0, .int v14] rfl rfl rfl (Nat.le_of_ble_eq_true rfl) (th_X11_hangs (by omega) e17) rfl ?_
      refine qv_br (c := v17 = a0) (a := (24, [some (.int a0)], [], H)) (b := (28, [some (.int a0)], [], H)) 2 rfl (fun c21 => ?_) (fun c21 => ?_)
      · replace h := qv_pos c21 h
        refine qv_run 2 (σ := (29, [some (.int a0)], [.int 1], H)) rfl ?_
        cases h
        exact qv_retz rfl (Or.inr rfl) hR
      · replace h := qv_neg c21 h
        refine qv_run 1 (σ := (29, [some (.int a0)], [.int 0], H)) rfl ?_
        cases h
        exact qv_retz rfl (Or.inl rfl) hR
theorem tzb_X11_isOneRun_0 {r : Int32} {H : qx_H} (a0 : Int32) (h : fm_X11_isOneRun a0 H = some r) : r = 0 ∨ r = 1 := by
  unfold fm_X11_isOneRun at h
  by_cases c1 : a0 = 0
  · replace h := qv_pos c1 h
    cases h
    exact Or.inl rfl
  · replace h := qv_neg c1 h
    obtain ⟨v5, e5, h⟩ := qv_bind h
    by_cases c9 : 2 < v5
    · replace h := qv_pos c9 h
      cases h
      exact Or.inl rfl
    · replace h := qv_neg c9 h
      obtain ⟨v14, e14, h⟩ := qv_bind h
      obtain ⟨v17, e17, h⟩ := qv_bind h
      by_cases c21 : v17 = a0
      · replace h := qv_pos c21 h
        cases h
        exact Or.inr rfl
      · replace h := qv_neg c21 h
        cases h
        exact Or.inl rfl
theorem th_X11_isOneRun {st : xT} {d : Nat} (hd : 6 ≤ d) {a0 : Int32} {r : Int32} {H : qx_H} (h : fm_X11_isOneRun a0 H = some r) : xE st d 183 [.int a0] H (some (.int r)) H := by
  obtain ⟨d, rfl⟩ : ∃ d', d = d' + 1 := ⟨d - 1, by omega⟩
  exact xE_of (xe183 st) xl183 (Nat.le_of_ble_eq_true rfl) (ls := [some (.int a0)]) rfl (tb_X11_isOneRun_0 (by omega) ⟨rfl, rfl⟩ a0 h)
theorem tz_X11_isOneRun {a0 : Int32} {r : Int32} {H : qx_H} (h : fm_X11_isOneRun a0 H = some r) : r = 0 ∨ r = 1 := tzb_X11_isOneRun_0 a0 h
def fm_X11_odd (a0 : Nat) (a1 : Int32) (H : qx_H) : Option (Int32 × qx_H) := if (fm_X11_in a1 0 1) = 0 then (if hp_is H a0 9 = true then (ob2 (fm_X11_error a0 1 H) fun v11 H11 => some (v11, H11)) else none) else (if a1 = 0 then (if hp_is H a0 9 = true then ((fm_X11_gone a0 H).bind fun v20 => (fm_X11_oddOnes v20 H).bind fun v23 => some (v23, H)) else none) else (if hp_is H a0 9 = true then ((fm_X11_gone a0 H).bind fun v30 => (fm_X11_isOneRun v30 H).bind fun v33 => if v33 = 0 then (some (0, H)) else (some (1, H))) else none))
theorem tb_X11_odd_0 {st : xT} {d : Nat} {R : Option Value → qx_H → Prop} (hd : 6 ≤ d) {r : Int32} {H' : qx_H} (hR : R (some (.int r)) H') (a0 : Nat) (a1 : Int32) (H : qx_H) (h : fm_X11_odd a0 a1 H = some (r, H')) : qx_V (xE st d) R (xc184 st) (0, [some (.ref a0), some (.int a1)], [], H) := by
  unfold fm_X11_odd at h
  refine qv_run 3 (σ := (3, [some (.ref a0), some (.int a1)], [.int 1, .int 0, .int a1], H)) rfl ?_
  refine qv_call [.int a1, .int 0, .int 1] rfl rfl rfl (Nat.le_of_ble_eq_true rfl) (th_X11_in (by omega) rfl) rfl ?_
  refine qv_br (c := (fm_X11_in a1 0 1) = 0) (a := (9, [some (.ref a0), some (.int a1)], [], H)) (b := (15, [some (.ref a0), some (.int a1)], [], H)) 1 rfl (fun c6 => ?_) (fun c6 => ?_)
  · replace h := qv_pos c6 h
    refine qv_run 2 (σ := (11, [some (.ref a0), some (.int a1)], [.int 1, .ref a0], H)) rfl ?_
    obtain ⟨g11, h⟩ := qv_guard h
    obtain ⟨v11, H11, e11, h⟩ := qv_bind2 h
    refine qv_callV [.int 1] rfl rfl rfl (Nat.le_of_ble_eq_true rfl) g11 (th_X11_error (by omega) e11) (tl_X11_error e11) ?_
    obtain ⟨rfl, rfl⟩ := qv_pair h
    exact qv_reti rfl hR
  · replace h := qv_neg c6 h
    refine qv_br (c := a1 = 0) (a := (19, [some (.ref a0), some (.int a1)], [], H)) (b := (29, [some (.ref a0), some (.int a1)], [], H)) 2 rfl (fun c16 => ?_) (fun c16 => ?_)
    · replace h := qv_pos c16 h
      refine qv_run 1 (σ := (20, [some (.ref a0), some (.int a1)], [.ref a0], H)) rfl ?_
      obtain ⟨g20, h⟩ := qv_guard h
      obtain ⟨v20, e20, h⟩ := qv_bind h
      refine qv_callV [] rfl rfl rfl (Nat.le_of_ble_eq_true rfl) g20 (th_X11_gone (by omega) e20) rfl ?_
      obtain ⟨v23, e23, h⟩ := qv_bind h
      refine qv_call [.int v20] rfl rfl rfl (Nat.le_of_ble_eq_true rfl) (th_X11_oddOnes (by omega) e23) rfl ?_
      refine qv_run 1 (σ := (44, [some (.ref a0), some (.int a1)], [.int v23], H)) rfl ?_
      obtain ⟨rfl, rfl⟩ := qv_pair h
      exact qv_reti rfl hR
    · replace h := qv_neg c16 h
      refine qv_run 1 (σ := (30, [some (.ref a0), some (.int a1)], [.ref a0], H)) rfl ?_
      obtain ⟨g30, h⟩ := qv_guard h
      obtain ⟨v30, e30, h⟩ := qv_bind h
      refine qv_callV [] rfl rfl rfl (Nat.le_of_ble_eq_true rfl) g30 (th_X11_gone (by omega) e30) rfl ?_
      obtain ⟨v33, e33, h⟩ := qv_bind h
      refine qv_call [.int v30] rfl rfl rfl (Nat.le_of_ble_eq_true rfl) (th_X11_isOneRun (by omega) e33) rfl ?_
      refine qv_br (c := v33 = 0) (a := (43, [some (.ref a0), some (.int a1)], [], H)) (b := (39, [some (.ref a0), some (.int a1)], [], H)) 1 rfl (fun c36 => ?_) (fun c36 => ?_)
      · replace h := qv_pos c36 h
        refine qv_run 1 (σ := (44, [some (.ref a0), some (.int a1)], [.int 0], H)) rfl ?_
        obtain ⟨rfl, rfl⟩ := qv_pair h
        exact qv_reti rfl hR
      · replace h := qv_neg c36 h
        refine qv_run 2 (σ := (44, [some (.ref a0), some (.int a1)], [.int 1], H)) rfl ?_
        obtain ⟨rfl, rfl⟩ := qv_pair h
        exact qv_reti rfl hR
theorem tlb_X11_odd_0 {r : Int32} {H' : qx_H} (a0 : Nat) (a1 : Int32) (H : qx_H) (h : fm_X11_odd a0 a1 H = some (r, H')) : H'.length = H.length := by
  unfold fm_X11_odd at h
  by_cases c6 : (fm_X11_in a1 0 1) = 0
  · replace h := qv_pos c6 h
    obtain ⟨g11, h⟩ := qv_guard h
    obtain ⟨v11, H11, e11, h⟩ := qv_bind2 h
    have q_H11 := tl_X11_error e11
    obtain ⟨rfl, rfl⟩ := qv_pair h
    omega
  · replace h := qv_neg c6 h
    by_cases c16 : a1 = 0
    · replace h := qv_pos c16 h
      obtain ⟨g20, h⟩ := qv_guard h
      obtain ⟨v20, e20, h⟩ := qv_bind h
      obtain ⟨v23, e23, h⟩ := qv_bind h
      obtain ⟨rfl, rfl⟩ := qv_pair h
      rfl
    · replace h := qv_neg c16 h
      obtain ⟨g30, h⟩ := qv_guard h
      obtain ⟨v30, e30, h⟩ := qv_bind h
      obtain ⟨v33, e33, h⟩ := qv_bind h
      by_cases c36 : v33 = 0
      · replace h := qv_pos c36 h
        obtain ⟨rfl, rfl⟩ := qv_pair h
        rfl
      · replace h := qv_neg c36 h
        obtain ⟨rfl, rfl⟩ := qv_pair h
        rfl
theorem th_X11_odd {st : xT} {d : Nat} (hd : 7 ≤ d) {a0 : Nat} {a1 : Int32} {H : qx_H} {r : Int32} {H' : qx_H} (h : fm_X11_odd a0 a1 H = some (r, H')) : xE st d 184 [.ref a0, .int a1] H (some (.int r)) H' := by
  obtain ⟨d, rfl⟩ : ∃ d', d = d' + 1 := ⟨d - 1, by omega⟩
  exact xE_of (xe184 st) xl184 (Nat.le_of_ble_eq_true rfl) (ls := [some (.ref a0), some (.int a1)]) rfl (tb_X11_odd_0 (by omega) ⟨rfl, rfl⟩ a0 a1 H h)
theorem tl_X11_odd {a0 : Nat} {a1 : Int32} {H : qx_H} {r : Int32} {H' : qx_H} (h : fm_X11_odd a0 a1 H = some (r, H')) : H'.length = H.length := tlb_X11_odd_0 a0 a1 H h
def fm_X11_cutsTo_b62 (rc : Nat → Int32 → Int32 → Int32 → Int32 → qx_H → Option (Int32 × qx_H)) (k14 : Nat → Int32 → Int32 → Int32 → Int32 → qx_H → Option (Int32 × qx_H)) (l0 : Nat) (l1 : Int32) (l3 : Int32) (l4 : Int32) (l5 : Int32) (H : qx_H) : Option (Int32 × qx_H) := k14 l0 l1 l3 l4 (l5 + 1) H
def fm_X11_cutsTo_b14 (rc : Nat → Int32 → Int32 → Int32 → Int32 → qx_H → Option (Int32 × qx_H)) : Nat → Nat → Int32 → Int32 → Int32 → Int32 → qx_H → Option (Int32 × qx_H)
  | 0, _, _, _, _, _, _ => none
  | n + 1, l0, l1, l3, l4, l5, H => if 31 ≤ l5 then (some (0, H)) else (if (fm_X11_isIn l1 l5) = 0 then ((hp_gR H l0 9 12).bind fun v31 => (hp_ast H v31 l3 l5).bind fun H37 => if hp_is H37 l0 9 = true then (ob2 (rc l0 (l1 ||| (ji_shl 1 l5)) (l5 + 1) (l3 + 1) l4 H37) fun v54 H54 => if v54 = 0 then (fm_X11_cutsTo_b62 rc (fm_X11_cutsTo_b14 rc n) l0 l1 l3 l4 l5 H54) else (some (1, H54))) else none) else (fm_X11_cutsTo_b62 rc (fm_X11_cutsTo_b14 rc n) l0 l1 l3 l4 l5 H))
def fm_X11_cutsTo_e (rc : Nat → Int32 → Int32 → Int32 → Int32 → qx_H → Option (Int32 × qx_H)) (a0 : Nat) (a1 : Int32) (a2 : Int32) (a3 : Int32) (a4 : Int32) (H : qx_H) : Option (Int32 × qx_H) := if a3 = a4 then ((fm_X11_isOneRun a1 H).bind fun v7 => some (v7, H)) else (fm_X11_cutsTo_b14 rc 5000 a0 a1 a3 a4 a2 H)
def fm_X11_cutsTo : Nat → Nat → Int32 → Int32 → Int32 → Int32 → qx_H → Option (Int32 × qx_H)
  | 0, _, _, _, _, _, _ => none
  | n + 1, a0, a1, a2, a3, a4, H => fm_X11_cutsTo_e (fm_X11_cutsTo n) a0 a1 a2 a3 a4 H
theorem tb_X11_cutsTo_62 {st : xT} {e : Nat} {d : Nat} {R : Option Value → qx_H → Prop} (rc : Nat → Int32 → Int32 → Int32 → Int32 → qx_H → Option (Int32 × qx_H)) (hB : 6 ≤ e) (hrc : ∀ {b0 : Nat} {b1 : Int32} {b2 : Int32} {b3 : Int32} {b4 : Int32} {H1 H2 : qx_H} {r1 : Int32}, rc b0 b1 b2 b3 b4 H1 = some (r1, H2) → xE st e 185 [.ref b0, .int b1, .int b2, .int b3, .int b4] H1 (some (.int r1)) H2) (hrl : ∀ {b0 : Nat} {b1 : Int32} {b2 : Int32} {b3 : Int32} {b4 : Int32} {H1 H2 : qx_H} {r1 : Int32}, rc b0 b1 b2 b3 b4 H1 = some (r1, H2) → H2.length = H1.length) (hrz : ∀ {b0 : Nat} {b1 : Int32} {b2 : Int32} {b3 : Int32} {b4 : Int32} {H1 H2 : qx_H} {r1 : Int32}, rc b0 b1 b2 b3 b4 H1 = some (r1, H2) → r1 = 0 ∨ r1 = 1) (hd : e + 0 ≤ d) {r : Int32} {H' : qx_H} (k14 : Nat → Int32 → Int32 → Int32 → Int32 → qx_H → Option (Int32 × qx_H)) (hk14 : ∀ (l0 : Nat) (l1 : Int32) (l3 : Int32) (l4 : Int32) (l5 : Int32) (z2 : Option Value) (hz2 : qx_ns z2 = true) (H : qx_H), k14 l0 l1 l3 l4 l5 H = some (r, H') → qx_V (xE st d) R (xc185 st) (14, [some (.ref l0), some (.int l1), z2, some (.int l3), some (.int l4), some (.int l5)], [], H)) (hR : R (some (.int r)) H') (l0 : Nat) (l1 : Int32) (l3 : Int32) (l4 : Int32) (l5 : Int32) (z2 : Option Value) (hz2 : qx_ns z2 = true) (H : qx_H) (h : fm_X11_cutsTo_b62 rc k14 l0 l1 l3 l4 l5 H = some (r, H')) : qx_V (xE st d) R (xc185 st) (62, [some (.ref l0), some (.int l1), z2, some (.int l3), some (.int l4), some (.int l5)], [], H) := by
  unfold fm_X11_cutsTo_b62 at h
  refine qv_run 2 (σ := (14, [some (.ref l0), some (.int l1), z2, some (.int l3), some (.int l4), some (.int (l5 + 1))], [], H)) rfl ?_
  exact hk14 l0 l1 l3 l4 (l5 + 1) z2 hz2 H h
theorem tlb_X11_cutsTo_62 (rc : Nat → Int32 → Int32 → Int32 → Int32 → qx_H → Option (Int32 × qx_H)) (hrl : ∀ {b0 : Nat} {b1 : Int32} {b2 : Int32} {b3 : Int32} {b4 : Int32} {H1 H2 : qx_H} {r1 : Int32}, rc b0 b1 b2 b3 b4 H1 = some (r1, H2) → H2.length = H1.length) {r : Int32} {H' : qx_H} (k14 : Nat → Int32 → Int32 → Int32 → Int32 → qx_H → Option (Int32 × qx_H)) (hk14 : ∀ (l0 : Nat) (l1 : Int32) (l3 : Int32) (l4 : Int32) (l5 : Int32) (H : qx_H), k14 l0 l1 l3 l4 l5 H = some (r, H') → H'.length = H.length) (l0 : Nat) (l1 : Int32) (l3 : Int32) (l4 : Int32) (l5 : Int32) (H : qx_H) (h : fm_X11_cutsTo_b62 rc k14 l0 l1 l3 l4 l5 H = some (r, H')) : H'.length = H.length := by
  unfold fm_X11_cutsTo_b62 at h
  exact hk14 l0 l1 l3 l4 (l5 + 1) H h
theorem tzb_X11_cutsTo_62 (rc : Nat → Int32 → Int32 → Int32 → Int32 → qx_H → Option (Int32 × qx_H)) (hrz : ∀ {b0 : Nat} {b1 : Int32} {b2 : Int32} {b3 : Int32} {b4 : Int32} {H1 H2 : qx_H} {r1 : Int32}, rc b0 b1 b2 b3 b4 H1 = some (r1, H2) → r1 = 0 ∨ r1 = 1) {r : Int32} {H' : qx_H} (k14 : Nat → Int32 → Int32 → Int32 → Int32 → qx_H → Option (Int32 × qx_H)) (hk14 : ∀ (l0 : Nat) (l1 : Int32) (l3 : Int32) (l4 : Int32) (l5 : Int32) (H : qx_H), k14 l0 l1 l3 l4 l5 H = some (r, H') → r = 0 ∨ r = 1) (l0 : Nat) (l1 : Int32) (l3 : Int32) (l4 : Int32) (l5 : Int32) (H : qx_H) (h : fm_X11_cutsTo_b62 rc k14 l0 l1 l3 l4 l5 H = some (r, H')) : r = 0 ∨ r = 1 := by
  unfold fm_X11_cutsTo_b62 at h
  exact hk14 l0 l1 l3 l4 (l5 + 1) H h
theorem tb_X11_cutsTo_14 {st : xT} {e : Nat} {d : Nat} {R : Option Value → qx_H → Prop} (rc : Nat → Int32 → Int32 → Int32 → Int32 → qx_H → Option (Int32 × qx_H)) (hB : 6 ≤ e) (hrc : ∀ {b0 : Nat} {b1 : Int32} {b2 : Int32} {b3 : Int32} {b4 : Int32} {H1 H2 : qx_H} {r1 : Int32}, rc b0 b1 b2 b3 b4 H1 = some (r1, H2) → xE st e 185 [.ref b0, .int b1, .int b2, .int b3, .int b4] H1 (some (.int r1)) H2) (hrl : ∀ {b0 : Nat} {b1 : Int32} {b2 : Int32} {b3 : Int32} {b4 : Int32} {H1 H2 : qx_H} {r1 : Int32}, rc b0 b1 b2 b3 b4 H1 = some (r1, H2) → H2.length = H1.length) (hrz : ∀ {b0 : Nat} {b1 : Int32} {b2 : Int32} {b3 : Int32} {b4 : Int32} {H1 H2 : qx_H} {r1 : Int32}, rc b0 b1 b2 b3 b4 H1 = some (r1, H2) → r1 = 0 ∨ r1 = 1) (hd : e + 0 ≤ d) {r : Int32} {H' : qx_H} (hR : R (some (.int r)) H') : ∀ (n : Nat) (l0 : Nat) (l1 : Int32) (l3 : Int32) (l4 : Int32) (l5 : Int32) (z2 : Option Value) (hz2 : qx_ns z2 = true) (H : qx_H) (h : fm_X11_cutsTo_b14 rc n l0 l1 l3 l4 l5 H = some (r, H')), qx_V (xE st d) R (xc185 st) (14, [some (.ref l0), some (.int l1), z2, some (.int l3), some (.int l4), some (.int l5)], [], H) := by
  intro n
  induction n with
  | zero => intro l0 l1 l3 l4 l5 z2 hz2 H h; exact nomatch (show (none : Option (Int32 × qx_H)) = some (r, H') from h)
  | succ n ih =>
    intro l0 l1 l3 l4 l5 z2 hz2 H h
    unfold fm_X11_cutsTo_b14 at h
    refine qv_br (c := 31 ≤ l5) (a := (68, [some (.ref l0), some (.int l1), z2, some (.int l3), some (.int l4), some (.int l5)], [], H)) (b := (21, [some (.ref l0), some (.int l1), z2, some (.int l3), some (.int l4), some (.int l5)], [], H)) 3 rfl (fun c18 => ?_) (fun c18 => ?_)
    · replace h := qv_pos c18 h
      refine qv_run 1 (σ := (69, [some (.ref l0), some (.int l1), z2, some (.int l3), some (.int l4), some (.int l5)], [.int 0], H)) rfl ?_
      obtain ⟨rfl, rfl⟩ := qv_pair h
      exact qv_retz rfl (Or.inl rfl) hR
    · replace h := qv_neg c18 h
      refine qv_run 2 (σ := (24, [some (.ref l0), some (.int l1), z2, some (.int l3), some (.int l4), some (.int l5)], [.int l5, .int l1], H)) rfl ?_
      refine qv_call [.int l1, .int l5] rfl rfl rfl (Nat.le_of_ble_eq_true rfl) (th_X11_isIn (by omega) rfl) rfl ?_
      refine qv_br (c := (fm_X11_isIn l1 l5) = 0) (a := (30, [some (.ref l0), some (.int l1), z2, some (.int l3), some (.int l4), some (.int l5)], [], H)) (b := (62, [some (.ref l0), some (.int l1), z2, some (.int l3), some (.int l4), some (.int l5)], [], H)) 1 rfl (fun c27 => ?_) (fun c27 => ?_)
      · replace h := qv_pos c27 h
        refine qv_run 1 (σ := (31, [some (.ref l0), some (.int l1), z2, some (.int l3), some (.int l4), some (.int l5)], [.ref l0], H)) rfl ?_
        obtain ⟨v31, e31, h⟩ := qv_bind h
        refine qv_getR rfl e31 ?_
        refine qv_run 2 (σ := (37, [some (.ref l0), some (.int l1), z2, some (.int l3), some (.int l4), some (.int l5)], [.int l5, .int l3, .ref v31], H)) rfl ?_
        obtain ⟨H37, e37, h⟩ := qv_bind h
        refine qv_ast rfl e37 ?_
        refine qv_run 13 (σ := (54, [some (.ref l0), some (.int l1), z2, some (.int l3), some (.int l4), some (.int l5)], [.int l4, .int (l3 + 1), .int (l5 + 1), .int (l1 ||| (ji_shl 1 l5)), .ref l0], H37)) rfl ?_
        obtain ⟨g54, h⟩ := qv_guard h
        obtain ⟨v54, H54, e54, h⟩ := qv_bind2 h
        refine qv_callV [.int (l1 ||| (ji_shl 1 l5)), .int (l5 + 1), .int (l3 + 1), .int l4] rfl rfl rfl (Nat.le_of_ble_eq_true rfl) g54 (xE_le (by omega) (hrc e54)) (hrl e54) ?_
        refine qv_br (c := v54 = 0) (a := (62, [some (.ref l0), some (.int l1), z2, some (.int l3), some (.int l4), some (.int l5)], [], H54)) (b := (60, [some (.ref l0), some (.int l1), z2, some (.int l3), some (.int l4), some (.int l5)], [], H54)) 1 rfl (fun c57 => ?_) (fun c57 => ?_)
        · replace h := qv_pos c57 h
          exact tb_X11_cutsTo_62 rc hB hrc hrl hrz hd _ ih hR l0 l1 l3 l4 l5 z2 hz2 H54 h
        · replace h := qv_neg c57 h
          refine qv_run 1 (σ := (61, [some (.ref l0), some (.int l1), z2, some (.int l3), some (.int l4), some (.int l5)], [.int 1], H54)) rfl ?_
          obtain ⟨rfl, rfl⟩ := qv_pair h
          exact qv_retz rfl (Or.inr rfl) hR
      · replace h := qv_neg c27 h
        exact tb_X11_cutsTo_62 rc hB hrc hrl hrz hd _ ih hR l0 l1 l3 l4 l5 z2 hz2 H h
theorem tlb_X11_cutsTo_14 (rc : Nat → Int32 → Int32 → Int32 → Int32 → qx_H → Option (Int32 × qx_H)) (hrl : ∀ {b0 : Nat} {b1 : Int32} {b2 : Int32} {b3 : Int32} {b4 : Int32} {H1 H2 : qx_H} {r1 : Int32}, rc b0 b1 b2 b3 b4 H1 = some (r1, H2) → H2.length = H1.length) {r : Int32} {H' : qx_H} : ∀ (n : Nat) (l0 : Nat) (l1 : Int32) (l3 : Int32) (l4 : Int32) (l5 : Int32) (H : qx_H) (h : fm_X11_cutsTo_b14 rc n l0 l1 l3 l4 l5 H = some (r, H')), H'.length = H.length := by
  intro n
  induction n with
  | zero => intro l0 l1 l3 l4 l5 H h; exact nomatch (show (none : Option (Int32 × qx_H)) = some (r, H') from h)
  | succ n ih =>
    intro l0 l1 l3 l4 l5 H h
    unfold fm_X11_cutsTo_b14 at h
    by_cases c18 : 31 ≤ l5
    · replace h := qv_pos c18 h
      obtain ⟨rfl, rfl⟩ := qv_pair h
      rfl
    · replace h := qv_neg c18 h
      by_cases c27 : (fm_X11_isIn l1 l5) = 0
      · replace h := qv_pos c27 h
        obtain ⟨v31, e31, h⟩ := qv_bind h
        obtain ⟨H37, e37, h⟩ := qv_bind h
        have q_H37 := hp_ast_len e37
        obtain ⟨g54, h⟩ := qv_guard h
        obtain ⟨v54, H54, e54, h⟩ := qv_bind2 h
        have q_H54 := hrl e54
        by_cases c57 : v54 = 0
        · replace h := qv_pos c57 h
          have q_end := tlb_X11_cutsTo_62 rc hrl _ ih l0 l1 l3 l4 l5 H54 h
          omega
        · replace h := qv_neg c57 h
          obtain ⟨rfl, rfl⟩ := qv_pair h
          omega
      · replace h := qv_neg c27 h
        exact tlb_X11_cutsTo_62 rc hrl _ ih l0 l1 l3 l4 l5 H h
theorem tzb_X11_cutsTo_14 (rc : Nat → Int32 → Int32 → Int32 → Int32 → qx_H → Option (Int32 × qx_H)) (hrz : ∀ {b0 : Nat} {b1 : Int32} {b2 : Int32} {b3 : Int32} {b4 : Int32} {H1 H2 : qx_H} {r1 : Int32}, rc b0 b1 b2 b3 b4 H1 = some (r1, H2) → r1 = 0 ∨ r1 = 1) {r : Int32} {H' : qx_H} : ∀ (n : Nat) (l0 : Nat) (l1 : Int32) (l3 : Int32) (l4 : Int32) (l5 : Int32) (H : qx_H) (h : fm_X11_cutsTo_b14 rc n l0 l1 l3 l4 l5 H = some (r, H')), r = 0 ∨ r = 1 := by
  intro n
  induction n with
  | zero => intro l0 l1 l3 l4 l5 H h; exact nomatch (show (none : Option (Int32 × qx_H)) = some (r, H') from h)
  | succ n ih =>
    intro l0 l1 l3 l4 l5 H h
    unfold fm_X11_cutsTo_b14 at h
    by_cases c18 : 31 ≤ l5
    · replace h := qv_pos c18 h
      obtain ⟨rfl, rfl⟩ := qv_pair h
      exact Or.inl rfl
    · replace h := qv_neg c18 h
      by_cases c27 : (fm_X11_isIn l1 l5) = 0
      · replace h := qv_pos c27 h
        obtain ⟨v31, e31, h⟩ := qv_bind h
        obtain ⟨H37, e37, h⟩ := qv_bind h
        obtain ⟨g54, h⟩ := qv_guard h
        obtain ⟨v54, H54, e54, h⟩ := qv_bind2 h
        by_cases c57 : v54 = 0
        · replace h := qv_pos c57 h
          exact tzb_X11_cutsTo_62 rc hrz _ ih l0 l1 l3 l4 l5 H54 h
        · replace h := qv_neg c57 h
          obtain ⟨rfl, rfl⟩ := qv_pair h
          exact Or.inr rfl
      · replace h := qv_neg c27 h
        exact tzb_X11_cutsTo_62 rc hrz _ ih l0 l1 l3 l4 l5 H h
theorem tb_X11_cutsTo_0 {st : xT} {e : Nat} {d : Nat} {R : Option Value → qx_H → Prop} (rc : Nat → Int32 → Int32 → Int32 → Int32 → qx_H → Option (Int32 × qx_H)) (hB : 6 ≤ e) (hrc : ∀ {b0 : Nat} {b1 : Int32} {b2 : Int32} {b3 : Int32} {b4 : Int32} {H1 H2 : qx_H} {r1 : Int32}, rc b0 b1 b2 b3 b4 H1 = some (r1, H2) → xE st e 185 [.ref b0, .int b1, .int b2, .int b3, .int b4] H1 (some (.int r1)) H2) (hrl : ∀ {b0 : Nat} {b1 : Int32} {b2 : Int32} {b3 : Int32} {b4 : Int32} {H1 H2 : qx_H} {r1 : Int32}, rc b0 b1 b2 b3 b4 H1 = some (r1, H2) → H2.length = H1.length) (hrz : ∀ {b0 : Nat} {b1 : Int32} {b2 : Int32} {b3 : Int32} {b4 : Int32} {H1 H2 : qx_H} {r1 : Int32}, rc b0 b1 b2 b3 b4 H1 = some (r1, H2) → r1 = 0 ∨ r1 = 1) (hd : e + 0 ≤ d) {r : Int32} {H' : qx_H} (hR : R (some (.int r)) H') (a0 : Nat) (a1 : Int32) (a2 : Int32) (a3 : Int32) (a4 : Int32) (H : qx_H) (h : fm_X11_cutsTo_e rc a0 a1 a2 a3 a4 H = some (r, H')) : qx_V (xE st d) R (xc185 st) (0, [some (.ref a0), some (.int a1), some (.int a2), some (.int a3), some (.int a4), none], [], H) := by
  unfold fm_X11_cutsTo_e at h
  refine qv_br (c := a3 = a4) (a := (6, [some (.ref a0), some (.int a1), some (.int a2), some (.int a3), some (.int a4), none], [], H)) (b := (11, [some (.ref a0), some (.int a1), some (.int a2), some (.int a3), some (.int a4), none], [], H)) 3 rfl (fun c3 => ?_) (fun c3 => ?_)
  · replace h := qv_pos c3 h
    refine qv_run 1 (σ := (7, [some (.ref a0), some (.int a1), some (.int a2), some (.int a3), some (.int a4), none], [.int a1], H)) rfl ?_
    obtain ⟨v7, e7, h⟩ := qv_bind h
    refine qv_call [.int a1] rfl rfl rfl (Nat.le_of_ble_eq_true rfl) (th_X11_isOneRun (by omega) e7) rfl ?_
    obtain ⟨rfl, rfl⟩ := qv_pair h
    exact qv_retz rfl (tz_X11_isOneRun e7) hR
  · replace h := qv_neg c3 h
    refine qv_run 2 (σ := (14, [some (.ref a0), some (.int a1), some (.int a2), some (.int a3), some (.int a4), some (.int a2)], [], H)) rfl ?_
    exact tb_X11_cutsTo_14 rc hB hrc hrl hrz hd hR 5000 a0 a1 a3 a4 a2 (some (.int a2)) rfl H h
theorem tlb_X11_cutsTo_0 (rc : Nat → Int32 → Int32 → Int32 → Int32 → qx_H → Option (Int32 × qx_H)) (hrl : ∀ {b0 : Nat} {b1 : Int32} {b2 : Int32} {b3 : Int32} {b4 : Int32} {H1 H2 : qx_H} {r1 : Int32}, rc b0 b1 b2 b3 b4 H1 = some (r1, H2) → H2.length = H1.length) {r : Int32} {H' : qx_H} (a0 : Nat) (a1 : Int32) (a2 : Int32) (a3 : Int32) (a4 : Int32) (H : qx_H) (h : fm_X11_cutsTo_e rc a0 a1 a2 a3 a4 H = some (r, H')) : H'.length = H.length := by
  unfold fm_X11_cutsTo_e at h
  by_cases c3 : a3 = a4
  · replace h := qv_pos c3 h
    obtain ⟨v7, e7, h⟩ := qv_bind h
    obtain ⟨rfl, rfl⟩ := qv_pair h
    rfl
  · replace h := qv_neg c3 h
    exact tlb_X11_cutsTo_14 rc hrl 5000 a0 a1 a3 a4 a2 H h
theorem tzb_X11_cutsTo_0 (rc : Nat → Int32 → Int32 → Int32 → Int32 → qx_H → Option (Int32 × qx_H)) (hrz : ∀ {b0 : Nat} {b1 : Int32} {b2 : Int32} {b3 : Int32} {b4 : Int32} {H1 H2 : qx_H} {r1 : Int32}, rc b0 b1 b2 b3 b4 H1 = some (r1, H2) → r1 = 0 ∨ r1 = 1) {r : Int32} {H' : qx_H} (a0 : Nat) (a1 : Int32) (a2 : Int32) (a3 : Int32) (a4 : Int32) (H : qx_H) (h : fm_X11_cutsTo_e rc a0 a1 a2 a3 a4 H = some (r, H')) : r = 0 ∨ r = 1 := by
  unfold fm_X11_cutsTo_e at h
  by_cases c3 : a3 = a4
  · replace h := qv_pos c3 h
    obtain ⟨v7, e7, h⟩ := qv_bind h
    obtain ⟨rfl, rfl⟩ := qv_pair h
    exact (tz_X11_isOneRun e7)
  · replace h := qv_neg c3 h
    exact tzb_X11_cutsTo_14 rc hrz 5000 a0 a1 a3 a4 a2 H h
theorem tln_X11_cutsTo : ∀ (n : Nat) {a0 : Nat} {a1 : Int32} {a2 : Int32} {a3 : Int32} {a4 : Int32} {H : qx_H} {r : Int32} {H' : qx_H}, fm_X11_cutsTo n a0 a1 a2 a3 a4 H = some (r, H') → H'.length = H.length := by
  intro n
  induction n with
  | zero => intro a0 a1 a2 a3 a4 H r H' h; exact nomatch (show (none : Option (Int32 × qx_H)) = some (r, H') from h)
  | succ n ih =>
    intro a0 a1 a2 a3 a4 H r H' h
    exact tlb_X11_cutsTo_0 (fm_X11_cutsTo n) (fun h => ih h) a0 a1 a2 a3 a4 H h
theorem tl_X11_cutsTo {a0 : Nat} {a1 : Int32} {a2 : Int32} {a3 : Int32} {a4 : Int32} {H : qx_H} {r : Int32} {H' : qx_H} (h : fm_X11_cutsTo 8 a0 a1 a2 a3 a4 H = some (r, H')) : H'.length = H.length := tln_X11_cutsTo _ h
theorem tzn_X11_cutsTo : ∀ (n : Nat) {a0 : Nat} {a1 : Int32} {a2 : Int32} {a3 : Int32} {a4 : Int32} {H : qx_H} {r : Int32} {H' : qx_H}, fm_X11_cutsTo n a0 a1 a2 a3 a4 H = some (r, H') → (r = 0 ∨ r = 1) := by
  intro n
  induction n with
  | zero => intro a0 a1 a2 a3 a4 H r H' h; exact nomatch (show (none : Option (Int32 × qx_H)) = some (r, H') from h)
  | succ n ih =>
    intro a0 a1 a2 a3 a4 H r H' h
    exact tzb_X11_cutsTo_0 (fm_X11_cutsTo n) (fun h => ih h) a0 a1 a2 a3 a4 H h
theorem tz_X11_cutsTo {a0 : Nat} {a1 : Int32} {a2 : Int32} {a3 : Int32} {a4 : Int32} {H : qx_H} {r : Int32} {H' : qx_H} (h : fm_X11_cutsTo 8 a0 a1 a2 a3 a4 H = some (r, H')) : r = 0 ∨ r = 1 := tzn_X11_cutsTo _ h
theorem thn_X11_cutsTo {st : xT} : ∀ (n : Nat) {a0 : Nat} {a1 : Int32} {a2 : Int32} {a3 : Int32} {a4 : Int32} {H : qx_H} {r : Int32} {H' : qx_H}, fm_X11_cutsTo n a0 a1 a2 a3 a4 H = some (r, H') → xE st (6 + 1 * n) 185 [.ref a0, .int a1, .int a2, .int a3, .int a4] H (some (.int r)) H' := by
  intro n
  induction n with
  | zero => intro a0 a1 a2 a3 a4 H r H' h; exact nomatch (show (none : Option (Int32 × qx_H)) = some (r, H') from h)
  | succ n ih =>
    intro a0 a1 a2 a3 a4 H r H' h
    have hx : xE st (6 + 1 * n + 1) 185 [.ref a0, .int a1, .int a2, .int a3, .int a4] H (some (.int r)) H' := by
      exact xE_of (xe185 st) xl185 (Nat.le_of_ble_eq_true rfl) (ls := [some (.ref a0), some (.int a1), some (.int a2), some (.int a3), some (.int a4), none]) rfl (tb_X11_cutsTo_0 (e := 6 + 1 * n) (fm_X11_cutsTo n) (by omega) (fun h => ih h) (fun h => tln_X11_cutsTo n h) (fun h => tzn_X11_cutsTo n h) (Nat.le_refl _) ⟨rfl, rfl⟩ a0 a1 a2 a3 a4 H h)
    exact xE_le (by omega) hx
theorem th_X11_cutsTo {st : xT} {d : Nat} (hd : 14 ≤ d) {a0 : Nat} {a1 : Int32} {a2 : Int32} {a3 : Int32} {a4 : Int32} {H : qx_H} {r : Int32} {H' : qx_H} (h : fm_X11_cutsTo 8 a0 a1 a2 a3 a4 H = some (r, H')) : xE st d 185 [.ref a0, .int a1, .int a2, .int a3, .int a4] H (some (.int r)) H' := xE_le (by omega) (thn_X11_cutsTo 8 h)
def fm_X11_cuts_b83 (l0 : Nat) (H : qx_H) : Option (Int32 × qx_H) := if hp_is H l0 9 = true then (ob2 (fm_X11_error l0 2 H) fun v85 H85 => some (v85, H85)) else none
def fm_X11_cuts_b69 (l0 : Nat) (l1 : Int32) (l2 : Int32) (l3 : Int32) (l4 : Int32) (H : qx_H) : Option (Int32 × qx_H) := if l2 = 0 then (fm_X11_cuts_b83 l0 H) else (if l4 = 0 then (fm_X11_cuts_b83 l0 H) else (if l1 < l3 then (if l1 = (-1) then (some (l3, H)) else ((hp_gR H l0 9 12).bind fun v99 => (hp_ald H v99 l1).bind fun v103 => some (v103, H))) else (fm_X11_cuts_b83 l0 H)))
def fm_X11_cuts_b33 : Nat → Nat → Int32 → Int32 → Int32 → Int32 → qx_H → Option (Int32 × qx_H)
  | 0, _, _, _, _, _, _ => none
  | n + 1, l0, l1, l2, l3, l4, H => if l4 = 0 then (if 4 ≤ l3 then (fm_X11_cuts_b69 l0 l1 l2 l3 l4 H) else (if hp_is H l0 9 = true then (ob2 (fm_X11_cutsTo 8 l0 l2 0 0 l3 H) fun v48 H48 => fm_X11_cuts_b33 n l0 l1 l2 (l3 + (if v48 = 0 then 1 else 0)) v48 H48) else none)) else (fm_X11_cuts_b69 l0 l1 l2 l3 l4 H)
def fm_X11_cuts (a0 : Nat) (a1 : Int32) (H : qx_H) : Option (Int32 × qx_H) := if (fm_X11_in a1 (-1) 2) = 0 then (if hp_is H a0 9 = true then (ob2 (fm_X11_error a0 1 H) fun v11 H11 => some (v11, H11)) else none) else (if hp_is H a0 9 = true then ((fm_X11_gone a0 H).bind fun v16 => fm_X11_cuts_b33 5000 a0 a1 v16 0 (if v16 = 0 then 1 else 0) H) else none)
theorem tb_X11_cuts_83 {st : xT} {d : Nat} {R : Option Value → qx_H → Prop} (hd : 14 ≤ d) {r : Int32} {H' : qx_H} (hR : R (some (.int r)) H') (l0 : Nat) (z1 : Option Value) (hz1 : qx_ns z1 = true) (z2 : Option Value) (hz2 : qx_ns z2 = true) (z3 : Option Value) (hz3 : qx_ns z3 = true) (z4 : Option Value) (hz4 : qx_ns z4 = true) (H : qx_H) (h : fm_X11_cuts_b83 l0 H = some (r, H')) : qx_V (xE st d) R (xc186 st) (83, [some (.ref l0), z1, z2, z3, z4], [], H) := by
  unfold fm_X11_cuts_b83 at h
  refine qv_run 2 (σ := (85, [some (.ref l0), z1, z2, z3, z4], [.int 2, .ref l0], H)) rfl ?_
  obtain ⟨g85, h⟩ := qv_guard h
  obtain ⟨v85, H85, e85, h⟩ := qv_bind2 h
  refine qv_callV [.int 2] rfl rfl rfl (Nat.le_of_ble_eq_true rfl) g85 (th_X11_error (by omega) e85) (tl_X11_error e85) ?_
  obtain ⟨rfl, rfl⟩ := qv_pair h
  exact qv_reti rfl hR
theorem tlb_X11_cuts_83 {r : Int32} {H' : qx_H} (l0 : Nat) (H : qx_H) (h : fm_X11_cuts_b83 l0 H = some (r, H')) : H'.length = H.length := by
  unfold fm_X11_cuts_b83 at h
  obtain ⟨g85, h⟩ := qv_guard h
  obtain ⟨v85, H85, e85, h⟩ := qv_bind2 h
  have q_H85 := tl_X11_error e85
  obtain ⟨rfl, rfl⟩ := qv_pair h
  omega
theorem tb_X11_cuts_69 {st : xT} {d : Nat} {R : Option Value → qx_H → Prop} (hd : 14 ≤ d) {r : Int32} {H' : qx_H} (hR : R (some (.int r)) H') (l0 : Nat) (l1 : Int32) (l2 : Int32) (l3 : Int32) (l4 : Int32) (H : qx_H) (h : fm_X11_cuts_b69 l0 l1 l2 l3 l4 H = some (r, H')) : qx_V (xE st d) R (xc186 st) (69, [some (.ref l0), some (.int l1), some (.int l2), some (.int l3), some (.int l4)], [], H) := by
  unfold fm_X11_cuts_b69 at h
  refine qv_br (c := l2 = 0) (a := (83, [some (.ref l0), some (.int l1), some (.int l2), some (.int l3), some (.int l4)], [], H)) (b := (73, [some (.ref l0), some (.int l1), some (.int l2), some (.int l3), some (.int l4)], [], H)) 2 rfl (fun c70 => ?_) (fun c70 => ?_)
  · replace h := qv_pos c70 h
    exact tb_X11_cuts_83 hd hR l0 (some (.int l1)) rfl (some (.int l2)) rfl (some (.int l3)) rfl (some (.int l4)) rfl H h
  · replace h := qv_neg c70 h
    refine qv_br (c := l4 = 0) (a := (83, [some (.ref l0), some (.int l1), some (.int l2), some (.int l3), some (.int l4)], [], H)) (b := (78, [some (.ref l0), some (.int l1), some (.int l2), some (.int l3), some (.int l4)], [], H)) 2 rfl (fun c75 => ?_) (fun c75 => ?_)
    · replace h := qv_pos c75 h
      exact tb_X11_cuts_83 hd hR l0 (some (.int l1)) rfl (some (.int l2)) rfl (some (.int l3)) rfl (some (.int l4)) rfl H h
    · replace h := qv_neg c75 h
      refine qv_br (c := l1 < l3) (a := (89, [some (.ref l0), some (.int l1), some (.int l2), some (.int l3), some (.int l4)], [], H)) (b := (83, [some (.ref l0), some (.int l1), some (.int l2), some (.int l3), some (.int l4)], [], H)) 3 rfl (fun c80 => ?_) (fun c80 => ?_)
      · replace h := qv_pos c80 h
        refine qv_br (c := l1 = (-1)) (a := (94, [some (.ref l0), some (.int l1), some (.int l2), some (.int l3), some (.int l4)], [], H)) (b := (98, [some (.ref l0), some (.int l1), some (.int l2), some (.int l3), some (.int l4)], [], H)) 3 rfl (fun c91 => ?_) (fun c91 => ?_)
        · replace h := qv_pos c91 h
          refine qv_run 2 (σ := (104, [some (.ref l0), some (.int l1), some (.int l2), some (.int l3), some (.int l4)], [.int l3], H)) rfl ?_
          obtain ⟨rfl, rfl⟩ := qv_pair h
          exact qv_reti rfl hR
        · replace h := qv_neg c91 h
          refine qv_run 1 (σ := (99, [some (.ref l0), some (.int l1), some (.int l2), some (.int l3), some (.int l4)], [.ref l0], H)) rfl ?_
          obtain ⟨v99, e99, h⟩ := qv_bind h
          refine qv_getR rfl e99 ?_
          refine qv_run 1 (σ := (103, [some (.ref l0), some (.int l1), some (.int l2), some (.int l3), some (.int l4)], [.int l1, .ref v99], H)) rfl ?_
          obtain ⟨v103, e103, h⟩ := qv_bind h
          refine qv_ald rfl e103 ?_
          obtain ⟨rfl, rfl⟩ := qv_pair h
          exact qv_reti rfl hR
      · replace h := qv_neg c80 h
        exact tb_X11_cuts_83 hd hR l0 (some (.int l1)) rfl (some (.int l2)) rfl (some (.int l3)) rfl (some (.int l4)) rfl H h
theorem tlb_X11_cuts_69 {r : Int32} {H' : qx_H} (l0 : Nat) (l1 : Int32) (l2 : Int32) (l3 : Int32) (l4 : Int32) (H : qx_H) (h : fm_X11_cuts_b69 l0 l1 l2 l3 l4 H = some (r, H')) : H'.length = H.length := by
  unfold fm_X11_cuts_b69 at h
  by_cases c70 : l2 = 0
  · replace h := qv_pos c70 h
    exact tlb_X11_cuts_83 l0 H h
  · replace h := qv_neg c70 h
    by_cases c75 : l4 = 0
    · replace h := qv_pos c75 h
      exact tlb_X11_cuts_83 l0 H h
    · replace h := qv_neg c75 h
      by_cases c80 : l1 < l3
      · replace h := qv_pos c80 h
        by_cases c91 : l1 = (-1)
        · replace h := qv_pos c91 h
          obtain ⟨rfl, rfl⟩ := qv_pair h
          rfl
        · replace h := qv_neg c91 h
          obtain ⟨v99, e99, h⟩ := qv_bind h
          obtain ⟨v103, e103, h⟩ := qv_bind h
          obtain ⟨rfl, rfl⟩ := qv_pair h
          rfl
      · replace h := qv_neg c80 h
        exact tlb_X11_cuts_83 l0 H h
theorem tb_X11_cuts_33 {st : xT} {d : Nat} {R : Option Value → qx_H → Prop} (hd : 14 ≤ d) {r : Int32} {H' : qx_H} (hR : R (some (.int r)) H') : ∀ (n : Nat) (l0 : Nat) (l1 : Int32) (l2 : Int32) (l3 : Int32) (l4 : Int32) (H : qx_H) (h : fm_X11_cuts_b33 n l0 l1 l2 l3 l4 H = some (r, H')), qx_V (xE st d) R (xc186 st) (33, [some (.ref l0), some (.int l1), some (.int l2), some (.int l3), some (.int l4)], [], H) := by
  intro n
  induction n with
  | zero => intro l0 l1 l2 l3 l4 H h; exact nomatch (show (none : Option (Int32 × qx_H)) = some (r, H') from h)
  | succ n ih =>
    intro l0 l1 l2 l3 l4 H h
    unfold fm_X11_cuts_b33 at h
    refine qv_br (c := l4 = 0) (a := (38, [some (.ref l0), some (.int l1), some (.int l2), some (.int l3), some (.int l4)], [], H)) (b := (69, [some (.ref l0), some (.int l1), some (.int l2), some (.int l3), some (.int l4)], [], H)) 2 rfl (fun c35 => ?_) (fun c35 => ?_)
    · replace h := qv_pos c35 h
      refine qv_br (c := 4 ≤ l3) (a := (69, [some (.ref l0), some (.int l1), some (.int l2), some (.int l3), some (.int l4)], [], H)) (b := (43, [some (.ref l0), some (.int l1), some (.int l2), some (.int l3), some (.int l4)], [], H)) 3 rfl (fun c40 => ?_) (fun c40 => ?_)
      · replace h := qv_pos c40 h
        exact tb_X11_cuts_69 hd hR l0 l1 l2 l3 l4 H h
      · replace h := qv_neg c40 h
        refine qv_run 5 (σ := (48, [some (.ref l0), some (.int l1), some (.int l2), some (.int l3), some (.int l4)], [.int l3, .int 0, .int 0, .int l2, .ref l0], H)) rfl ?_
        obtain ⟨g48, h⟩ := qv_guard h
        obtain ⟨v48, H48, e48, h⟩ := qv_bind2 h
        refine qv_callV [.int l2, .int 0, .int 0, .int l3] rfl rfl rfl (Nat.le_of_ble_eq_true rfl) g48 (th_X11_cutsTo (by omega) e48) (tl_X11_cutsTo e48) ?_
        refine qv_dia (c := v48 = 0) (a := (63, [some (.ref l0), some (.int l1), some (.int l2), some (.int l3), some (.int v48)], [.int l3], H48)) (b := (59, [some (.ref l0), some (.int l1), some (.int l2), some (.int l3), some (.int v48)], [.int l3], H48)) (σ' := (64, [some (.ref l0), some (.int l1), some (.int l2), some (.int l3), some (.int v48)], [.int (if v48 = 0 then 1 else 0), .int l3], H48)) 4 rfl ?_ (fun c56 kk => qv_run 1 (σ := (64, [some (.ref l0), some (.int l1), some (.int l2), some (.int l3), some (.int v48)], [.int 1, .int l3], H48)) rfl (qv_eq (by simp only [if_pos c56]) kk)) (fun c56 kk => qv_run 2 (σ := (64, [some (.ref l0), some (.int l1), some (.int l2), some (.int l3), some (.int v48)], [.int 0, .int l3], H48)) rfl (qv_eq (by simp only [if_neg c56]) kk))
        refine qv_run 3 (σ := (33, [some (.ref l0), some (.int l1), some (.int l2), some (.int (l3 + (if v48 = 0 then 1 else 0))), some (.int v48)], [], H48)) rfl ?_
        exact ih l0 l1 l2 (l3 + (if v48 = 0 then 1 else 0)) v48 H48 h
    · replace h := qv_neg c35 h
      exact tb_X11_cuts_69 hd hR l0 l1 l2 l3 l4 H h
theorem tlb_X11_cuts_33 {r : Int32} {H' : qx_H} : ∀ (n : Nat) (l0 : Nat) (l1 : Int32) (l2 : Int32) (l3 : Int32) (l4 : Int32) (H : qx_H) (h : fm_X11_cuts_b33 n l0 l1 l2 l3 l4 H = some (r, H')), H'.length = H.length := by
  intro n
  induction n with
  | zero => intro l0 l1 l2 l3 l4 H h; exact nomatch (show (none : Option (Int32 × qx_H)) = some (r, H') from h)
  | succ n ih =>
    intro l0 l1 l2 l3 l4 H h
    unfold fm_X11_cuts_b33 at h
    by_cases c35 : l4 = 0
    · replace h := qv_pos c35 h
      by_cases c40 : 4 ≤ l3
      · replace h := qv_pos c40 h
        exact tlb_X11_cuts_69 l0 l1 l2 l3 l4 H h
      · replace h := qv_neg c40 h
        obtain ⟨g48, h⟩ := qv_guard h
        obtain ⟨v48, H48, e48, h⟩ := qv_bind2 h
        have q_H48 := tl_X11_cutsTo e48
        have q_end := ih l0 l1 l2 (l3 + (if v48 = 0 then 1 else 0)) v48 H48 h
        omega
    · replace h := qv_neg c35 h
      exact tlb_X11_cuts_69 l0 l1 l2 l3 l4 H h
theorem tb_X11_cuts_0 {st : xT} {d : Nat} {R : Option Value → qx_H → Prop} (hd : 14 ≤ d) {r : Int32} {H' : qx_H} (hR : R (some (.int r)) H') (a0 : Nat) (a1 : Int32) (H : qx_H) (h : fm_X11_cuts a0 a1 H = some (r, H')) : qx_V (xE st d) R (xc186 st) (0, [some (.ref a0), some (.int a1), none, none, none], [], H) := by
  unfold fm_X11_cuts at h
  refine qv_run 3 (σ := (3, [some (.ref a0), some (.int a1), none, none, none], [.int 2, .int (-1), .int a1], H)) rfl ?_
  refine qv_call [.int a1, .int (-1), .int 2] rfl rfl rfl (Nat.le_of_ble_eq_true rfl) (th_X11_in (by omega) rfl) rfl ?_
  refine qv_br (c := (fm_X11_in a1 (-1) 2) = 0) (a := (9, [some (.ref a0), some (.int a1), none, none, none], [], H)) (b := (15, [some (.ref a0), some (.int a1), none, none, none], [], H)) 1 rfl (fun c6 => ?_) (fun c6 => ?_)
  · replace h := qv_pos c6 h
    refine qv_run 2 (σ := (11, [some (.ref a0), some (.int a1), none, none, none], [.int 1, .ref a0], H)) rfl ?_
    obtain ⟨g11, h⟩ := qv_guard h
    obtain ⟨v11, H11, e11, h⟩ := qv_bind2 h
    refine qv_callV [.int 1] rfl rfl rfl (Nat.le_of_ble_eq_true rfl) g11 (th_X11_error (by omega) e11) (tl_X11_error e11) ?_
    obtain ⟨rfl, rfl⟩ := qv_pair h
    exact qv_reti rfl hR
  · replace h := qv_neg c6 h
    refine qv_run 1 (σ := (16, [some (.ref a0), some (.int a1), none, none, none], [.ref a0], H)) rfl ?_
    obtain ⟨g16, h⟩ := qv_guard h
    obtain ⟨v16, e16, h⟩ := qv_bind h
    refine qv_callV [] rfl rfl rfl (Nat.le_of_ble_eq_true rfl) g16 (th_X11_gone (by omega) e16) rfl ?_
    refine qv_dia (c := v16 = 0) (a := (26, [some (.ref a0), some (.int a1), some (.int v16), some (.int 0), none], [], H)) (b := (30, [some (.ref a0), some (.int a1), some (.int v16), some (.int 0), none], [], H)) (σ' := (31, [some (.ref a0), some (.int a1), some (.int v16), some (.int 0), none], [.int (if v16 = 0 then 1 else 0)], H)) 5 rfl ?_ (fun c23 kk => qv_run 2 (σ := (31, [some (.ref a0), some (.int a1), some (.int v16), some (.int 0), none], [.int 1], H)) rfl (qv_eq (by simp only [if_pos c23]) kk)) (fun c23 kk => qv_run 1 (σ := (31, [some (.ref a0), some (.int a1), some (.int v16), some (.int 0), none], [.int 0], H)) rfl (qv_eq (by simp only [if_neg c23]) kk))
    refine qv_run 1 (σ := (33, [some (.ref a0), some (.int a1), some (.int v16), some (.int 0), some (.int (if v16 = 0 then 1 else 0))], [], H)) rfl ?_
    exact tb_X11_cuts_33 hd hR 5000 a0 a1 v16 0 (if v16 = 0 then 1 else 0) H h
theorem tlb_X11_cuts_0 {r : Int32} {H' : qx_H} (a0 : Nat) (a1 : Int32) (H : qx_H) (h : fm_X11_cuts a0 a1 H = some (r, H')) : H'.length = H.length := by
  unfold fm_X11_cuts at h
  by_cases c6 : (fm_X11_in a1 (-1) 2) = 0
  · replace h := qv_pos c6 h
    obtain ⟨g11, h⟩ := qv_guard h
    obtain ⟨v11, H11, e11, h⟩ := qv_bind2 h
    have q_H11 := tl_X11_error e11
    obtain ⟨rfl, rfl⟩ := qv_pair h
    omega
  · replace h := qv_neg c6 h
    obtain ⟨g16, h⟩ := qv_guard h
    obtain ⟨v16, e16, h⟩ := qv_bind h
    exact tlb_X11_cuts_33 5000 a0 a1 v16 0 (if v16 = 0 then 1 else 0) H h
theorem th_X11_cuts {st : xT} {d : Nat} (hd : 15 ≤ d) {a0 : Nat} {a1 : Int32} {H : qx_H} {r : Int32} {H' : qx_H} (h : fm_X11_cuts a0 a1 H = some (r, H')) : xE st d 186 [.ref a0, .int a1] H (some (.int r)) H' := by
  obtain ⟨d, rfl⟩ : ∃ d', d = d' + 1 := ⟨d - 1, by omega⟩
  exact xE_of (xe186 st) xl186 (Nat.le_of_ble_eq_true rfl) (ls := [some (.ref a0), some (.int a1), none, none, none]) rfl (tb_X11_cuts_0 (by omega) ⟨rfl, rfl⟩ a0 a1 H h)
theorem tl_X11_cuts {a0 : Nat} {a1 : Int32} {H : qx_H} {r : Int32} {H' : qx_H} (h : fm_X11_cuts a0 a1 H = some (r, H')) : H'.length = H.length := tlb_X11_cuts_0 a0 a1 H h
def fm_X11_goesOn_b52 (l0 : Int32) (t0 : Int32) (H : qx_H) : Option Int32 := if t0 = 0 then (some 0) else ((fm_X11_least l0 H).bind fun v59 => (fm_X11_hangs l0 v59 H).bind fun v62 => if v62 = l0 then (some 1) else (some 0))
def fm_X11_goesOn_b51 (l0 : Int32) (H : qx_H) : Option Int32 := fm_X11_goesOn_b52 l0 0 H
def fm_X11_goesOn (a0 : Int32) (a1 : Int32) (H : qx_H) : Option Int32 := if a0 = 0 then (some 1) else ((fm_X11_oddOnes a0 H).bind fun v7 => if v7 = 0 then ((fm_X11_endsAt a0 a1 H).bind fun v17 => fm_X11_goesOn_b52 a0 (if v17 ≤ 0 then 0 else 1) H) else (if v7 = 2 then ((fm_X11_endsAt a0 a1 H).bind fun v38 => fm_X11_goesOn_b52 a0 (if (ji_rem v38 2) = 1 then 1 else 0) H) else (fm_X11_goesOn_b51 a0 H)))
theorem tb_X11_goesOn_52 {st : xT} {d : Nat} {R : Option Value → qx_H → Prop} (hd : 5 ≤ d) {r : Int32} {H : qx_H} (hR : R (some (.int r)) H) (l0 : Int32) (t0 : Int32) (z1 : Option Value) (hz1 : qx_ns z1 = true) (z2 : Option Value) (hz2 : qx_ns z2 = true) (h : fm_X11_goesOn_b52 l0 t0 H = some r) : qx_V (xE st d) R (xc187 st) (52, [some (.int l0), z1, z2, none], [.int t0], H) := by
  unfold fm_X11_goesOn_b52 at h
  refine qv_istN (ls' := [some (.int l0), z1, z2, some (.int t0)]) rfl rfl (qx_kl_ns rfl hz2) rfl ?_
  refine qv_br (c := t0 = 0) (a := (73, [some (.int l0), z1, z2, some (.int t0)], [], H)) (b := (57, [some (.int l0), z1, z2, some (.int t0)], [], H)) 2 rfl (fun c54 => ?_) (fun c54 => ?_)
  · replace h := qv_pos c54 h
    refine qv_run 1 (σ := (74, [some (.int l0), z1, z2, some (.int t0)], [.int 0], H)) rfl ?_
    cases h
    exact qv_retz rfl (Or.inl rfl) hR
  · replace h := qv_neg c54 h
    refine qv_run 2 (σ := (59, [some (.int l0), z1, z2, some (.int t0)], [.int l0, .int l0], H)) rfl ?_
    obtain ⟨v59, e59, h⟩ := qv_bind h
    refine qv_call [.int l0] rfl rfl rfl (Nat.le_of_ble_eq_true rfl) (th_X11_least (by omega) e59) rfl ?_
    obtain ⟨v62, e62, h⟩ := qv_bind h
    refine qv_call [.int l0, .int v59] rfl rfl rfl (Nat.le_of_ble_eq_true rfl) (th_X11_hangs (by omega) e62) rfl ?_
    refine qv_br (c := v62 = l0) (a := (69, [some (.int l0), z1, z2, some (.int t0)], [], H)) (b := (73, [some (.int l0), z1, z2, some (.int t0)], [], H)) 2 rfl (fun c66 => ?_) (fun c66 => ?_)
    · replace h := qv_pos c66 h
      refine qv_run 2 (σ := (74, [some (.int l0), z1, z2, some (.int t0)], [.int 1], H)) rfl ?_
      cases h
      exact qv_retz rfl (Or.inr rfl) hR
    · replace h := qv_neg c66 h
      refine qv_run 1 (σ := (74, [some (.int l0), z1, z2, some (.int t0)], [.int 0], H)) rfl ?_
      cases h
      exact qv_retz rfl (Or.inl rfl) hR
theorem tzb_X11_goesOn_52 {r : Int32} {H : qx_H} (l0 : Int32) (t0 : Int32) (h : fm_X11_goesOn_b52 l0 t0 H = some r) : r = 0 ∨ r = 1 := by
  unfold fm_X11_goesOn_b52 at h
  by_cases c54 : t0 = 0
  · replace h := qv_pos c54 h
    cases h
    exact Or.inl rfl
  · replace h := qv_neg c54 h
    obtain ⟨v59, e59, h⟩ := qv_bind h
    obtain ⟨v62, e62, h⟩ := qv_bind h
    by_cases c66 : v62 = l0
    · replace h := qv_pos c66 h
      cases h
      exact Or.inr rfl
    · replace h := qv_neg c66 h
      cases h
      exact Or.inl rfl
theorem tb_X11_goesOn_51 {st : xT} {d : Nat} {R : Option Value → qx_H → Prop} (hd : 5 ≤ d) {r : Int32} {H : qx_H} (hR : R (some (.int r)) H) (l0 : Int32) (z1 : Option Value) (hz1 : qx_ns z1 = true) (z2 : Option Value) (hz2 : qx_ns z2 = true) (h : fm_X11_goesOn_b51 l0 H = some r) : qx_V (xE st d) R (xc187 st) (51, [some (.int l0), z1, z2, none], [], H) := by
  unfold fm_X11_goesOn_b51 at h
  refine qv_run 1 (σ := (52, [some (.int l0), z1, z2, none], [.int 0], H)) rfl ?_
  exact tb_X11_goesOn_52 hd hR l0 0 z1 hz1 z2 hz2 h
theorem tzb_X11_goesOn_51 {r : Int32} {H : qx_H} (l0 : Int32) (h : fm_X11_goesOn_b51 l0 H = some r) : r = 0 ∨ r = 1 := by
  unfold fm_X11_goesOn_b51 at h
  exact tzb_X11_goesOn_52 l0 0 h
theorem tb_X11_goesOn_0 {st : xT} {d : Nat} {R : Option Value → qx_H → Prop} (hd : 5 ≤ d) {r : Int32} {H : qx_H} (hR : R (some (.int r)) H) (a0 : Int32) (a1 : Int32) (h : fm_X11_goesOn a0 a1 H = some r) : qx_V (xE st d) R (xc187 st) (0, [some (.int a0), some (.int a1), none, none], [], H) := by
  unfold fm_X11_goesOn at h
  refine qv_br (c := a0 = 0) (a := (4, [some (.int a0), some (.int a1), none, none], [], H)) (b := (6, [some (.int a0), some (.int a1), none, none], [], H)) 2 rfl (fun c1 => ?_) (fun c1 => ?_)
  · replace h := qv_pos c1 h
    refine qv_run 1 (σ := (5, [some (.int a0), some (.int a1), none, none], [.int 1], H)) rfl ?_
    cases h
    exact qv_retz rfl (Or.inr rfl) hR
  · replace h := qv_neg c1 h
    refine qv_run 1 (σ := (7, [some (.int a0), some (.int a1), none, none], [.int a0], H)) rfl ?_
    obtain ⟨v7, e7, h⟩ := qv_bind h
    refine qv_call [.int a0] rfl rfl rfl (Nat.le_of_ble_eq_true rfl) (th_X11_oddOnes (by omega) e7) rfl ?_
    refine qv_br (c := v7 = 0) (a := (15, [some (.int a0), some (.int a1), some (.int v7), none], [], H)) (b := (31, [some (.int a0), some (.int a1), some (.int v7), none], [], H)) 3 rfl (fun c12 => ?_) (fun c12 => ?_)
    · replace h := qv_pos c12 h
      refine qv_run 2 (σ := (17, [some (.int a0), some (.int a1), some (.int v7), none], [.int a1, .int a0], H)) rfl ?_
      obtain ⟨v17, e17, h⟩ := qv_bind h
      refine qv_call [.int a0, .int a1] rfl rfl rfl (Nat.le_of_ble_eq_true rfl) (th_X11_endsAt (by omega) e17) rfl ?_
      refine qv_dia (c := v17 ≤ 0) (a := (27, [some (.int a0), some (.int a1), some (.int v7), none], [], H)) (b := (23, [some (.int a0), some (.int a1), some (.int v7), none], [], H)) (σ' := (52, [some (.int a0), some (.int a1), some (.int v7), none], [.int (if v17 ≤ 0 then 0 else 1)], H)) 1 rfl ?_ (fun c20 kk => qv_run 2 (σ := (52, [some (.int a0), some (.int a1), some (.int v7), none], [.int 0], H)) rfl (qv_eq (by simp only [if_pos c20]) kk)) (fun c20 kk => qv_run 2 (σ := (52, [some (.int a0), some (.int a1), some (.int v7), none], [.int 1], H)) rfl (qv_eq (by simp only [if_neg c20]) kk))
      exact tb_X11_goesOn_52 hd hR a0 (if v17 ≤ 0 then 0 else 1) (some (.int a1)) rfl (some (.int v7)) rfl h
    · replace h := qv_neg c12 h
      refine qv_br (c := v7 = 2) (a := (36, [some (.int a0), some (.int a1), some (.int v7), none], [], H)) (b := (51, [some (.int a0), some (.int a1), some (.int v7), none], [], H)) 3 rfl (fun c33 => ?_) (fun c33 => ?_)
      · replace h := qv_pos c33 h
        refine qv_run 2 (σ := (38, [some (.int a0), some (.int a1), some (.int v7), none], [.int a1, .int a0], H)) rfl ?_
        obtain ⟨v38, e38, h⟩ := qv_bind h
        refine qv_call [.int a0, .int a1] rfl rfl rfl (Nat.le_of_ble_eq_true rfl) (th_X11_endsAt (by omega) e38) rfl ?_
        refine qv_run 1 (σ := (42, [some (.int a0), some (.int a1), some (.int v7), none], [.int 2, .int v38], H)) rfl ?_
        refine qv_div rfl (by decide) ?_
        refine qv_dia (c := (ji_rem v38 2) = 1) (a := (47, [some (.int a0), some (.int a1), some (.int v7), none], [], H)) (b := (51, [some (.int a0), some (.int a1), some (.int v7), none], [], H)) (σ' := (52, [some (.int a0), some (.int a1), some (.int v7), none], [.int (if (ji_rem v38 2) = 1 then 1 else 0)], H)) 2 rfl ?_ (fun c44 kk => qv_run 2 (σ := (52, [some (.int a0), some (.int a1), some (.int v7), none], [.int 1], H)) rfl (qv_eq (by simp only [if_pos c44]) kk)) (fun c44 kk => qv_run 1 (σ := (52, [some (.int a0), some (.int a1), some (.int v7), none], [.int 0], H)) rfl (qv_eq (by simp only [if_neg c44]) kk))
        exact tb_X11_goesOn_52 hd hR a0 (if (ji_rem v38 2) = 1 then 1 else 0) (some (.int a1)) rfl (some (.int v7)) rfl h
      · replace h := qv_neg c33 h
        exact tb_X11_goesOn_51 hd hR a0 (some (.int a1)) rfl (some (.int v7)) rfl h
theorem tzb_X11_goesOn_0 {r : Int32} {H : qx_H} (a0 : Int32) (a1 : Int32) (h : fm_X11_goesOn a0 a1 H = some r) : r = 0 ∨ r = 1 := by
  unfold fm_X11_goesOn at h
  by_cases c1 : a0 = 0
  · replace h := qv_pos c1 h
    cases h
    exact Or.inr rfl
  · replace h := qv_neg c1 h
    obtain ⟨v7, e7, h⟩ := qv_bind h
    by_cases c12 : v7 = 0
    · replace h := qv_pos c12 h
      obtain ⟨v17, e17, h⟩ := qv_bind h
      exact tzb_X11_goesOn_52 a0 (if v17 ≤ 0 then 0 else 1) h
    · replace h := qv_neg c12 h
      by_cases c33 : v7 = 2
      · replace h := qv_pos c33 h
        obtain ⟨v38, e38, h⟩ := qv_bind h
        exact tzb_X11_goesOn_52 a0 (if (ji_rem v38 2) = 1 then 1 else 0) h
      · replace h := qv_neg c33 h
        exact tzb_X11_goesOn_51 a0 h
theorem th_X11_goesOn {st : xT} {d : Nat} (hd : 6 ≤ d) {a0 : Int32} {a1 : Int32} {r : Int32} {H : qx_H} (h : fm_X11_goesOn a0 a1 H = some r) : xE st d 187 [.int a0, .int a1] H (some (.int r)) H := by
  obtain ⟨d, rfl⟩ : ∃ d', d = d' + 1 := ⟨d - 1, by omega⟩
  exact xE_of (xe187 st) xl187 (Nat.le_of_ble_eq_true rfl) (ls := [some (.int a0), some (.int a1), none, none]) rfl (tb_X11_goesOn_0 (by omega) ⟨rfl, rfl⟩ a0 a1 h)
theorem tz_X11_goesOn {a0 : Int32} {a1 : Int32} {r : Int32} {H : qx_H} (h : fm_X11_goesOn a0 a1 H = some r) : r = 0 ∨ r = 1 := tzb_X11_goesOn_0 a0 a1 h
def fm_X11_way_b125 (k47 : Nat → Int32 → Int32 → Int32 → Int32 → qx_H → Option (Int32 × qx_H)) (l0 : Nat) (l1 : Int32) (l2 : Int32) (l3 : Int32) (l4 : Int32) (l5 : Int32) (H : qx_H) : Option (Int32 × qx_H) := if l5 = (-1) then (if hp_is H l0 9 = true then (ob2 (fm_X11_error l0 2 H) fun v133 H133 => some (v133, H133)) else none) else (k47 l0 l1 (l2 &&& ((ji_shl 1 (fm_X11_between l3 l5)) ^^^ (-1))) l5 (l4 + 1) H)
def fm_X11_way_b117 (k47 : Nat → Int32 → Int32 → Int32 → Int32 → qx_H → Option (Int32 × qx_H)) (k59 : Nat → Int32 → Int32 → Int32 → Int32 → Int32 → Int32 → qx_H → Option (Int32 × qx_H)) (l0 : Nat) (l1 : Int32) (l2 : Int32) (l3 : Int32) (l4 : Int32) (l6 : Int32) (t0 : Int32) (H : qx_H) : Option (Int32 × qx_H) := k59 l0 l1 l2 l3 l4 t0 (l6 + 1) H
def fm_X11_way_b116 (k47 : Nat → Int32 → Int32 → Int32 → Int32 → qx_H → Option (Int32 × qx_H)) (k59 : Nat → Int32 → Int32 → Int32 → Int32 → Int32 → Int32 → qx_H → Option (Int32 × qx_H)) (l0 : Nat) (l1 : Int32) (l2 : Int32) (l3 : Int32) (l4 : Int32) (l6 : Int32) (H : qx_H) : Option (Int32 × qx_H) := fm_X11_way_b117 k47 k59 l0 l1 l2 l3 l4 l6 (-1) H
def fm_X11_way_b59 (k47 : Nat → Int32 → Int32 → Int32 → Int32 → qx_H → Option (Int32 × qx_H)) : Nat → Nat → Int32 → Int32 → Int32 → Int32 → Int32 → Int32 → qx_H → Option (Int32 × qx_H)
  | 0, _, _, _, _, _, _, _, _ => none
  | n + 1, l0, l1, l2, l3, l4, l5, l6, H => if 20 ≤ l6 then (fm_X11_way_b125 k47 l0 l1 l2 l3 l4 l5 H) else (if l5 = (-1) then (if (fm_X11_between l3 l6) = (-1) then (fm_X11_way_b116 k47 (fm_X11_way_b59 k47 n) l0 l1 l2 l3 l4 l6 H) else (if (fm_X11_isIn l2 (fm_X11_between l3 l6)) = 0 then (fm_X11_way_b116 k47 (fm_X11_way_b59 k47 n) l0 l1 l2 l3 l4 l6 H) else ((fm_X11_goesOn (l2 &&& ((ji_shl 1 (fm_X11_between l3 l6)) ^^^ (-1))) l6 H).bind fun v105 => fm_X11_way_b59 k47 n l0 l1 l2 l3 l4 (if v105 = 0 then (-1) else l6) (l6 + 1) H))) else (fm_X11_way_b125 k47 l0 l1 l2 l3 l4 l5 H))
def fm_X11_way_b47 : Nat → Nat → Int32 → Int32 → Int32 → Int32 → qx_H → Option (Int32 × qx_H)
  | 0, _, _, _, _, _, _ => none
  | n + 1, l0, l1, l2, l3, l4, H => if l1 ≤ l4 then (some (l3, H)) else (fm_X11_way_b59 (fm_X11_way_b47 n) 5000 l0 l1 l2 l3 l4 (-1) 0 H)
def fm_X11_way_b30 : Nat → Nat → Int32 → Int32 → Int32 → qx_H → Option (Int32 × qx_H)
  | 0, _, _, _, _, _ => none
  | n + 1, l0, l1, l2, l3, H => (fm_X11_goesOn l2 l3 H).bind fun v32 => if v32 = 0 then (fm_X11_way_b30 n l0 l1 l2 (l3 + 1) H) else (fm_X11_way_b47 5000 l0 l1 l2 l3 0 H)
def fm_X11_way (a0 : Nat) (a1 : Int32) (H : qx_H) : Option (Int32 × qx_H) := if 0 ≤ a1 then (if hp_is H a0 9 = true then ((fm_X11_gone a0 H).bind fun v11 => (fm_X11_isOneRun v11 H).bind fun v16 => if v16 = 0 then (ob2 (fm_X11_error a0 3 H) fun v24 H24 => some (v24, H24)) else (fm_X11_way_b30 5000 a0 a1 v11 0 H)) else none) else (if hp_is H a0 9 = true then (ob2 (fm_X11_error a0 1 H) fun v6 H6 => some (v6, H6)) else none)
theorem tb_X11_way_125 {st : xT} {d : Nat} {R : Option Value → qx_H → Prop} (hd : 6 ≤ d) {r : Int32} {H' : qx_H} (k47 : Nat → Int32 → Int32 → Int32 → Int32 → qx_H → Option (Int32 × qx_H)) (hk47 : ∀ (l0 : Nat) (l1 : Int32) (l2 : Int32) (l3 : Int32) (l4 : Int32) (z5 : Option Value) (hz5 : qx_ns z5 = true) (z6 : Option Value) (hz6 : qx_ns z6 = true) (z7 : Option Value) (hz7 : qx_ns z7 = true) (H : qx_H), k47 l0 l1 l2 l3 l4 H = some (r, H') → qx_V (xE st d) R (xc188 st) (47, [some (.ref l0), some (.int l1), some (.int l2), some (.int l3), some (.int l4), z5, z6, z7], [], H)) (hR : R (some (.int r)) H') (l0 : Nat) (l1 : Int32) (l2 : Int32) (l3 : Int32) (l4 : Int32) (l5 : Int32) (z6 : Option Value) (hz6 : qx_ns z6 = true) (z7 : Option Value) (hz7 : qx_ns z7 = true) (H : qx_H) (h : fm_X11_way_b125 k47 l0 l1 l2 l3 l4 l5 H = some (r, H')) : qx_V (xE st d) R (xc188 st) (125, [some (.ref l0), some (.int l1), some (.int l2), some (.int l3), some (.int l4), some (.int l5), z6, z7], [], H) := by
  unfold fm_X11_way_b125 at h
  refine qv_br (c := l5 = (-1)) (a := (131, [some (.ref l0), some (.int l1), some (.int l2), some (.int l3), some (.int l4), some (.int l5), z6, z7], [], H)) (b := (137, [some (.ref l0), some (.int l1), some (.int l2), some (.int l3), some (.int l4), some (.int l5), z6, z7], [], H)) 3 rfl (fun c128 => ?_) (fun c128 => ?_)
  · replace h := qv_pos c128 h
    refine qv_run 2 (σ := (133, [some (.ref l0), some (.int l1), some (.int l2), some (.int l3), some (.int l4), some (.int l5), z6, z7], [.int 2, .ref l0], H)) rfl ?_
    obtain ⟨g133, h⟩ := qv_guard h
    obtain ⟨v133, H133, e133, h⟩ := qv_bind2 h
    refine qv_callV [.int 2] rfl rfl rfl (Nat.le_of_ble_eq_true rfl) g133 (th_X11_error (by omega) e133) (tl_X11_error e133) ?_
    obtain ⟨rfl, rfl⟩ := qv_pair h
    exact qv_reti rfl hR
  · replace h := qv_neg c128 h
    refine qv_run 4 (σ := (142, [some (.ref l0), some (.int l1), some (.int l2), some (.int l3), some (.int l4), some (.int l5), z6, z7], [.int l5, .int l3, .int 1, .int l2], H)) rfl ?_
    refine qv_call [.int l3, .int l5] rfl rfl rfl (Nat.le_of_ble_eq_true rfl) (th_X11_between (by omega) rfl) rfl ?_
    refine qv_run 9 (σ := (47, [some (.ref l0), some (.int l1), some (.int (l2 &&& ((ji_shl 1 (fm_X11_between l3 l5)) ^^^ (-1)))), some (.int l5), some (.int (l4 + 1)), some (.int l5), z6, z7], [], H)) rfl ?_
    exact hk47 l0 l1 (l2 &&& ((ji_shl 1 (fm_X11_between l3 l5)) ^^^ (-1))) l5 (l4 + 1) (some (.int l5)) rfl z6 hz6 z7 hz7 H h
theorem tlb_X11_way_125 {r : Int32} {H' : qx_H} (k47 : Nat → Int32 → Int32 → Int32 → Int32 → qx_H → Option (Int32 × qx_H)) (hk47 : ∀ (l0 : Nat) (l1 : Int32) (l2 : Int32) (l3 : Int32) (l4 : Int32) (H : qx_H), k47 l0 l1 l2 l3 l4 H = some (r, H') → H'.length = H.length) (l0 : Nat) (l1 : Int32) (l2 : Int32) (l3 : Int32) (l4 : Int32) (l5 : Int32) (H : qx_H) (h : fm_X11_way_b125 k47 l0 l1 l2 l3 l4 l5 H = some (r, H')) : H'.length = H.length := by
  unfold fm_X11_way_b125 at h
  by_cases c128 : l5 = (-1)
  · replace h := qv_pos c128 h
    obtain ⟨g133, h⟩ := qv_guard h
    obtain ⟨v133, H133, e133, h⟩ := qv_bind2 h
    have q_H133 := tl_X11_error e133
    obtain ⟨rfl, rfl⟩ := qv_pair h
    omega
  · replace h := qv_neg c128 h
    exact hk47 l0 l1 (l2 &&& ((ji_shl 1 (fm_X11_between l3 l5)) ^^^ (-1))) l5 (l4 + 1) H h
theorem tb_X11_way_117 {st : xT} {d : Nat} {R : Option Value → qx_H → Prop} (hd : 6 ≤ d) {r : Int32} {H' : qx_H} (k47 : Nat → Int32 → Int32 → Int32 → Int32 → qx_H → Option (Int32 × qx_H)) (hk47 : ∀ (l0 : Nat) (l1 : Int32) (l2 : Int32) (l3 : Int32) (l4 : Int32) (z5 : Option Value) (hz5 : qx_ns z5 = true) (z6 : Option Value) (hz6 : qx_ns z6 = true) (z7 : Option Value) (hz7 : qx_ns z7 = true) (H : qx_H), k47 l0 l1 l2 l3 l4 H = some (r, H') → qx_V (xE st d) R (xc188 st) (47, [some (.ref l0), some (.int l1), some (.int l2), some (.int l3), some (.int l4), z5, z6, z7], [], H)) (k59 : Nat → Int32 → Int32 → Int32 → Int32 → Int32 → Int32 → qx_H → Option (Int32 × qx_H)) (hk59 : ∀ (l0 : Nat) (l1 : Int32) (l2 : Int32) (l3 : Int32) (l4 : Int32) (l5 : Int32) (l6 : Int32) (z7 : Option Value) (hz7 : qx_ns z7 = true) (H : qx_H), k59 l0 l1 l2 l3 l4 l5 l6 H = some (r, H') → qx_V (xE st d) R (xc188 st) (59, [some (.ref l0), some (.int l1), some (.int l2), some (.int l3), some (.int l4), some (.int l5), some (.int l6), z7], [], H)) (hR : R (some (.int r)) H') (l0 : Nat) (l1 : Int32) (l2 : Int32) (l3 : Int32) (l4 : Int32) (l6 : Int32) (t0 : Int32) (z5 : Option Value) (hz5 : qx_ns z5 = true) (z7 : Option Value) (hz7 : qx_ns z7 = true) (H : qx_H) (h : fm_X11_way_b117 k47 k59 l0 l1 l2 l3 l4 l6 t0 H = some (r, H')) : qx_V (xE st d) R (xc188 st) (117, [some (.ref l0), some (.int l1), some (.int l2), some (.int l3), some (.int l4), z5, some (.int l6), z7], [.int t0], H) := by
  unfold fm_X11_way_b117 at h
  refine qv_run 3 (σ := (59, [some (.ref l0), some (.int l1), some (.int l2), some (.int l3), some (.int l4), some (.int t0), some (.int (l6 + 1)), z7], [], H)) rfl ?_
  exact hk59 l0 l1 l2 l3 l4 t0 (l6 + 1) z7 hz7 H h
theorem tlb_X11_way_117 {r : Int32} {H' : qx_H} (k47 : Nat → Int32 → Int32 → Int32 → Int32 → qx_H → Option (Int32 × qx_H)) (hk47 : ∀ (l0 : Nat) (l1 : Int32) (l2 : Int32) (l3 : Int32) (l4 : Int32) (H : qx_H), k47 l0 l1 l2 l3 l4 H = some (r, H') → H'.length = H.length) (k59 : Nat → Int32 → Int32 → Int32 → Int32 → Int32 → Int32 → qx_H → Option (Int32 × qx_H)) (hk59 : ∀ (l0 : Nat) (l1 : Int32) (l2 : Int32) (l3 : Int32) (l4 : Int32) (l5 : Int32) (l6 : Int32) (H : qx_H), k59 l0 l1 l2 l3 l4 l5 l6 H = some (r, H') → H'.length = H.length) (l0 : Nat) (l1 : Int32) (l2 : Int32) (l3 : Int32) (l4 : Int32) (l6 : Int32) (t0 : Int32) (H : qx_H) (h : fm_X11_way_b117 k47 k59 l0 l1 l2 l3 l4 l6 t0 H = some (r, H')) : H'.length = H.length := by
  unfold fm_X11_way_b117 at h
  exact hk59 l0 l1 l2 l3 l4 t0 (l6 + 1) H h
theorem tb_X11_way_116 {st : xT} {d : Nat} {R : Option Value → qx_H → Prop} (hd : 6 ≤ d) {r : Int32} {H' : qx_H} (k47 : Nat → Int32 → Int32 → Int32 → Int32 → qx_H → Option (Int32 × qx_H)) (hk47 : ∀ (l0 : Nat) (l1 : Int32) (l2 : Int32) (l3 : Int32) (l4 : Int32) (z5 : Option Value) (hz5 : qx_ns z5 = true) (z6 : Option Value) (hz6 : qx_ns z6 = true) (z7 : Option Value) (hz7 : qx_ns z7 = true) (H : qx_H), k47 l0 l1 l2 l3 l4 H = some (r, H') → qx_V (xE st d) R (xc188 st) (47, [some (.ref l0), some (.int l1), some (.int l2), some (.int l3), some (.int l4), z5, z6, z7], [], H)) (k59 : Nat → Int32 → Int32 → Int32 → Int32 → Int32 → Int32 → qx_H → Option (Int32 × qx_H)) (hk59 : ∀ (l0 : Nat) (l1 : Int32) (l2 : Int32) (l3 : Int32) (l4 : Int32) (l5 : Int32) (l6 : Int32) (z7 : Option Value) (hz7 : qx_ns z7 = true) (H : qx_H), k59 l0 l1 l2 l3 l4 l5 l6 H = some (r, H') → qx_V (xE st d) R (xc188 st) (59, [some (.ref l0), some (.int l1), some (.int l2), some (.int l3), some (.int l4), some (.int l5), some (.int l6), z7], [], H)) (hR : R (some (.int r)) H') (l0 : Nat) (l1 : Int32) (l2 : Int32) (l3 : Int32) (l4 : Int32) (l6 : Int32) (z5 : Option Value) (hz5 : qx_ns z5 = true) (z7 : Option Value) (hz7 : qx_ns z7 = true) (H : qx_H) (h : fm_X11_way_b116 k47 k59 l0 l1 l2 l3 l4 l6 H = some (r, H')) : qx_V (xE st d) R (xc188 st) (116, [some (.ref l0), some (.int l1), some (.int l2), some (.int l3), some (.int l4), z5, some (.int l6), z7], [], H) := by
  unfold fm_X11_way_b116 at h
  refine qv_run 1 (σ := (117, [some (.ref l0), some (.int l1), some (.int l2), some (.int l3), some (.int l4), z5, some (.int l6), z7], [.int (-1)], H)) rfl ?_
  exact tb_X11_way_117 hd _ hk47 _ hk59 hR l0 l1 l2 l3 l4 l6 (-1) z5 hz5 z7 hz7 H h
theorem tlb_X11_way_116 {r : Int32} {H' : qx_H} (k47 : Nat → Int32 → Int32 → Int32 → Int32 → qx_H → Option (Int32 × qx_H)) (hk47 : ∀ (l0 : Nat) (l1 : Int32) (l2 : Int32) (l3 : Int32) (l4 : Int32) (H : qx_H), k47 l0 l1 l2 l3 l4 H = some (r, H') → H'.length = H.length) (k59 : Nat → Int32 → Int32 → Int32 → Int32 → Int32 → Int32 → qx_H → Option (Int32 × qx_H)) (hk59 : ∀ (l0 : Nat) (l1 : Int32) (l2 : Int32) (l3 : Int32) (l4 : Int32) (l5 : Int32) (l6 : Int32) (H : qx_H), k59 l0 l1 l2 l3 l4 l5 l6 H = some (r, H') → H'.length = H.length) (l0 : Nat) (l1 : Int32) (l2 : Int32) (l3 : Int32) (l4 : Int32) (l6 : Int32) (H : qx_H) (h : fm_X11_way_b116 k47 k59 l0 l1 l2 l3 l4 l6 H = some (r, H')) : H'.length = H.length := by
  unfold fm_X11_way_b116 at h
  exact tlb_X11_way_117 _ hk47 _ hk59 l0 l1 l2 l3 l4 l6 (-1) H h
theorem tb_X11_way_59 {st : xT} {d : Nat} {R : Option Value → qx_H → Prop} (hd : 6 ≤ d) {r : Int32} {H' : qx_H} (k47 : Nat → Int32 → Int32 → Int32 → Int32 → qx_H → Option (Int32 × qx_H)) (hk47 : ∀ (l0 : Nat) (l1 : Int32) (l2 : Int32) (l3 : Int32) (l4 : Int32) (z5 : Option Value) (hz5 : qx_ns z5 = true) (z6 : Option Value) (hz6 : qx_ns z6 = true) (z7 : Option Value) (hz7 : qx_ns z7 = true) (H : qx_H), k47 l0 l1 l2 l3 l4 H = some (r, H') → qx_V (xE st d) R (xc188 st) (47, [some (.ref l0), some (.int l1), some (.int l2), some (.int l3), some (.int l4), z5, z6, z7], [], H)) (hR : R (some (.int r)) H') : ∀ (n : Nat) (l0 : Nat) (l1 : Int32) (l2 : Int32) (l3 : Int32) (l4 : Int32) (l5 : Int32) (l6 : Int32) (z7 : Option Value) (hz7 : qx_ns z7 = true) (H : qx_H) (h : fm_X11_way_b59 k47 n l0 l1 l2 l3 l4 l5 l6 H = some (r, H')), qx_V (xE st d) R (xc188 st) (59, [some (.ref l0), some (.int l1), some (.int l2), some (.int l3), some (.int l4), some (.int l5), some (.int l6), z7], [], H) := by
  intro n
  induction n with
  | zero => intro l0 l1 l2 l3 l4 l5 l6 z7 hz7 H h; exact nomatch (show (none : Option (Int32 × qx_H)) = some (r, H') from h)
  | succ n ih =>
    intro l0 l1 l2 l3 l4 l5 l6 z7 hz7 H h
    unfold fm_X11_way_b59 at h
    refine qv_br (c := 20 ≤ l6) (a := (125, [some (.ref l0), some (.int l1), some (.int l2), some (.int l3), some (.int l4), some (.int l5), some (.int l6), z7], [], H)) (b := (66, [some (.ref l0), some (.int l1), some (.int l2), some (.int l3), some (.int l4), some (.int l5), some (.int l6), z7], [], H)) 3 rfl (fun c63 => ?_) (fun c63 => ?_)
    · replace h := qv_pos c63 h
      exact tb_X11_way_125 hd _ hk47 hR l0 l1 l2 l3 l4 l5 (some (.int l6)) rfl z7 hz7 H h
    · replace h := qv_neg c63 h
      refine qv_br (c := l5 = (-1)) (a := (72, [some (.ref l0), some (.int l1), some (.int l2), some (.int l3), some (.int l4), some (.int l5), some (.int l6), z7], [], H)) (b := (125, [some (.ref l0), some (.int l1), some (.int l2), some (.int l3), some (.int l4), some (.int l5), some (.int l6), z7], [], H)) 3 rfl (fun c69 => ?_) (fun c69 => ?_)
      · replace h := qv_pos c69 h
        refine qv_run 2 (σ := (75, [some (.ref l0), some (.int l1), some (.int l2), some (.int l3), some (.int l4), some (.int l5), some (.int l6), z7], [.int l6, .int l3], H)) rfl ?_
        refine qv_call [.int l3, .int l6] rfl rfl rfl (Nat.le_of_ble_eq_true rfl) (th_X11_between (by omega) rfl) rfl ?_
        refine qv_br (c := (fm_X11_between l3 l6) = (-1)) (a := (116, [some (.ref l0), some (.int l1), some (.int l2), some (.int l3), some (.int l4), some (.int l5), some (.int l6), some (.int (fm_X11_between l3 l6))], [], H)) (b := (86, [some (.ref l0), some (.int l1), some (.int l2), some (.int l3), some (.int l4), some (.int l5), some (.int l6), some (.int (fm_X11_between l3 l6))], [], H)) 4 rfl (fun c83 => ?_) (fun c83 => ?_)
        · replace h := qv_pos c83 h
          exact tb_X11_way_116 hd _ hk47 _ ih hR l0 l1 l2 l3 l4 l6 (some (.int l5)) rfl (some (.int (fm_X11_between l3 l6))) rfl H h
        · replace h := qv_neg c83 h
          refine qv_run 2 (σ := (89, [some (.ref l0), some (.int l1), some (.int l2), some (.int l3), some (.int l4), some (.int l5), some (.int l6), some (.int (fm_X11_between l3 l6))], [.int (fm_X11_between l3 l6), .int l2], H)) rfl ?_
          refine qv_call [.int l2, .int (fm_X11_between l3 l6)] rfl rfl rfl (Nat.le_of_ble_eq_true rfl) (th_X11_isIn (by omega) rfl) rfl ?_
          refine qv_br (c := (fm_X11_isIn l2 (fm_X11_between l3 l6)) = 0) (a := (116, [some (.ref l0), some (.int l1), some (.int l2), some (.int l3), some (.int l4), some (.int l5), some (.int l6), some (.int (fm_X11_between l3 l6))], [], H)) (b := (95, [some (.ref l0), some (.int l1), some (.int l2), some (.int l3), some (.int l4), some (.int l5), some (.int l6), some (.int (fm_X11_between l3 l6))], [], H)) 1 rfl (fun c92 => ?_) (fun c92 => ?_)
          · replace h := qv_pos c92 h
            exact tb_X11_way_116 hd _ hk47 _ ih hR l0 l1 l2 l3 l4 l6 (some (.int l5)) rfl (some (.int (fm_X11_between l3 l6))) rfl H h
          · replace h := qv_neg c92 h
            refine qv_run 8 (σ := (105, [some (.ref l0), some (.int l1), some (.int l2), some (.int l3), some (.int l4), some (.int l5), some (.int l6), some (.int (fm_X11_between l3 l6))], [.int l6, .int (l2 &&& ((ji_shl 1 (fm_X11_between l3 l6)) ^^^ (-1)))], H)) rfl ?_
            obtain ⟨v105, e105, h⟩ := qv_bind h
            refine qv_call [.int (l2 &&& ((ji_shl 1 (fm_X11_between l3 l6)) ^^^ (-1))), .int l6] rfl rfl rfl (Nat.le_of_ble_eq_true rfl) (th_X11_goesOn (by omega) e105) rfl ?_
            refine qv_dia (c := v105 = 0) (a := (116, [some (.ref l0), some (.int l1), some (.int l2), some (.int l3), some (.int l4), some (.int l5), some (.int l6), some (.int (fm_X11_between l3 l6))], [], H)) (b := (111, [some (.ref l0), some (.int l1), some (.int l2), some (.int l3), some (.int l4), some (.int l5), some (.int l6), some (.int (fm_X11_between l3 l6))], [], H)) (σ' := (117, [some (.ref l0), some (.int l1), some (.int l2), some (.int l3), some (.int l4), some (.int l5), some (.int l6), some (.int (fm_X11_between l3 l6))], [.int (if v105 = 0 then (-1) else l6)], H)) 1 rfl ?_ (fun c108 kk => qv_run 1 (σ := (117, [some (.ref l0), some (.int l1), some (.int l2), some (.int l3), some (.int l4), some (.int l5), some (.int l6), some (.int (fm_X11_between l3 l6))], [.int (-1)], H)) rfl (qv_eq (by simp only [if_pos c108]) kk)) (fun c108 kk => qv_run 2 (σ := (117, [some (.ref l0), some (.int l1), some (.int l2), some (.int l3), some (.int l4), some (.int l5), some (.int l6), some (.int (fm_X11_between l3 l6))], [.int l6], H)) rfl (qv_eq (by simp only [if_neg c108]) kk))
            refine qv_run 3 (σ := (59, [some (.ref l0), some (.int l1), some (.int l2), some (.int l3), some (.int l4), some (.int (if v105 = 0 then (-1) else l6)), some (.int (l6 + 1)), some (.int (fm_X11_between l3 l6))], [], H)) rfl ?_
            exact ih l0 l1 l2 l3 l4 (if v105 = 0 then (-1) else l6) (l6 + 1) (some (.int (fm_X11_between l3 l6))) rfl H h
      · replace h := qv_neg c69 h
        exact tb_X11_way_125 hd _ hk47 hR l0 l1 l2 l3 l4 l5 (some (.int l6)) rfl z7 hz7 H h
theorem tlb_X11_way_59 {r : Int32} {H' : qx_H} (k47 : Nat → Int32 → Int32 → Int32 → Int32 → qx_H → Option (Int32 × qx_H)) (hk47 : ∀ (l0 : Nat) (l1 : Int32) (l2 : Int32) (l3 : Int32) (l4 : Int32) (H : qx_H), k47 l0 l1 l2 l3 l4 H = some (r, H') → H'.length = H.length) : ∀ (n : Nat) (l0 : Nat) (l1 : Int32) (l2 : Int32) (l3 : Int32) (l4 : Int32) (l5 : Int32) (l6 : Int32) (H : qx_H) (h : fm_X11_way_b59 k47 n l0 l1 l2 l3 l4 l5 l6 H = some (r, H')), H'.length = H.length := by
  intro n
  induction n with
  | zero => intro l0 l1 l2 l3 l4 l5 l6 H h; exact nomatch (show (none : Option (Int32 × qx_H)) = some (r, H') from h)
  | succ n ih =>
    intro l0 l1 l2 l3 l4 l5 l6 H h
    unfold fm_X11_way_b59 at h
    by_cases c63 : 20 ≤ l6
    · replace h := qv_pos c63 h
      exact tlb_X11_way_125 _ hk47 l0 l1 l2 l3 l4 l5 H h
    · replace h := qv_neg c63 h
      by_cases c69 : l5 = (-1)
      · replace h := qv_pos c69 h
        by_cases c83 : (fm_X11_between l3 l6) = (-1)
        · replace h := qv_pos c83 h
          exact tlb_X11_way_116 _ hk47 _ ih l0 l1 l2 l3 l4 l6 H h
        · replace h := qv_neg c83 h
          by_cases c92 : (fm_X11_isIn l2 (fm_X11_between l3 l6)) = 0
          · replace h := qv_pos c92 h
            exact tlb_X11_way_116 _ hk47 _ ih l0 l1 l2 l3 l4 l6 H h
          · replace h := qv_neg c92 h
            obtain ⟨v105, e105, h⟩ := qv_bind h
            exact ih l0 l1 l2 l3 l4 (if v105 = 0 then (-1) else l6) (l6 + 1) H h
      · replace h := qv_neg c69 h
        exact tlb_X11_way_125 _ hk47 l0 l1 l2 l3 l4 l5 H h
theorem tb_X11_way_47 {st : xT} {d : Nat} {R : Option Value → qx_H → Prop} (hd : 6 ≤ d) {r : Int32} {H' : qx_H} (hR : R (some (.int r)) H') : ∀ (n : Nat) (l0 : Nat) (l1 : Int32) (l2 : Int32) (l3 : Int32) (l4 : Int32) (z5 : Option Value) (hz5 : qx_ns z5 = true) (z6 : Option Value) (hz6 : qx_ns z6 = true) (z7 : Option Value) (hz7 : qx_ns z7 = true) (H : qx_H) (h : fm_X11_way_b47 n l0 l1 l2 l3 l4 H = some (r, H')), qx_V (xE st d) R (xc188 st) (47, [some (.ref l0), some (.int l1), some (.int l2), some (.int l3), some (.int l4), z5, z6, z7], [], H) := by
  intro n
  induction n with
  | zero => intro l0 l1 l2 l3 l4 z5 hz5 z6 hz6 z7 hz7 H h; exact nomatch (show (none : Option (Int32 × qx_H)) = some (r, H') from h)
  | succ n ih =>
    intro l0 l1 l2 l3 l4 z5 hz5 z6 hz6 z7 hz7 H h
    unfold fm_X11_way_b47 at h
    refine qv_br (c := l1 ≤ l4) (a := (159, [some (.ref l0), some (.int l1), some (.int l2), some (.int l3), some (.int l4), z5, z6, z7], [], H)) (b := (53, [some (.ref l0), some (.int l1), some (.int l2), some (.int l3), some (.int l4), z5, z6, z7], [], H)) 3 rfl (fun c50 => ?_) (fun c50 => ?_)
    · replace h := qv_pos c50 h
      refine qv_run 1 (σ := (160, [some (.ref l0), some (.int l1), some (.int l2), some (.int l3), some (.int l4), z5, z6, z7], [.int l3], H)) rfl ?_
      obtain ⟨rfl, rfl⟩ := qv_pair h
      exact qv_reti rfl hR
    · replace h := qv_neg c50 h
      refine qv_run 4 (σ := (59, [some (.ref l0), some (.int l1), some (.int l2), some (.int l3), some (.int l4), some (.int (-1)), some (.int 0), z7], [], H)) rfl ?_
      exact tb_X11_way_59 hd _ ih hR 5000 l0 l1 l2 l3 l4 (-1) 0 z7 hz7 H h
theorem tlb_X11_way_47 {r : Int32} {H' : qx_H} : ∀ (n : Nat) (l0 : Nat) (l1 : Int32) (l2 : Int32) (l3 : Int32) (l4 : Int32) (H : qx_H) (h : fm_X11_way_b47 n l0 l1 l2 l3 l4 H = some (r, H')), H'.length = H.length := by
  intro n
  induction n with
  | zero => intro l0 l1 l2 l3 l4 H h; exact nomatch (show (none : Option (Int32 × qx_H)) = some (r, H') from h)
  | succ n ih =>
    intro l0 l1 l2 l3 l4 H h
    unfold fm_X11_way_b47 at h
    by_cases c50 : l1 ≤ l4
    · replace h := qv_pos c50 h
      obtain ⟨rfl, rfl⟩ := qv_pair h
      rfl
    · replace h := qv_neg c50 h
      exact tlb_X11_way_59 _ ih 5000 l0 l1 l2 l3 l4 (-1) 0 H h
theorem tb_X11_way_30 {st : xT} {d : Nat} {R : Option Value → qx_H → Prop} (hd : 6 ≤ d) {r : Int32} {H' : qx_H} (hR : R (some (.int r)) H') : ∀ (n : Nat) (l0 : Nat) (l1 : Int32) (l2 : Int32) (l3 : Int32) (H : qx_H) (h : fm_X11_way_b30 n l0 l1 l2 l3 H = some (r, H')), qx_V (xE st d) R (xc188 st) (30, [some (.ref l0), some (.int l1), some (.int l2), some (.int l3), none, none, none, none], [], H) := by
  intro n
  induction n with
  | zero => intro l0 l1 l2 l3 H h; exact nomatch (show (none : Option (Int32 × qx_H)) = some (r, H') from h)
  | succ n ih =>
    intro l0 l1 l2 l3 H h
    unfold fm_X11_way_b30 at h
    refine qv_run 2 (σ := (32, [some (.ref l0), some (.int l1), some (.int l2), some (.int l3), none, none, none, none], [.int l3, .int l2], H)) rfl ?_
    obtain ⟨v32, e32, h⟩ := qv_bind h
    refine qv_call [.int l2, .int l3] rfl rfl rfl (Nat.le_of_ble_eq_true rfl) (th_X11_goesOn (by omega) e32) rfl ?_
    refine qv_br (c := v32 = 0) (a := (38, [some (.ref l0), some (.int l1), some (.int l2), some (.int l3), none, none, none, none], [], H)) (b := (44, [some (.ref l0), some (.int l1), some (.int l2), some (.int l3), none, none, none, none], [], H)) 1 rfl (fun c35 => ?_) (fun c35 => ?_)
    · replace h := qv_pos c35 h
      refine qv_run 2 (σ := (30, [some (.ref l0), some (.int l1), some (.int l2), some (.int (l3 + 1)), none, none, none, none], [], H)) rfl ?_
      exact ih l0 l1 l2 (l3 + 1) H h
    · replace h := qv_neg c35 h
      refine qv_run 2 (σ := (47, [some (.ref l0), some (.int l1), some (.int l2), some (.int l3), some (.int 0), none, none, none], [], H)) rfl ?_
      exact tb_X11_way_47 hd hR 5000 l0 l1 l2 l3 0 none rfl none rfl none rfl H h
theorem tlb_X11_way_30 {r : Int32} {H' : qx_H} : ∀ (n : Nat) (l0 : Nat) (l1 : Int32) (l2 : Int32) (l3 : Int32) (H : qx_H) (h : fm_X11_way_b30 n l0 l1 l2 l3 H = some (r, H')), H'.length = H.length := by
  intro n
  induction n with
  | zero => intro l0 l1 l2 l3 H h; exact nomatch (show (none : Option (Int32 × qx_H)) = some (r, H') from h)
  | succ n ih =>
    intro l0 l1 l2 l3 H h
    unfold fm_X11_way_b30 at h
    obtain ⟨v32, e32, h⟩ := qv_bind h
    by_cases c35 : v32 = 0
    · replace h := qv_pos c35 h
      exact ih l0 l1 l2 (l3 + 1) H h
    · replace h := qv_neg c35 h
      exact tlb_X11_way_47 5000 l0 l1 l2 l3 0 H h
theorem tb_X11_way_0 {st : xT} {d : Nat} {R : Option Value → qx_H → Prop} (hd : 6 ≤ d) {r : Int32} {H' : qx_H} (hR : R (some (.int r)) H') (a0 : Nat) (a1 : Int32) (H : qx_H) (h : fm_X11_way a0 a1 H = some (r, H')) : qx_V (xE st d) R (xc188 st) (0, [some (.ref a0), some (.int a1), none, none, none, none, none, none], [], H) := by
  unfold fm_X11_way at h
  refine qv_br (c := 0 ≤ a1) (a := (10, [some (.ref a0), some (.int a1), none, none, none, none, none, none], [], H)) (b := (4, [some (.ref a0), some (.int a1), none, none, none, none, none, none], [], H)) 2 rfl (fun c1 => ?_) (fun c1 => ?_)
  · replace h := qv_pos c1 h
    refine qv_run 1 (σ := (11, [some (.ref a0), some (.int a1), none, none, none, none, none, none], [.ref a0], H)) rfl ?_
    obtain ⟨g11, h⟩ := qv_guard h
    obtain ⟨v11, e11, h⟩ := qv_bind h
    refine qv_callV [] rfl rfl rfl (Nat.le_of_ble_eq_true rfl) g11 (th_X11_gone (by omega) e11) rfl ?_
    refine qv_run 2 (σ := (16, [some (.ref a0), some (.int a1), some (.int v11), none, none, none, none, none], [.int v11], H)) rfl ?_
    obtain ⟨v16, e16, h⟩ := qv_bind h
    refine qv_call [.int v11] rfl rfl rfl (Nat.le_of_ble_eq_true rfl) (th_X11_isOneRun (by omega) e16) rfl ?_
    refine qv_br (c := v16 = 0) (a := (22, [some (.ref a0), some (.int a1), some (.int v11), none, none, none, none, none], [], H)) (b := (28, [some (.ref a0), some (.int a1), some (.int v11), none, none, none, none, none], [], H)) 1 rfl (fun c19 => ?_) (fun c19 => ?_)
    · replace h := qv_pos c19 h
      refine qv_run 2 (σ := (24, [some (.ref a0), some (.int a1), some (.int v11), none, none, none, none, none], [.int 3, .ref a0], H)) rfl ?_
      obtain ⟨v24, H24, e24, h⟩ := qv_bind2 h
      refine qv_callV [.int 3] rfl rfl rfl (Nat.le_of_ble_eq_true rfl) g11 (th_X11_error (by omega) e24) (tl_X11_error e24) ?_
      obtain ⟨rfl, rfl⟩ := qv_pair h
      exact qv_reti rfl hR
    · replace h := qv_neg c19 h
      refine qv_run 2 (σ := (30, [some (.ref a0), some (.int a1), some (.int v11), some (.int 0), none, none, none, none], [], H)) rfl ?_
      exact tb_X11_way_30 hd hR 5000 a0 a1 v11 0 H h
  · replace h := qv_neg c1 h
    refine qv_run 2 (σ := (6, [some (.ref a0), some (.int a1), none, none, none, none, none, none], [.int 1, .ref a0], H)) rfl ?_
    obtain ⟨g6, h⟩ := qv_guard h
    obtain ⟨v6, H6, e6, h⟩ := qv_bind2 h
    refine qv_callV [.int 1] rfl rfl rfl (Nat.le_of_ble_eq_true rfl) g6 (th_X11_error (by omega) e6) (tl_X11_error e6) ?_
    obtain ⟨rfl, rfl⟩ := qv_pair h
    exact qv_reti rfl hR
theorem tlb_X11_way_0 {r : Int32} {H' : qx_H} (a0 : Nat) (a1 : Int32) (H : qx_H) (h : fm_X11_way a0 a1 H = some (r, H')) : H'.length = H.length := by
  unfold fm_X11_way at h
  by_cases c1 : 0 ≤ a1
  · replace h := qv_pos c1 h
    obtain ⟨g11, h⟩ := qv_guard h
    obtain ⟨v11, e11, h⟩ := qv_bind h
    obtain ⟨v16, e16, h⟩ := qv_bind h
    by_cases c19 : v16 = 0
    · replace h := qv_pos c19 h
      obtain ⟨v24, H24, e24, h⟩ := qv_bind2 h
      have q_H24 := tl_X11_error e24
      obtain ⟨rfl, rfl⟩ := qv_pair h
      omega
    · replace h := qv_neg c19 h
      exact tlb_X11_way_30 5000 a0 a1 v11 0 H h
  · replace h := qv_neg c1 h
    obtain ⟨g6, h⟩ := qv_guard h
    obtain ⟨v6, H6, e6, h⟩ := qv_bind2 h
    have q_H6 := tl_X11_error e6
    obtain ⟨rfl, rfl⟩ := qv_pair h
    omega
theorem th_X11_way {st : xT} {d : Nat} (hd : 7 ≤ d) {a0 : Nat} {a1 : Int32} {H : qx_H} {r : Int32} {H' : qx_H} (h : fm_X11_way a0 a1 H = some (r, H')) : xE st d 188 [.ref a0, .int a1] H (some (.int r)) H' := by
  obtain ⟨d, rfl⟩ : ∃ d', d = d' + 1 := ⟨d - 1, by omega⟩
  exact xE_of (xe188 st) xl188 (Nat.le_of_ble_eq_true rfl) (ls := [some (.ref a0), some (.int a1), none, none, none, none, none, none]) rfl (tb_X11_way_0 (by omega) ⟨rfl, rfl⟩ a0 a1 H h)
theorem tl_X11_way {a0 : Nat} {a1 : Int32} {H : qx_H} {r : Int32} {H' : qx_H} (h : fm_X11_way a0 a1 H = some (r, H')) : H'.length = H.length := tlb_X11_way_0 a0 a1 H h
def fm_X11_findHoles_b30 (k7 : Nat → Int32 → Int32 → qx_H → Option (Int32 × qx_H)) : Nat → Nat → Int32 → Int32 → Int32 → Int32 → qx_H → Option (Int32 × qx_H)
  | 0, _, _, _, _, _, _ => none
  | n + 1, l0, l1, l2, l3, l4, H => if 31 ≤ l4 then (k7 l0 (l1 &&& (l3 ^^^ (-1))) (l2 + 1) H) else ((hp_gR H l0 9 13).bind fun v38 => (hp_ald H v38 l2).bind fun v43 => (hp_ast H v38 l2 (v43 + (if (fm_X11_isIn l3 l4) = 0 then 0 else 1))).bind fun H59 => fm_X11_findHoles_b30 k7 n l0 l1 l2 l3 (l4 + 1) H59)
def fm_X11_findHoles_b7 : Nat → Nat → Int32 → Int32 → qx_H → Option (Int32 × qx_H)
  | 0, _, _, _, _ => none
  | n + 1, l0, l1, l2, H => if l1 = 0 then (some (l2, H)) else ((fm_X11_least l1 H).bind fun v13 => (fm_X11_hangs l1 v13 H).bind fun v16 => (hp_gR H l0 9 13).bind fun v21 => (hp_ast H v21 l2 0).bind fun H26 => fm_X11_findHoles_b30 (fm_X11_findHoles_b7 n) 5000 l0 l1 l2 v16 0 H26)
def fm_X11_findHoles (a0 : Nat) (H : qx_H) : Option (Int32 × qx_H) := if hp_is H a0 9 = true then ((fm_X11_gone a0 H).bind fun v1 => fm_X11_findHoles_b7 5000 a0 v1 0 H) else none
theorem tb_X11_findHoles_30 {st : xT} {d : Nat} {R : Option Value → qx_H → Prop} (hd : 3 ≤ d) {r : Int32} {H' : qx_H} (k7 : Nat → Int32 → Int32 → qx_H → Option (Int32 × qx_H)) (hk7 : ∀ (l0 : Nat) (l1 : Int32) (l2 : Int32) (z3 : Option Value) (hz3 : qx_ns z3 = true) (z4 : Option Value) (hz4 : qx_ns z4 = true) (H : qx_H), k7 l0 l1 l2 H = some (r, H') → qx_V (xE st d) R (xc189 st) (7, [some (.ref l0), some (.int l1), some (.int l2), z3, z4], [], H)) (hR : R (some (.int r)) H') : ∀ (n : Nat) (l0 : Nat) (l1 : Int32) (l2 : Int32) (l3 : Int32) (l4 : Int32) (H : qx_H) (h : fm_X11_findHoles_b30 k7 n l0 l1 l2 l3 l4 H = some (r, H')), qx_V (xE st d) R (xc189 st) (30, [some (.ref l0), some (.int l1), some (.int l2), some (.int l3), some (.int l4)], [], H) := by
  intro n
  induction n with
  | zero => intro l0 l1 l2 l3 l4 H h; exact nomatch (show (none : Option (Int32 × qx_H)) = some (r, H') from h)
  | succ n ih =>
    intro l0 l1 l2 l3 l4 H h
    unfold fm_X11_findHoles_b30 at h
    refine qv_br (c := 31 ≤ l4) (a := (66, [some (.ref l0), some (.int l1), some (.int l2), some (.int l3), some (.int l4)], [], H)) (b := (37, [some (.ref l0), some (.int l1), some (.int l2), some (.int l3), some (.int l4)], [], H)) 3 rfl (fun c34 => ?_) (fun c34 => ?_)
    · replace h := qv_pos c34 h
      refine qv_run 8 (σ := (7, [some (.ref l0), some (.int (l1 &&& (l3 ^^^ (-1)))), some (.int (l2 + 1)), some (.int l3), some (.int l4)], [], H)) rfl ?_
      exact hk7 l0 (l1 &&& (l3 ^^^ (-1))) (l2 + 1) (some (.int l3)) rfl (some (.int l4)) rfl H h
    · replace h := qv_neg c34 h
      refine qv_run 1 (σ := (38, [some (.ref l0), some (.int l1), some (.int l2), some (.int l3), some (.int l4)], [.ref l0], H)) rfl ?_
      obtain ⟨v38, e38, h⟩ := qv_bind h
      refine qv_getR rfl e38 ?_
      refine qv_run 2 (σ := (43, [some (.ref l0), some (.int l1), some (.int l2), some (.int l3), some (.int l4)], [.int l2, .ref v38, .int l2, .ref v38], H)) rfl ?_
      obtain ⟨v43, e43, h⟩ := qv_bind h
      refine qv_ald rfl e43 ?_
      refine qv_run 2 (σ := (47, [some (.ref l0), some (.int l1), some (.int l2), some (.int l3), some (.int l4)], [.int l4, .int l3, .int v43, .int l2, .ref v38], H)) rfl ?_
      refine qv_call [.int l3, .int l4] rfl rfl rfl (Nat.le_of_ble_eq_true rfl) (th_X11_isIn (by omega) rfl) rfl ?_
      refine qv_dia (c := (fm_X11_isIn l3 l4) = 0) (a := (57, [some (.ref l0), some (.int l1), some (.int l2), some (.int l3), some (.int l4)], [.int v43, .int l2, .ref v38], H)) (b := (53, [some (.ref l0), some (.int l1), some (.int l2), some (.int l3), some (.int l4)], [.int v43, .int l2, .ref v38], H)) (σ' := (58, [some (.ref l0), some (.int l1), some (.int l2), some (.int l3), some (.int l4)], [.int (if (fm_X11_isIn l3 l4) = 0 then 0 else 1), .int v43, .int l2, .ref v38], H)) 1 rfl ?_ (fun c50 kk => qv_run 1 (σ := (58, [some (.ref l0), some (.int l1), some (.int l2), some (.int l3), some (.int l4)], [.int 0, .int v43, .int l2, .ref v38], H)) rfl (qv_eq (by simp only [if_pos c50]) kk)) (fun c50 kk => qv_run 2 (σ := (58, [some (.ref l0), some (.int l1), some (.int l2), some (.int l3), some (.int l4)], [.int 1, .int v43, .int l2, .ref v38], H)) rfl (qv_eq (by simp only [if_neg c50]) kk))
      refine qv_run 1 (σ := (59, [some (.ref l0), some (.int l1), some (.int l2), some (.int l3), some (.int l4)], [.int (v43 + (if (fm_X11_isIn l3 l4) = 0 then 0 else 1)), .int l2, .ref v38], H)) rfl ?_
      obtain ⟨H59, e59, h⟩ := qv_bind h
      refine qv_ast rfl e59 ?_
      refine qv_run 2 (σ := (30, [some (.ref l0), some (.int l1), some (.int l2), some (.int l3), some (.int (l4 + 1))], [], H59)) rfl ?_
      exact ih l0 l1 l2 l3 (l4 + 1) H59 h
theorem tlb_X11_findHoles_30 {r : Int32} {H' : qx_H} (k7 : Nat → Int32 → Int32 → qx_H → Option (Int32 × qx_H)) (hk7 : ∀ (l0 : Nat) (l1 : Int32) (l2 : Int32) (H : qx_H), k7 l0 l1 l2 H = some (r, H') → H'.length = H.length) : ∀ (n : Nat) (l0 : Nat) (l1 : Int32) (l2 : Int32) (l3 : Int32) (l4 : Int32) (H : qx_H) (h : fm_X11_findHoles_b30 k7 n l0 l1 l2 l3 l4 H = some (r, H')), H'.length = H.length := by
  intro n
  induction n with
  | zero => intro l0 l1 l2 l3 l4 H h; exact nomatch (show (none : Option (Int32 × qx_H)) = some (r, H') from h)
  | succ n ih =>
    intro l0 l1 l2 l3 l4 H h
    unfold fm_X11_findHoles_b30 at h
    by_cases c34 : 31 ≤ l4
    · replace h := qv_pos c34 h
      exact hk7 l0 (l1 &&& (l3 ^^^ (-1))) (l2 + 1) H h
    · replace h := qv_neg c34 h
      obtain ⟨v38, e38, h⟩ := qv_bind h
      obtain ⟨v43, e43, h⟩ := qv_bind h
      obtain ⟨H59, e59, h⟩ := qv_bind h
      have q_H59 := hp_ast_len e59
      have q_end := ih l0 l1 l2 l3 (l4 + 1) H59 h
      omega
theorem tb_X11_findHoles_7 {st : xT} {d : Nat} {R : Option Value → qx_H → Prop} (hd : 3 ≤ d) {r : Int32} {H' : qx_H} (hR : R (some (.int r)) H') : ∀ (n : Nat) (l0 : Nat) (l1 : Int32) (l2 : Int32) (z3 : Option Value) (hz3 : qx_ns z3 = true) (z4 : Option Value) (hz4 : qx_ns z4 = true) (H : qx_H) (h : fm_X11_findHoles_b7 n l0 l1 l2 H = some (r, H')), qx_V (xE st d) R (xc189 st) (7, [some (.ref l0), some (.int l1), some (.int l2), z3, z4], [], H) := by
  intro n
  induction n with
  | zero => intro l0 l1 l2 z3 hz3 z4 hz4 H h; exact nomatch (show (none : Option (Int32 × qx_H)) = some (r, H') from h)
  | succ n ih =>
    intro l0 l1 l2 z3 hz3 z4 hz4 H h
    unfold fm_X11_findHoles_b7 at h
    refine qv_br (c := l1 = 0) (a := (78, [some (.ref l0), some (.int l1), some (.int l2), z3, z4], [], H)) (b := (11, [some (.ref l0), some (.int l1), some (.int l2), z3, z4], [], H)) 2 rfl (fun c8 => ?_) (fun c8 => ?_)
    · replace h := qv_pos c8 h
      refine qv_run 1 (σ := (79, [some (.ref l0), some (.int l1), some (.int l2), z3, z4], [.int l2], H)) rfl ?_
      obtain ⟨rfl, rfl⟩ := qv_pair h
      exact qv_reti rfl hR
    · replace h := qv_neg c8 h
      refine qv_run 2 (σ := (13, [some (.ref l0), some (.int l1), some (.int l2), z3, z4], [.int l1, .int l1], H)) rfl ?_
      obtain ⟨v13, e13, h⟩ := qv_bind h
      refine qv_call [.int l1] rfl rfl rfl (Nat.le_of_ble_eq_true rfl) (th_X11_least (by omega) e13) rfl ?_
      obtain ⟨v16, e16, h⟩ := qv_bind h
      refine qv_call [.int l1, .int v13] rfl rfl rfl (Nat.le_of_ble_eq_true rfl) (th_X11_hangs (by omega) e16) rfl ?_
      refine qv_run 2 (σ := (21, [some (.ref l0), some (.int l1), some (.int l2), some (.int v16), z4], [.ref l0], H)) rfl ?_
      obtain ⟨v21, e21, h⟩ := qv_bind h
      refine qv_getR rfl e21 ?_
      refine qv_run 2 (σ := (26, [some (.ref l0), some (.int l1), some (.int l2), some (.int v16), z4], [.int 0, .int l2, .ref v21], H)) rfl ?_
      obtain ⟨H26, e26, h⟩ := qv_bind h
      refine qv_ast rfl e26 ?_
      refine qv_run 2 (σ := (30, [some (.ref l0), some (.int l1), some (.int l2), some (.int v16), some (.int 0)], [], H26)) rfl ?_
      exact tb_X11_findHoles_30 hd _ ih hR 5000 l0 l1 l2 v16 0 H26 h
theorem tlb_X11_findHoles_7 {r : Int32} {H' : qx_H} : ∀ (n : Nat) (l0 : Nat) (l1 : Int32) (l2 : Int32) (H : qx_H) (h : fm_X11_findHoles_b7 n l0 l1 l2 H = some (r, H')), H'.length = H.length := by
  intro n
  induction n with
  | zero => intro l0 l1 l2 H h; exact nomatch (show (none : Option (Int32 × qx_H)) = some (r, H') from h)
  | succ n ih =>
    intro l0 l1 l2 H h
    unfold fm_X11_findHoles_b7 at h
    by_cases c8 : l1 = 0
    · replace h := qv_pos c8 h
      obtain ⟨rfl, rfl⟩ := qv_pair h
      rfl
    · replace h := qv_neg c8 h
      obtain ⟨v13, e13, h⟩ := qv_bind h
      obtain ⟨v16, e16, h⟩ := qv_bind h
      obtain ⟨v21, e21, h⟩ := qv_bind h
      obtain ⟨H26, e26, h⟩ := qv_bind h
      have q_H26 := hp_ast_len e26
      have q_end := tlb_X11_findHoles_30 _ ih 5000 l0 l1 l2 v16 0 H26 h
      omega
theorem tb_X11_findHoles_0 {st : xT} {d : Nat} {R : Option Value → qx_H → Prop} (hd : 3 ≤ d) {r : Int32} {H' : qx_H} (hR : R (some (.int r)) H') (a0 : Nat) (H : qx_H) (h : fm_X11_findHoles a0 H = some (r, H')) : qx_V (xE st d) R (xc189 st) (0, [some (.ref a0), none, none, none, none], [], H) := by
  unfold fm_X11_findHoles at h
  refine qv_run 1 (σ := (1, [some (.ref a0), none, none, none, none], [.ref a0], H)) rfl ?_
  obtain ⟨g1, h⟩ := qv_guard h
  obtain ⟨v1, e1, h⟩ := qv_bind h
  refine qv_callV [] rfl rfl rfl (Nat.le_of_ble_eq_true rfl) g1 (th_X11_gone (by omega) e1) rfl ?_
  refine qv_run 3 (σ := (7, [some (.ref a0), some (.int v1), some (.int 0), none, none], [], H)) rfl ?_
  exact tb_X11_findHoles_7 hd hR 5000 a0 v1 0 none rfl none rfl H h
theorem tlb_X11_findHoles_0 {r : Int32} {H' : qx_H} (a0 : Nat) (H : qx_H) (h : fm_X11_findHoles a0 H = some (r, H')) : H'.length = H.length := by
  unfold fm_X11_findHoles at h
  obtain ⟨g1, h⟩ := qv_guard h
  obtain ⟨v1, e1, h⟩ := qv_bind h
  exact tlb_X11_findHoles_7 5000 a0 v1 0 H h
theorem th_X11_findHoles {st : xT} {d : Nat} (hd : 4 ≤ d) {a0 : Nat} {H : qx_H} {r : Int32} {H' : qx_H} (h : fm_X11_findHoles a0 H = some (r, H')) : xE st d 189 [.ref a0] H (some (.int r)) H' := by
  obtain ⟨d, rfl⟩ : ∃ d', d = d' + 1 := ⟨d - 1, by omega⟩
  exact xE_of (xe189 st) xl189 (Nat.le_of_ble_eq_true rfl) (ls := [some (.ref a0), none, none, none, none]) rfl (tb_X11_findHoles_0 (by omega) ⟨rfl, rfl⟩ a0 H h)
theorem tl_X11_findHoles {a0 : Nat} {H : qx_H} {r : Int32} {H' : qx_H} (h : fm_X11_findHoles a0 H = some (r, H')) : H'.length = H.length := tlb_X11_findHoles_0 a0 H h
def fm_X11_hole (a0 : Nat) (a1 : Int32) (H : qx_H) : Option (Int32 × qx_H) := if (-1) ≤ a1 then (if hp_is H a0 9 = true then (ob2 (fm_X11_findHoles a0 H) fun v12 H12 => if a1 = (-1) then (some (v12, H12)) else (if v12 ≤ a1 then (if hp_is H12 a0 9 = true then (ob2 (fm_X11_error a0 2 H12) fun v41 H41 => some (v41, H41)) else none) else ((hp_gR H12 a0 9 13).bind fun v31 => (hp_ald H12 v31 a1).bind fun v35 => some (v35, H12)))) else none) else (if hp_is H a0 9 = true then (ob2 (fm_X11_error a0 1 H) fun v7 H7 => some (v7, H7)) else none)
theorem tb_X11_hole_0 {st : xT} {d : Nat} {R : Option Value → qx_H → Prop} (hd : 4 ≤ d) {r : Int32} {H' : qx_H} (hR : R (some (.int r)) H') (a0 : Nat) (a1 : Int32) (H : qx_H) (h : fm_X11_hole a0 a1 H = some (r, H')) : qx_V (xE st d) R (xc190 st) (0, [some (.ref a0), some (.int a1), none], [], H) := by
  unfold fm_X11_hole at h
  refine qv_br (c := (-1) ≤ a1) (a := (11, [some (.ref a0), some (.int a1), none], [], H)) (b := (5, [some (.ref a0), some (.int a1), none], [], H)) 3 rfl (fun c2 => ?_) (fun c2 => ?_)
  · replace h := qv_pos c2 h
    refine qv_run 1 (σ := (12, [some (.ref a0), some (.int a1), none], [.ref a0], H)) rfl ?_
    obtain ⟨g12, h⟩ := qv_guard h
    obtain ⟨v12, H12, e12, h⟩ := qv_bind2 h
    refine qv_callV [] rfl rfl rfl (Nat.le_of_ble_eq_true rfl) g12 (th_X11_findHoles (by omega) e12) (tl_X11_findHoles e12) ?_
    refine qv_br (c := a1 = (-1)) (a := (21, [some (.ref a0), some (.int a1), some (.int v12)], [], H12)) (b := (25, [some (.ref a0), some (.int a1), some (.int v12)], [], H12)) 4 rfl (fun c18 => ?_) (fun c18 => ?_)
    · replace h := qv_pos c18 h
      refine qv_run 2 (σ := (44, [some (.ref a0), some (.int a1), some (.int v12)], [.int v12], H12)) rfl ?_
      obtain ⟨rfl, rfl⟩ := qv_pair h
      exact qv_reti rfl hR
    · replace h := qv_neg c18 h
      refine qv_br (c := v12 ≤ a1) (a := (39, [some (.ref a0), some (.int a1), some (.int v12)], [], H12)) (b := (30, [some (.ref a0), some (.int a1), some (.int v12)], [], H12)) 3 rfl (fun c27 => ?_) (fun c27 => ?_)
      · replace h := qv_pos c27 h
        refine qv_run 2 (σ := (41, [some (.ref a0), some (.int a1), some (.int v12)], [.int 2, .ref a0], H12)) rfl ?_
        obtain ⟨g41, h⟩ := qv_guard h
        obtain ⟨v41, H41, e41, h⟩ := qv_bind2 h
        refine qv_callV [.int 2] rfl rfl rfl (Nat.le_of_ble_eq_true rfl) g41 (th_X11_error (by omega) e41) (tl_X11_error e41) ?_
        obtain ⟨rfl, rfl⟩ := qv_pair h
        exact qv_reti rfl hR
      · replace h := qv_neg c27 h
        refine qv_run 1 (σ := (31, [some (.ref a0), some (.int a1), some (.int v12)], [.ref a0], H12)) rfl ?_
        obtain ⟨v31, e31, h⟩ := qv_bind h
        refine qv_getR rfl e31 ?_
        refine qv_run 1 (σ := (35, [some (.ref a0), some (.int a1), some (.int v12)], [.int a1, .ref v31], H12)) rfl ?_
        obtain ⟨v35, e35, h⟩ := qv_bind h
        refine qv_ald rfl e35 ?_
        refine qv_run 1 (σ := (44, [some (.ref a0), some (.int a1), some (.int v12)], [.int v35], H12)) rfl ?_
        obtain ⟨rfl, rfl⟩ := qv_pair h
        exact qv_reti rfl hR
  · replace h := qv_neg c2 h
    refine qv_run 2 (σ := (7, [some (.ref a0), some (.int a1), none], [.int 1, .ref a0], H)) rfl ?_
    obtain ⟨g7, h⟩ := qv_guard h
    obtain ⟨v7, H7, e7, h⟩ := qv_bind2 h
    refine qv_callV [.int 1] rfl rfl rfl (Nat.le_of_ble_eq_true rfl) g7 (th_X11_error (by omega) e7) (tl_X11_error e7) ?_
    obtain ⟨rfl, rfl⟩ := qv_pair h
    exact qv_reti rfl hR
theorem tlb_X11_hole_0 {r : Int32} {H' : qx_H} (a0 : Nat) (a1 : Int32) (H : qx_H) (h : fm_X11_hole a0 a1 H = some (r, H')) : H'.length = H.length := by
  unfold fm_X11_hole at h
  by_cases c2 : (-1) ≤ a1
  · replace h := qv_pos c2 h
    obtain ⟨g12, h⟩ := qv_guard h
    obtain ⟨v12, H12, e12, h⟩ := qv_bind2 h
    have q_H12 := tl_X11_findHoles e12
    by_cases c18 : a1 = (-1)
    · replace h := qv_pos c18 h
      obtain ⟨rfl, rfl⟩ := qv_pair h
      omega
    · replace h := qv_neg c18 h
      by_cases c27 : v12 ≤ a1
      · replace h := qv_pos c27 h
        obtain ⟨g41, h⟩ := qv_guard h
        obtain ⟨v41, H41, e41, h⟩ := qv_bind2 h
        have q_H41 := tl_X11_error e41
        obtain ⟨rfl, rfl⟩ := qv_pair h
        omega
      · replace h := qv_neg c27 h
        obtain ⟨v31, e31, h⟩ := qv_bind h
        obtain ⟨v35, e35, h⟩ := qv_bind h
        obtain ⟨rfl, rfl⟩ := qv_pair h
        omega
  · replace h := qv_neg c2 h
    obtain ⟨g7, h⟩ := qv_guard h
    obtain ⟨v7, H7, e7, h⟩ := qv_bind2 h
    have q_H7 := tl_X11_error e7
    obtain ⟨rfl, rfl⟩ := qv_pair h
    omega
theorem th_X11_hole {st : xT} {d : Nat} (hd : 5 ≤ d) {a0 : Nat} {a1 : Int32} {H : qx_H} {r : Int32} {H' : qx_H} (h : fm_X11_hole a0 a1 H = some (r, H')) : xE st d 190 [.ref a0, .int a1] H (some (.int r)) H' := by
  obtain ⟨d, rfl⟩ : ∃ d', d = d' + 1 := ⟨d - 1, by omega⟩
  exact xE_of (xe190 st) xl190 (Nat.le_of_ble_eq_true rfl) (ls := [some (.ref a0), some (.int a1), none]) rfl (tb_X11_hole_0 (by omega) ⟨rfl, rfl⟩ a0 a1 H h)
theorem tl_X11_hole {a0 : Nat} {a1 : Int32} {H : qx_H} {r : Int32} {H' : qx_H} (h : fm_X11_hole a0 a1 H = some (r, H')) : H'.length = H.length := tlb_X11_hole_0 a0 a1 H h
def fm_X11_meshes (a0 : Int32) : Int32 := if 16 ≤ a0 then (if (fm_X11_in (ji_rem (a0 - 16) 5) 1 3) = 0 then (0) else ((ji_shl 1 (((4 * ((a0 - 16) / 5)) + (ji_rem (a0 - 16) 5)) - 1)) ||| (ji_shl 1 ((4 * ((a0 - 16) / 5)) + (ji_rem (a0 - 16) 5))))) else (if (fm_X11_in (a0 / 4) 1 2) = 0 then (0) else ((ji_shl 1 (a0 - 4)) ||| (ji_shl 1 a0)))
theorem tb_X11_meshes_0 {st : xT} {d : Nat} {R : Option Value → qx_H → Prop} (hd : 1 ≤ d) {r : Int32} {H : qx_H} (hR : R (some (.int r)) H) (a0 : Int32) (h : fm_X11_meshes a0 = r) : qx_V (xE st d) R (xc191 st) (0, [some (.int a0), none, none], [], H) := by
  unfold fm_X11_meshes at h
  refine qv_br (c := 16 ≤ a0) (a := (33, [some (.int a0), none, none], [], H)) (b := (6, [some (.int a0), none, none], [], H)) 3 rfl (fun c3 => ?_) (fun c3 => ?_)
  · replace h := qv_pos c3 h
    refine qv_run 4 (σ := (38, [some (.int a0), none, none], [.int 5, .int (a0 - 16)], H)) rfl ?_
    refine qv_div rfl (by decide) ?_
    refine qv_run 5 (σ := (45, [some (.int a0), some (.int ((a0 - 16) / 5)), none], [.int 5, .int (a0 - 16)], H)) rfl ?_
    refine qv_div rfl (by decide) ?_
    refine qv_run 4 (σ := (50, [some (.int a0), some (.int ((a0 - 16) / 5)), some (.int (ji_rem (a0 - 16) 5))], [.int 3, .int 1, .int (ji_rem (a0 - 16) 5)], H)) rfl ?_
    refine qv_call [.int (ji_rem (a0 - 16) 5), .int 1, .int 3] rfl rfl rfl (Nat.le_of_ble_eq_true rfl) (th_X11_in (by omega) rfl) rfl ?_
    refine qv_br (c := (fm_X11_in (ji_rem (a0 - 16) 5) 1 3) = 0) (a := (76, [some (.int a0), some (.int ((a0 - 16) / 5)), some (.int (ji_rem (a0 - 16) 5))], [], H)) (b := (56, [some (.int a0), some (.int ((a0 - 16) / 5)), some (.int (ji_rem (a0 - 16) 5))], [], H)) 1 rfl (fun c53 => ?_) (fun c53 => ?_)
    · replace h := qv_pos c53 h
      refine qv_run 1 (σ := (77, [some (.int a0), some (.int ((a0 - 16) / 5)), some (.int (ji_rem (a0 - 16) 5))], [.int 0], H)) rfl ?_
      subst h
      exact qv_reti rfl hR
    · replace h := qv_neg c53 h
      refine qv_run 18 (σ := (77, [some (.int a0), some (.int ((a0 - 16) / 5)), some (.int (ji_rem (a0 - 16) 5))], [.int ((ji_shl 1 (((4 * ((a0 - 16) / 5)) + (ji_rem (a0 - 16) 5)) - 1)) ||| (ji_shl 1 ((4 * ((a0 - 16) / 5)) + (ji_rem (a0 - 16) 5))))], H)) rfl ?_
      subst h
      exact qv_reti rfl hR
  · replace h := qv_neg c3 h
    refine qv_run 2 (σ := (8, [some (.int a0), none, none], [.int 4, .int a0], H)) rfl ?_
    refine qv_div rfl (by decide) ?_
    refine qv_run 4 (σ := (13, [some (.int a0), some (.int (a0 / 4)), none], [.int 2, .int 1, .int (a0 / 4)], H)) rfl ?_
    refine qv_call [.int (a0 / 4), .int 1, .int 2] rfl rfl rfl (Nat.le_of_ble_eq_true rfl) (th_X11_in (by omega) rfl) rfl ?_
    refine qv_br (c := (fm_X11_in (a0 / 4) 1 2) = 0) (a := (31, [some (.int a0), some (.int (a0 / 4)), none], [], H)) (b := (19, [some (.int a0), some (.int (a0 / 4)), none], [], H)) 1 rfl (fun c16 => ?_) (fun c16 => ?_)
    · replace h := qv_pos c16 h
      refine qv_run 1 (σ := (32, [some (.int a0), some (.int (a0 / 4)), none], [.int 0], H)) rfl ?_
      subst h
      exact qv_reti rfl hR
    · replace h := qv_neg c16 h
      refine qv_run 10 (σ := (32, [some (.int a0), some (.int (a0 / 4)), none], [.int ((ji_shl 1 (a0 - 4)) ||| (ji_shl 1 a0))], H)) rfl ?_
      subst h
      exact qv_reti rfl hR
theorem th_X11_meshes {st : xT} {d : Nat} (hd : 2 ≤ d) {a0 : Int32} {r : Int32} {H : qx_H} (h : fm_X11_meshes a0 = r) : xE st d 191 [.int a0] H (some (.int r)) H := by
  obtain ⟨d, rfl⟩ : ∃ d', d = d' + 1 := ⟨d - 1, by omega⟩
  exact xE_of (xe191 st) xl191 (Nat.le_of_ble_eq_true rfl) (ls := [some (.int a0), none, none]) rfl (tb_X11_meshes_0 (by omega) ⟨rfl, rfl⟩ a0 h)
def fm_X11_bitsOf_b4 : Nat → Int32 → Int32 → Int32 → qx_H → Option Int32
  | 0, _, _, _, _ => none
  | n + 1, l0, l1, l2, H => if 31 ≤ l2 then (some l1) else (fm_X11_bitsOf_b4 n l0 (l1 + ((ji_ushr l0 l2) &&& 1)) (l2 + 1) H)
def fm_X11_bitsOf (a0 : Int32) (H : qx_H) : Option Int32 := fm_X11_bitsOf_b4 5000 a0 0 0 H
theorem tb_X11_bitsOf_4 {st : xT} {d : Nat} {R : Option Value → qx_H → Prop} (hd : 0 ≤ d) {r : Int32} {H : qx_H} (hR : R (some (.int r)) H) : ∀ (n : Nat) (l0 : Int32) (l1 : Int32) (l2 : Int32) (h : fm_X11_bitsOf_b4 n l0 l1 l2 H = some r), qx_V (xE st d) R (xc192 st) (4, [some (.int l0), some (.int l1), some (.int l2)], [], H) := by
  intro n
  induction n with
  | zero => intro l0 l1 l2 h; exact nomatch (show (none : Option Int32) = some r from h)
  | succ n ih =>
    intro l0 l1 l2 h
    unfold fm_X11_bitsOf_b4 at h
    refine qv_br (c := 31 ≤ l2) (a := (24, [some (.int l0), some (.int l1), some (.int l2)], [], H)) (b := (10, [some (.int l0), some (.int l1), some (.int l2)], [], H)) 3 rfl (fun c7 => ?_) (fun c7 => ?_)
    · replace h := qv_pos c7 h
      refine qv_run 1 (σ := (25, [some (.int l0), some (.int l1), some (.int l2)], [.int l1], H)) rfl ?_
      cases h
      exact qv_reti rfl hR
    · replace h := qv_neg c7 h
      refine qv_run 10 (σ := (4, [some (.int l0), some (.int (l1 + ((ji_ushr l0 l2) &&& 1))), some (.int (l2 + 1))], [], H)) rfl ?_
      exact ih l0 (l1 + ((ji_ushr l0 l2) &&& 1)) (l2 + 1) h
theorem tb_X11_bitsOf_0 {st : xT} {d : Nat} {R : Option Value → qx_H → Prop} (hd : 0 ≤ d) {r : Int32} {H : qx_H} (hR : R (some (.int r)) H) (a0 : Int32) (h : fm_X11_bitsOf a0 H = some r) : qx_V (xE st d) R (xc192 st) (0, [some (.int a0), none, none], [], H) := by
  unfold fm_X11_bitsOf at h
  refine qv_run 4 (σ := (4, [some (.int a0), some (.int 0), some (.int 0)], [], H)) rfl ?_
  exact tb_X11_bitsOf_4 hd hR 5000 a0 0 0 h
theorem th_X11_bitsOf {st : xT} {d : Nat} (hd : 1 ≤ d) {a0 : Int32} {r : Int32} {H : qx_H} (h : fm_X11_bitsOf a0 H = some r) : xE st d 192 [.int a0] H (some (.int r)) H := by
  obtain ⟨d, rfl⟩ : ∃ d', d = d' + 1 := ⟨d - 1, by omega⟩
  exact xE_of (xe192 st) xl192 (Nat.le_of_ble_eq_true rfl) (ls := [some (.int a0), none, none]) rfl (tb_X11_bitsOf_0 (by omega) ⟨rfl, rfl⟩ a0 h)
def fm_X11_open_b110 (k9 : Int32 → Int32 → Int32 → qx_H → Option Int32) (l1 : Int32) (l3 : Int32) (t0 : Int32) (H : qx_H) : Option Int32 := k9 l1 t0 (l3 + 1) H
def fm_X11_open_b62 (k9 : Int32 → Int32 → Int32 → qx_H → Option Int32) (k23 : Int32 → Int32 → Int32 → Int32 → Int32 → qx_H → Option Int32) (k37 : Int32 → Int32 → Int32 → Int32 → Int32 → Int32 → qx_H → Option Int32) (l1 : Int32) (l2 : Int32) (l3 : Int32) (l4 : Int32) (l5 : Int32) (l6 : Int32) (t0 : Int32) (H : qx_H) : Option Int32 := k37 l1 l2 l3 (l4 ||| (if (t0 &&& l4) = 0 then 0 else t0)) l5 (l6 + 1) H
def fm_X11_open_b37 (k9 : Int32 → Int32 → Int32 → qx_H → Option Int32) (k23 : Int32 → Int32 → Int32 → Int32 → Int32 → qx_H → Option Int32) : Nat → Int32 → Int32 → Int32 → Int32 → Int32 → Int32 → qx_H → Option Int32
  | 0, _, _, _, _, _, _, _ => none
  | n + 1, l1, l2, l3, l4, l5, l6, H => if 31 ≤ l6 then (k23 l1 l2 l3 l4 l5 H) else (if (fm_X11_isIn l1 l6) = 0 then (fm_X11_open_b62 k9 k23 (fm_X11_open_b37 k9 k23 n) l1 l2 l3 l4 l5 l6 0 H) else (fm_X11_open_b62 k9 k23 (fm_X11_open_b37 k9 k23 n) l1 l2 l3 l4 l5 l6 (fm_X11_meshes l6) H))
def fm_X11_open_b23 (k9 : Int32 → Int32 → Int32 → qx_H → Option Int32) : Nat → Int32 → Int32 → Int32 → Int32 → Int32 → qx_H → Option Int32
  | 0, _, _, _, _, _, _ => none
  | n + 1, l1, l2, l3, l4, l5, H => if l5 = l4 then ((fm_X11_bitsOf l4 H).bind fun v94 => if v94 ≤ l2 then (fm_X11_open_b110 k9 l1 l3 l2 H) else ((fm_X11_bitsOf l4 H).bind fun v103 => fm_X11_open_b110 k9 l1 l3 v103 H)) else (fm_X11_open_b37 k9 (fm_X11_open_b23 k9 n) 5000 l1 l2 l3 l4 l4 0 H)
def fm_X11_open_b9 : Nat → Int32 → Int32 → Int32 → qx_H → Option Int32
  | 0, _, _, _, _ => none
  | n + 1, l1, l2, l3, H => if 12 ≤ l3 then (some l2) else (fm_X11_open_b23 (fm_X11_open_b9 n) 5000 l1 l2 l3 (ji_shl 1 l3) 0 H)
def fm_X11_open (a0 : Nat) (H : qx_H) : Option Int32 := if hp_is H a0 9 = true then ((fm_X11_gone a0 H).bind fun v1 => fm_X11_open_b9 5000 v1 0 0 H) else none
theorem tb_X11_open_110 {st : xT} {d : Nat} {R : Option Value → qx_H → Prop} (hd : 3 ≤ d) {r : Int32} {H : qx_H} (k9 : Int32 → Int32 → Int32 → qx_H → Option Int32) (hk9 : ∀ (l1 : Int32) (l2 : Int32) (l3 : Int32) (z0 : Option Value) (hz0 : qx_ns z0 = true) (z4 : Option Value) (hz4 : qx_ns z4 = true) (z5 : Option Value) (hz5 : qx_ns z5 = true) (z6 : Option Value) (hz6 : qx_ns z6 = true) (z7 : Option Value) (hz7 : qx_ns z7 = true), k9 l1 l2 l3 H = some r → qx_V (xE st d) R (xc193 st) (9, [z0, some (.int l1), some (.int l2), some (.int l3), z4, z5, z6, z7], [], H)) (hR : R (some (.int r)) H) (l1 : Int32) (l3 : Int32) (t0 : Int32) (z0 : Option Value) (hz0 : qx_ns z0 = true) (z2 : Option Value) (hz2 : qx_ns z2 = true) (z4 : Option Value) (hz4 : qx_ns z4 = true) (z5 : Option Value) (hz5 : qx_ns z5 = true) (z6 : Option Value) (hz6 : qx_ns z6 = true) (z7 : Option Value) (hz7 : qx_ns z7 = true) (h : fm_X11_open_b110 k9 l1 l3 t0 H = some r) : qx_V (xE st d) R (xc193 st) (110, [z0, some (.int l1), z2, some (.int l3), z4, z5, z6, z7], [.int t0], H) := by
  unfold fm_X11_open_b110 at h
  refine qv_run 3 (σ := (9, [z0, some (.int l1), some (.int t0), some (.int (l3 + 1)), z4, z5, z6, z7], [], H)) rfl ?_
  exact hk9 l1 t0 (l3 + 1) z0 hz0 z4 hz4 z5 hz5 z6 hz6 z7 hz7 h
theorem tb_X11_open_62 {st : xT} {d : Nat} {R : Option Value → qx_H → Prop} (hd : 3 ≤ d) {r : Int32} {H : qx_H} (k9 : Int32 → Int32 → Int32 → qx_H → Option Int32) (hk9 : ∀ (l1 : Int32) (l2 : Int32) (l3 : Int32) (z0 : Option Value) (hz0 : qx_ns z0 = true) (z4 : Option Value) (hz4 : qx_ns z4 = true) (z5 : Option Value) (hz5 : qx_ns z5 = true) (z6 : Option Value) (hz6 : qx_ns z6 = true) (z7 : Option Value) (hz7 : qx_ns z7 = true), k9 l1 l2 l3 H = some r → qx_V (xE st d) R (xc193 st) (9, [z0, some (.int l1), some (.int l2), some (.int l3), z4, z5, z6, z7], [], H)) (k23 : Int32 → Int32 → Int32 → Int32 → Int32 → qx_H → Option Int32) (hk23 : ∀ (l1 : Int32) (l2 : Int32) (l3 : Int32) (l4 : Int32) (l5 : Int32) (z0 : Option Value) (hz0 : qx_ns z0 = true) (z6 : Option Value) (hz6 : qx_ns z6 = true) (z7 : Option Value) (hz7 : qx_ns z7 = true), k23 l1 l2 l3 l4 l5 H = some r → qx_V (xE st d) R (xc193 st) (23, [z0, some (.int l1), some (.int l2), some (.int l3), some (.int l4), some (.int l5), z6, z7], [], H)) (k37 : Int32 → Int32 → Int32 → Int32 → Int32 → Int32 → qx_H → Option Int32) (hk37 : ∀ (l1 : Int32) (l2 : Int32) (l3 : Int32) (l4 : Int32) (l5 : Int32) (l6 : Int32) (z0 : Option Value) (hz0 : qx_ns z0 = true) (z7 : Option Value) (hz7 : qx_ns z7 = true), k37 l1 l2 l3 l4 l5 l6 H = some r → qx_V (xE st d) R (xc193 st) (37, [z0, some (.int l1), some (.int l2), some (.int l3), some (.int l4), some (.int l5), some (.int l6), z7], [], H)) (hR : R (some (.int r)) H) (l1 : Int32) (l2 : Int32) (l3 : Int32) (l4 : Int32) (l5 : Int32) (l6 : Int32) (t0 : Int32) (z0 : Option Value) (hz0 : qx_ns z0 = true) (z7 : Option Value) (hz7 : qx_ns z7 = true) (h : fm_X11_open_b62 k9 k23 k37 l1 l2 l3 l4 l5 l6 t0 H = some r) : qx_V (xE st d) R (xc193 st) (62, [z0, some (.int l1), some (.int l2), some (.int l3), some (.int l4), some (.int l5), some (.int l6), z7], [.int t0], H) := by
  unfold fm_X11_open_b62 at h
  refine qv_dia (c := (t0 &&& l4) = 0) (a := (79, [z0, some (.int l1), some (.int l2), some (.int l3), some (.int l4), some (.int l5), some (.int l6), some (.int t0)], [.int l4], H)) (b := (74, [z0, some (.int l1), some (.int l2), some (.int l3), some (.int l4), some (.int l5), some (.int l6), some (.int t0)], [.int l4], H)) (σ' := (80, [z0, some (.int l1), some (.int l2), some (.int l3), some (.int l4), some (.int l5), some (.int l6), some (.int t0)], [.int (if (t0 &&& l4) = 0 then 0 else t0), .int l4], H)) 6 rfl ?_ (fun c71 kk => qv_run 1 (σ := (80, [z0, some (.int l1), some (.int l2), some (.int l3), some (.int l4), some (.int l5), some (.int l6), some (.int t0)], [.int 0, .int l4], H)) rfl (qv_eq (by simp only [if_pos c71]) kk)) (fun c71 kk => qv_run 2 (σ := (80, [z0, some (.int l1), some (.int l2), some (.int l3), some (.int l4), some (.int l5), some (.int l6), some (.int t0)], [.int t0, .int l4], H)) rfl (qv_eq (by simp only [if_neg c71]) kk))
  refine qv_run 4 (σ := (37, [z0, some (.int l1), some (.int l2), some (.int l3), some (.int (l4 ||| (if (t0 &&& l4) = 0 then 0 else t0))), some (.int l5), some (.int (l6 + 1)), some (.int t0)], [], H)) rfl ?_
  exact hk37 l1 l2 l3 (l4 ||| (if (t0 &&& l4) = 0 then 0 else t0)) l5 (l6 + 1) z0 hz0 (some (.int t0)) rfl h
theorem tb_X11_open_37 {st : xT} {d : Nat} {R : Option Value → qx_H → Prop} (hd : 3 ≤ d) {r : Int32} {H : qx_H} (k9 : Int32 → Int32 → Int32 → qx_H → Option Int32) (hk9 : ∀ (l1 : Int32) (l2 : Int32) (l3 : Int32) (z0 : Option Value) (hz0 : qx_ns z0 = true) (z4 : Option Value) (hz4 : qx_ns z4 = true) (z5 : Option Value) (hz5 : qx_ns z5 = true) (z6 : Option Value) (hz6 : qx_ns z6 = true) (z7 : Option Value) (hz7 : qx_ns z7 = true), k9 l1 l2 l3 H = some r → qx_V (xE st d) R (xc193 st) (9, [z0, some (.int l1), some (.int l2), some (.int l3), z4, z5, z6, z7], [], H)) (k23 : Int32 → Int32 → Int32 → Int32 → Int32 → qx_H → Option Int32) (hk23 : ∀ (l1 : Int32) (l2 : Int32) (l3 : Int32) (l4 : Int32) (l5 : Int32) (z0 : Option Value) (hz0 : qx_ns z0 = true) (z6 : Option Value) (hz6 : qx_ns z6 = true) (z7 : Option Value) (hz7 : qx_ns z7 = true), k23 l1 l2 l3 l4 l5 H = some r → qx_V (xE st d) R (xc193 st) (23, [z0, some (.int l1), some (.int l2), some (.int l3), some (.int l4), some (.int l5), z6, z7], [], H)) (hR : R (some (.int r)) H) : ∀ (n : Nat) (l1 : Int32) (l2 : Int32) (l3 : Int32) (l4 : Int32) (l5 : Int32) (l6 : Int32) (z0 : Option Value) (hz0 : qx_ns z0 = true) (z7 : Option Value) (hz7 : qx_ns z7 = true) (h : fm_X11_open_b37 k9 k23 n l1 l2 l3 l4 l5 l6 H = some r), qx_V (xE st d) R (xc193 st) (37, [z0, some (.int l1), some (.int l2), some (.int l3), some (.int l4), some (.int l5), some (.int l6), z7], [], H) := by
  intro n
  induction n with
  | zero => intro l1 l2 l3 l4 l5 l6 z0 hz0 z7 hz7 h; exact nomatch (show (none : Option Int32) = some r from h)
  | succ n ih =>
    intro l1 l2 l3 l4 l5 l6 z0 hz0 z7 hz7 h
    unfold fm_X11_open_b37 at h
    refine qv_br (c := 31 ≤ l6) (a := (89, [z0, some (.int l1), some (.int l2), some (.int l3), some (.int l4), some (.int l5), some (.int l6), z7], [], H)) (b := (44, [z0, some (.int l1), some (.int l2), some (.int l3), some (.int l4), some (.int l5), some (.int l6), z7], [], H)) 3 rfl (fun c41 => ?_) (fun c41 => ?_)
    · replace h := qv_pos c41 h
      refine qv_run 1 (σ := (23, [z0, some (.int l1), some (.int l2), some (.int l3), some (.int l4), some (.int l5), some (.int l6), z7], [], H)) rfl ?_
      exact hk23 l1 l2 l3 l4 l5 z0 hz0 (some (.int l6)) rfl z7 hz7 h
    · replace h := qv_neg c41 h
      refine qv_run 2 (σ := (47, [z0, some (.int l1), some (.int l2), some (.int l3), some (.int l4), some (.int l5), some (.int l6), z7], [.int l6, .int l1], H)) rfl ?_
      refine qv_call [.int l1, .int l6] rfl rfl rfl (Nat.le_of_ble_eq_true rfl) (th_X11_isIn (by omega) rfl) rfl ?_
      refine qv_br (c := (fm_X11_isIn l1 l6) = 0) (a := (61, [z0, some (.int l1), some (.int l2), some (.int l3), some (.int l4), some (.int l5), some (.int l6), z7], [], H)) (b := (53, [z0, some (.int l1), some (.int l2), some (.int l3), some (.int l4), some (.int l5), some (.int l6), z7], [], H)) 1 rfl (fun c50 => ?_) (fun c50 => ?_)
      · replace h := qv_pos c50 h
        refine qv_run 1 (σ := (62, [z0, some (.int l1), some (.int l2), some (.int l3), some (.int l4), some (.int l5), some (.int l6), z7], [.int 0], H)) rfl ?_
        exact tb_X11_open_62 hd _ hk9 _ hk23 _ ih hR l1 l2 l3 l4 l5 l6 0 z0 hz0 z7 hz7 h
      · replace h := qv_neg c50 h
        refine qv_run 1 (σ := (55, [z0, some (.int l1), some (.int l2), some (.int l3), some (.int l4), some (.int l5), some (.int l6), z7], [.int l6], H)) rfl ?_
        refine qv_call [.int l6] rfl rfl rfl (Nat.le_of_ble_eq_true rfl) (th_X11_meshes (by omega) rfl) rfl ?_
        refine qv_run 1 (σ := (62, [z0, some (.int l1), some (.int l2), some (.int l3), some (.int l4), some (.int l5), some (.int l6), z7], [.int (fm_X11_meshes l6)], H)) rfl ?_
        exact tb_X11_open_62 hd _ hk9 _ hk23 _ ih hR l1 l2 l3 l4 l5 l6 (fm_X11_meshes l6) z0 hz0 z7 hz7 h
theorem tb_X11_open_23 {st : xT} {d : Nat} {R : Option Value → qx_H → Prop} (hd : 3 ≤ d) {r : Int32} {H : qx_H} (k9 : Int32 → Int32 → Int32 → qx_H → Option Int32) (hk9 : ∀ (l1 : Int32) (l2 : Int32) (l3 : Int32) (z0 : Option Value) (hz0 : qx_ns z0 = true) (z4 : Option Value) (hz4 : qx_ns z4 = true) (z5 : Option Value) (hz5 : qx_ns z5 = true) (z6 : Option Value) (hz6 : qx_ns z6 = true) (z7 : Option Value) (hz7 : qx_ns z7 = true), k9 l1 l2 l3 H = some r → qx_V (xE st d) R (xc193 st) (9, [z0, some (.int l1), some (.int l2), some (.int l3), z4, z5, z6, z7], [], H)) (hR : R (some (.int r)) H) : ∀ (n : Nat) (l1 : Int32) (l2 : Int32) (l3 : Int32) (l4 : Int32) (l5 : Int32) (z0 : Option Value) (hz0 : qx_ns z0 = true) (z6 : Option Value) (hz6 : qx_ns z6 = true) (z7 : Option Value) (hz7 : qx_ns z7 = true) (h : fm_X11_open_b23 k9 n l1 l2 l3 l4 l5 H = some r), qx_V (xE st d) R (xc193 st) (23, [z0, some (.int l1), some (.int l2), some (.int l3), some (.int l4), some (.int l5), z6, z7], [], H) := by
  intro n
  induction n with
  | zero => intro l1 l2 l3 l4 l5 z0 hz0 z6 hz6 z7 hz7 h; exact nomatch (show (none : Option Int32) = some r from h)
  | succ n ih =>
    intro l1 l2 l3 l4 l5 z0 hz0 z6 hz6 z7 hz7 h
    unfold fm_X11_open_b23 at h
    refine qv_br (c := l5 = l4) (a := (92, [z0, some (.int l1), some (.int l2), some (.int l3), some (.int l4), some (.int l5), z6, z7], [], H)) (b := (30, [z0, some (.int l1), some (.int l2), some (.int l3), some (.int l4), some (.int l5), z6, z7], [], H)) 3 rfl (fun c27 => ?_) (fun c27 => ?_)
    · replace h := qv_pos c27 h
      refine qv_run 1 (σ := (94, [z0, some (.int l1), some (.int l2), some (.int l3), some (.int l4), some (.int l5), z6, z7], [.int l4], H)) rfl ?_
      obtain ⟨v94, e94, h⟩ := qv_bind h
      refine qv_call [.int l4] rfl rfl rfl (Nat.le_of_ble_eq_true rfl) (th_X11_bitsOf (by omega) e94) rfl ?_
      refine qv_br (c := v94 ≤ l2) (a := (109, [z0, some (.int l1), some (.int l2), some (.int l3), some (.int l4), some (.int l5), z6, z7], [], H)) (b := (101, [z0, some (.int l1), some (.int l2), some (.int l3), some (.int l4), some (.int l5), z6, z7], [], H)) 2 rfl (fun c98 => ?_) (fun c98 => ?_)
      · replace h := qv_pos c98 h
        refine qv_run 1 (σ := (110, [z0, some (.int l1), some (.int l2), some (.int l3), some (.int l4), some (.int l5), z6, z7], [.int l2], H)) rfl ?_
        exact tb_X11_open_110 hd _ hk9 hR l1 l3 l2 z0 hz0 (some (.int l2)) rfl (some (.int l4)) rfl (some (.int l5)) rfl z6 hz6 z7 hz7 h
      · replace h := qv_neg c98 h
        refine qv_run 1 (σ := (103, [z0, some (.int l1), some (.int l2), some (.int l3), some (.int l4), some (.int l5), z6, z7], [.int l4], H)) rfl ?_
        obtain ⟨v103, e103, h⟩ := qv_bind h
        refine qv_call [.int l4] rfl rfl rfl (Nat.le_of_ble_eq_true rfl) (th_X11_bitsOf (by omega) e103) rfl ?_
        refine qv_run 1 (σ := (110, [z0, some (.int l1), some (.int l2), some (.int l3), some (.int l4), some (.int l5), z6, z7], [.int v103], H)) rfl ?_
        exact tb_X11_open_110 hd _ hk9 hR l1 l3 v103 z0 hz0 (some (.int l2)) rfl (some (.int l4)) rfl (some (.int l5)) rfl z6 hz6 z7 hz7 h
    · replace h := qv_neg c27 h
      refine qv_run 4 (σ := (37, [z0, some (.int l1), some (.int l2), some (.int l3), some (.int l4), some (.int l4), some (.int 0), z7], [], H)) rfl ?_
      exact tb_X11_open_37 hd _ hk9 _ ih hR 5000 l1 l2 l3 l4 l4 0 z0 hz0 z7 hz7 h
theorem tb_X11_open_9 {st : xT} {d : Nat} {R : Option Value → qx_H → Prop} (hd : 3 ≤ d) {r : Int32} {H : qx_H} (hR : R (some (.int r)) H) : ∀ (n : Nat) (l1 : Int32) (l2 : Int32) (l3 : Int32) (z0 : Option Value) (hz0 : qx_ns z0 = true) (z4 : Option Value) (hz4 : qx_ns z4 = true) (z5 : Option Value) (hz5 : qx_ns z5 = true) (z6 : Option Value) (hz6 : qx_ns z6 = true) (z7 : Option Value) (hz7 : qx_ns z7 = true) (h : fm_X11_open_b9 n l1 l2 l3 H = some r), qx_V (xE st d) R (xc193 st) (9, [z0, some (.int l1), some (.int l2), some (.int l3), z4, z5, z6, z7], [], H) := by
  intro n
  induction n with
  | zero => intro l1 l2 l3 z0 hz0 z4 hz4 z5 hz5 z6 hz6 z7 hz7 h; exact nomatch (show (none : Option Int32) = some r from h)
  | succ n ih =>
    intro l1 l2 l3 z0 hz0 z4 hz4 z5 hz5 z6 hz6 z7 hz7 h
    unfold fm_X11_open_b9 at h
    refine qv_br (c := 12 ≤ l3) (a := (117, [z0, some (.int l1), some (.int l2), some (.int l3), z4, z5, z6, z7], [], H)) (b := (15, [z0, some (.int l1), some (.int l2), some (.int l3), z4, z5, z6, z7], [], H)) 3 rfl (fun c12 => ?_) (fun c12 => ?_)
    · replace h := qv_pos c12 h
      refine qv_run 1 (σ := (118, [z0, some (.int l1), some (.int l2), some (.int l3), z4, z5, z6, z7], [.int l2], H)) rfl ?_
      cases h
      exact qv_reti rfl hR
    · replace h := qv_neg c12 h
      refine qv_run 6 (σ := (23, [z0, some (.int l1), some (.int l2), some (.int l3), some (.int (ji_shl 1 l3)), some (.int 0), z6, z7], [], H)) rfl ?_
      exact tb_X11_open_23 hd _ ih hR 5000 l1 l2 l3 (ji_shl 1 l3) 0 z0 hz0 z6 hz6 z7 hz7 h
theorem tb_X11_open_0 {st : xT} {d : Nat} {R : Option Value → qx_H → Prop} (hd : 3 ≤ d) {r : Int32} {H : qx_H} (hR : R (some (.int r)) H) (a0 : Nat) (h : fm_X11_open a0 H = some r) : qx_V (xE st d) R (xc193 st) (0, [some (.ref a0), none, none, none, none, none, none, none], [], H) := by
  unfold fm_X11_open at h
  refine qv_run 1 (σ := (1, [some (.ref a0), none, none, none, none, none, none, none], [.ref a0], H)) rfl ?_
  obtain ⟨g1, h⟩ := qv_guard h
  obtain ⟨v1, e1, h⟩ := qv_bind h
  refine qv_callV [] rfl rfl rfl (Nat.le_of_ble_eq_true rfl) g1 (th_X11_gone (by omega) e1) rfl ?_
  refine qv_run 5 (σ := (9, [some (.ref a0), some (.int v1), some (.int 0), some (.int 0), none, none, none, none], [], H)) rfl ?_
  exact tb_X11_open_9 hd hR 5000 v1 0 0 (some (.ref a0)) rfl none rfl none rfl none rfl none rfl h
theorem th_X11_open {st : xT} {d : Nat} (hd : 4 ≤ d) {a0 : Nat} {r : Int32} {H : qx_H} (h : fm_X11_open a0 H = some r) : xE st d 193 [.ref a0] H (some (.int r)) H := by
  obtain ⟨d, rfl⟩ : ∃ d', d = d' + 1 := ⟨d - 1, by omega⟩
  exact xE_of (xe193 st) xl193 (Nat.le_of_ble_eq_true rfl) (ls := [some (.ref a0), none, none, none, none, none, none, none]) rfl (tb_X11_open_0 (by omega) ⟨rfl, rfl⟩ a0 h)
