def fm_X11_minutesBy_b104 (l0 : Nat) (t0 : Int32) (H : qx_H) : Option (Int32 × qx_H) := (hp_gR H l0 9 14).bind fun v107 => (hp_ald H v107 2).bind fun v111 => if v111 ≤ t0 then (some (t0, H)) else ((hp_gR H l0 9 14).bind fun v118 => (hp_ald H v118 2).bind fun v122 => some (v122, H))
def fm_X11_minutesBy_b30 : Nat → Nat → Int32 → Int32 → qx_H → Option (Int32 × qx_H)
  | 0, _, _, _, _ => none
  | n + 1, l0, l3, l4, H => if l4 < 0 then ((hp_gR H l0 9 14).bind fun v75 => (hp_ald H v75 0).bind fun v79 => (hp_gR H l0 9 14).bind fun v81 => (hp_ald H v81 1).bind fun v85 => if v79 ≤ v85 then ((hp_gR H l0 9 14).bind fun v99 => (hp_ald H v99 1).bind fun v103 => fm_X11_minutesBy_b104 l0 v103 H) else ((hp_gR H l0 9 14).bind fun v90 => (hp_ald H v90 0).bind fun v94 => fm_X11_minutesBy_b104 l0 v94 H)) else ((hp_gR H l0 9 14).bind fun v36 => (hp_ald H v36 (ji_rem l3 3)).bind fun v43 => (hp_gR H l0 9 13).bind fun v45 => (hp_ald H v45 l4).bind fun v50 => (hp_gR H l0 9 0).bind fun v52 => (hp_ald H v52 (5 + (ji_rem l3 3))).bind fun v60 => (hp_ast H v36 (ji_rem l3 3) (v43 + (v50 * v60))).bind fun H63 => fm_X11_minutesBy_b30 n l0 (l3 / 3) (l4 + (-1)) H63)
def fm_X11_minutesBy_b5 : Nat → Nat → Int32 → Int32 → Int32 → qx_H → Option (Int32 × qx_H)
  | 0, _, _, _, _, _ => none
  | n + 1, l0, l2, l3, l4, H => if 3 ≤ l4 then (fm_X11_minutesBy_b30 5000 l0 l3 (l2 - 1) H) else ((hp_gR H l0 9 14).bind fun v12 => (hp_ast H v12 l4 0).bind fun H18 => fm_X11_minutesBy_b5 n l0 l2 l3 (l4 + 1) H18)
def fm_X11_minutesBy (a0 : Nat) (a1 : Int32) (a2 : Int32) (H : qx_H) : Option (Int32 × qx_H) := fm_X11_minutesBy_b5 5000 a0 a2 a1 0 H
theorem tb_X11_minutesBy_104 {st : xT} {d : Nat} {R : Option Value → qx_H → Prop} (hd : 0 ≤ d) {r : Int32} {H' : qx_H} (hR : R (some (.int r)) H') (l0 : Nat) (t0 : Int32) (z1 : Option Value) (hz1 : qx_ns z1 = true) (z2 : Option Value) (hz2 : qx_ns z2 = true) (z3 : Option Value) (hz3 : qx_ns z3 = true) (z4 : Option Value) (hz4 : qx_ns z4 = true) (H : qx_H) (h : fm_X11_minutesBy_b104 l0 t0 H = some (r, H')) : qx_V (xE st d) R (xc194 st) (104, [some (.ref l0), z1, z2, z3, z4], [.int t0], H) := by
  unfold fm_X11_minutesBy_b104 at h
  refine qv_istN (ls' := [some (.ref l0), z1, z2, z3, some (.int t0)]) rfl rfl (qx_kl_ns rfl hz3) rfl ?_
  refine qv_run 1 (σ := (107, [some (.ref l0), z1, z2, z3, some (.int t0)], [.ref l0], H)) rfl ?_
  obtain ⟨v107, e107, h⟩ := qv_bind h
  refine qv_getR rfl e107 ?_
  refine qv_run 1 (σ := (111, [some (.ref l0), z1, z2, z3, some (.int t0)], [.int 2, .ref v107], H)) rfl ?_
  obtain ⟨v111, e111, h⟩ := qv_bind h
  refine qv_ald rfl e111 ?_
  refine qv_br (c := v111 ≤ t0) (a := (126, [some (.ref l0), z1, z2, z3, some (.int t0)], [], H)) (b := (117, [some (.ref l0), z1, z2, z3, some (.int t0)], [], H)) 2 rfl (fun c114 => ?_) (fun c114 => ?_)
  · replace h := qv_pos c114 h
    refine qv_run 1 (σ := (128, [some (.ref l0), z1, z2, z3, some (.int t0)], [.int t0], H)) rfl ?_
    obtain ⟨rfl, rfl⟩ := qv_pair h
    exact qv_reti rfl hR
  · replace h := qv_neg c114 h
    refine qv_run 1 (σ := (118, [some (.ref l0), z1, z2, z3, some (.int t0)], [.ref l0], H)) rfl ?_
    obtain ⟨v118, e118, h⟩ := qv_bind h
    refine qv_getR rfl e118 ?_
    refine qv_run 1 (σ := (122, [some (.ref l0), z1, z2, z3, some (.int t0)], [.int 2, .ref v118], H)) rfl ?_
    obtain ⟨v122, e122, h⟩ := qv_bind h
    refine qv_ald rfl e122 ?_
    refine qv_run 1 (σ := (128, [some (.ref l0), z1, z2, z3, some (.int t0)], [.int v122], H)) rfl ?_
    obtain ⟨rfl, rfl⟩ := qv_pair h
    exact qv_reti rfl hR
theorem tlb_X11_minutesBy_104 {r : Int32} {H' : qx_H} (l0 : Nat) (t0 : Int32) (H : qx_H) (h : fm_X11_minutesBy_b104 l0 t0 H = some (r, H')) : H'.length = H.length := by
  unfold fm_X11_minutesBy_b104 at h
  obtain ⟨v107, e107, h⟩ := qv_bind h
  obtain ⟨v111, e111, h⟩ := qv_bind h
  by_cases c114 : v111 ≤ t0
  · replace h := qv_pos c114 h
    obtain ⟨rfl, rfl⟩ := qv_pair h
    rfl
  · replace h := qv_neg c114 h
    obtain ⟨v118, e118, h⟩ := qv_bind h
    obtain ⟨v122, e122, h⟩ := qv_bind h
    obtain ⟨rfl, rfl⟩ := qv_pair h
    rfl
theorem tb_X11_minutesBy_30 {st : xT} {d : Nat} {R : Option Value → qx_H → Prop} (hd : 0 ≤ d) {r : Int32} {H' : qx_H} (hR : R (some (.int r)) H') : ∀ (n : Nat) (l0 : Nat) (l3 : Int32) (l4 : Int32) (z1 : Option Value) (hz1 : qx_ns z1 = true) (z2 : Option Value) (hz2 : qx_ns z2 = true) (H : qx_H) (h : fm_X11_minutesBy_b30 n l0 l3 l4 H = some (r, H')), qx_V (xE st d) R (xc194 st) (30, [some (.ref l0), z1, z2, some (.int l3), some (.int l4)], [], H) := by
  intro n
  induction n with
  | zero => intro l0 l3 l4 z1 hz1 z2 hz2 H h; exact nomatch (show (none : Option (Int32 × qx_H)) = some (r, H') from h)
  | succ n ih =>
    intro l0 l3 l4 z1 hz1 z2 hz2 H h
    unfold fm_X11_minutesBy_b30 at h
    refine qv_br (c := l4 < 0) (a := (74, [some (.ref l0), z1, z2, some (.int l3), some (.int l4)], [], H)) (b := (35, [some (.ref l0), z1, z2, some (.int l3), some (.int l4)], [], H)) 2 rfl (fun c32 => ?_) (fun c32 => ?_)
    · replace h := qv_pos c32 h
      refine qv_run 1 (σ := (75, [some (.ref l0), z1, z2, some (.int l3), some (.int l4)], [.ref l0], H)) rfl ?_
      obtain ⟨v75, e75, h⟩ := qv_bind h
      refine qv_getR rfl e75 ?_
      refine qv_run 1 (σ := (79, [some (.ref l0), z1, z2, some (.int l3), some (.int l4)], [.int 0, .ref v75], H)) rfl ?_
      obtain ⟨v79, e79, h⟩ := qv_bind h
      refine qv_ald rfl e79 ?_
      refine qv_run 1 (σ := (81, [some (.ref l0), z1, z2, some (.int l3), some (.int l4)], [.ref l0, .int v79], H)) rfl ?_
      obtain ⟨v81, e81, h⟩ := qv_bind h
      refine qv_getR rfl e81 ?_
      refine qv_run 1 (σ := (85, [some (.ref l0), z1, z2, some (.int l3), some (.int l4)], [.int 1, .ref v81, .int v79], H)) rfl ?_
      obtain ⟨v85, e85, h⟩ := qv_bind h
      refine qv_ald rfl e85 ?_
      refine qv_br (c := v79 ≤ v85) (a := (98, [some (.ref l0), z1, z2, some (.int l3), some (.int l4)], [], H)) (b := (89, [some (.ref l0), z1, z2, some (.int l3), some (.int l4)], [], H)) 1 rfl (fun c86 => ?_) (fun c86 => ?_)
      · replace h := qv_pos c86 h
        refine qv_run 1 (σ := (99, [some (.ref l0), z1, z2, some (.int l3), some (.int l4)], [.ref l0], H)) rfl ?_
        obtain ⟨v99, e99, h⟩ := qv_bind h
        refine qv_getR rfl e99 ?_
        refine qv_run 1 (σ := (103, [some (.ref l0), z1, z2, some (.int l3), some (.int l4)], [.int 1, .ref v99], H)) rfl ?_
        obtain ⟨v103, e103, h⟩ := qv_bind h
        refine qv_ald rfl e103 ?_
        exact tb_X11_minutesBy_104 hd hR l0 v103 z1 hz1 z2 hz2 (some (.int l3)) rfl (some (.int l4)) rfl H h
      · replace h := qv_neg c86 h
        refine qv_run 1 (σ := (90, [some (.ref l0), z1, z2, some (.int l3), some (.int l4)], [.ref l0], H)) rfl ?_
        obtain ⟨v90, e90, h⟩ := qv_bind h
        refine qv_getR rfl e90 ?_
        refine qv_run 1 (σ := (94, [some (.ref l0), z1, z2, some (.int l3), some (.int l4)], [.int 0, .ref v90], H)) rfl ?_
        obtain ⟨v94, e94, h⟩ := qv_bind h
        refine qv_ald rfl e94 ?_
        refine qv_run 1 (σ := (104, [some (.ref l0), z1, z2, some (.int l3), some (.int l4)], [.int v94], H)) rfl ?_
        exact tb_X11_minutesBy_104 hd hR l0 v94 z1 hz1 z2 hz2 (some (.int l3)) rfl (some (.int l4)) rfl H h
    · replace h := qv_neg c32 h
      refine qv_run 1 (σ := (36, [some (.ref l0), z1, z2, some (.int l3), some (.int l4)], [.ref l0], H)) rfl ?_
      obtain ⟨v36, e36, h⟩ := qv_bind h
      refine qv_getR rfl e36 ?_
      refine qv_run 2 (σ := (41, [some (.ref l0), z1, z2, some (.int l3), some (.int l4)], [.int 3, .int l3, .ref v36], H)) rfl ?_
      refine qv_div rfl (by decide) ?_
      refine qv_run 1 (σ := (43, [some (.ref l0), z1, z2, some (.int l3), some (.int l4)], [.int (ji_rem l3 3), .ref v36, .int (ji_rem l3 3), .ref v36], H)) rfl ?_
      obtain ⟨v43, e43, h⟩ := qv_bind h
      refine qv_ald rfl e43 ?_
      refine qv_run 1 (σ := (45, [some (.ref l0), z1, z2, some (.int l3), some (.int l4)], [.ref l0, .int v43, .int (ji_rem l3 3), .ref v36], H)) rfl ?_
      obtain ⟨v45, e45, h⟩ := qv_bind h
      refine qv_getR rfl e45 ?_
      refine qv_run 1 (σ := (50, [some (.ref l0), z1, z2, some (.int l3), some (.int l4)], [.int l4, .ref v45, .int v43, .int (ji_rem l3 3), .ref v36], H)) rfl ?_
      obtain ⟨v50, e50, h⟩ := qv_bind h
      refine qv_ald rfl e50 ?_
      refine qv_run 1 (σ := (52, [some (.ref l0), z1, z2, some (.int l3), some (.int l4)], [.ref l0, .int v50, .int v43, .int (ji_rem l3 3), .ref v36], H)) rfl ?_
      obtain ⟨v52, e52, h⟩ := qv_bind h
      refine qv_getR rfl e52 ?_
      refine qv_run 3 (σ := (58, [some (.ref l0), z1, z2, some (.int l3), some (.int l4)], [.int 3, .int l3, .int 5, .ref v52, .int v50, .int v43, .int (ji_rem l3 3), .ref v36], H)) rfl ?_
      refine qv_div rfl (by decide) ?_
      refine qv_run 1 (σ := (60, [some (.ref l0), z1, z2, some (.int l3), some (.int l4)], [.int (5 + (ji_rem l3 3)), .ref v52, .int v50, .int v43, .int (ji_rem l3 3), .ref v36], H)) rfl ?_
      obtain ⟨v60, e60, h⟩ := qv_bind h
      refine qv_ald rfl e60 ?_
      refine qv_run 2 (σ := (63, [some (.ref l0), z1, z2, some (.int l3), some (.int l4)], [.int (v43 + (v50 * v60)), .int (ji_rem l3 3), .ref v36], H)) rfl ?_
      obtain ⟨H63, e63, h⟩ := qv_bind h
      refine qv_ast rfl e63 ?_
      refine qv_run 2 (σ := (66, [some (.ref l0), z1, z2, some (.int l3), some (.int l4)], [.int 3, .int l3], H63)) rfl ?_
      refine qv_div rfl (by decide) ?_
      refine qv_istN (ls' := [some (.ref l0), z1, z2, some (.int (l3 / 3)), some (.int l4)]) rfl rfl (qx_kl_ns rfl hz2) rfl ?_
      refine qv_run 2 (σ := (30, [some (.ref l0), z1, z2, some (.int (l3 / 3)), some (.int (l4 + (-1)))], [], H63)) rfl ?_
      exact ih l0 (l3 / 3) (l4 + (-1)) z1 hz1 z2 hz2 H63 h
theorem tlb_X11_minutesBy_30 {r : Int32} {H' : qx_H} : ∀ (n : Nat) (l0 : Nat) (l3 : Int32) (l4 : Int32) (H : qx_H) (h : fm_X11_minutesBy_b30 n l0 l3 l4 H = some (r, H')), H'.length = H.length := by
  intro n
  induction n with
  | zero => intro l0 l3 l4 H h; exact nomatch (show (none : Option (Int32 × qx_H)) = some (r, H') from h)
  | succ n ih =>
    intro l0 l3 l4 H h
    unfold fm_X11_minutesBy_b30 at h
    by_cases c32 : l4 < 0
    · replace h := qv_pos c32 h
      obtain ⟨v75, e75, h⟩ := qv_bind h
      obtain ⟨v79, e79, h⟩ := qv_bind h
      obtain ⟨v81, e81, h⟩ := qv_bind h
      obtain ⟨v85, e85, h⟩ := qv_bind h
      by_cases c86 : v79 ≤ v85
      · replace h := qv_pos c86 h
        obtain ⟨v99, e99, h⟩ := qv_bind h
        obtain ⟨v103, e103, h⟩ := qv_bind h
        exact tlb_X11_minutesBy_104 l0 v103 H h
      · replace h := qv_neg c86 h
        obtain ⟨v90, e90, h⟩ := qv_bind h
        obtain ⟨v94, e94, h⟩ := qv_bind h
        exact tlb_X11_minutesBy_104 l0 v94 H h
    · replace h := qv_neg c32 h
      obtain ⟨v36, e36, h⟩ := qv_bind h
      obtain ⟨v43, e43, h⟩ := qv_bind h
      obtain ⟨v45, e45, h⟩ := qv_bind h
      obtain ⟨v50, e50, h⟩ := qv_bind h
      obtain ⟨v52, e52, h⟩ := qv_bind h
      obtain ⟨v60, e60, h⟩ := qv_bind h
      obtain ⟨H63, e63, h⟩ := qv_bind h
      have q_H63 := hp_ast_len e63
      have q_end := ih l0 (l3 / 3) (l4 + (-1)) H63 h
      omega
theorem tb_X11_minutesBy_5 {st : xT} {d : Nat} {R : Option Value → qx_H → Prop} (hd : 0 ≤ d) {r : Int32} {H' : qx_H} (hR : R (some (.int r)) H') : ∀ (n : Nat) (l0 : Nat) (l2 : Int32) (l3 : Int32) (l4 : Int32) (z1 : Option Value) (hz1 : qx_ns z1 = true) (H : qx_H) (h : fm_X11_minutesBy_b5 n l0 l2 l3 l4 H = some (r, H')), qx_V (xE st d) R (xc194 st) (5, [some (.ref l0), z1, some (.int l2), some (.int l3), some (.int l4)], [], H) := by
  intro n
  induction n with
  | zero => intro l0 l2 l3 l4 z1 hz1 H h; exact nomatch (show (none : Option (Int32 × qx_H)) = some (r, H') from h)
  | succ n ih =>
    intro l0 l2 l3 l4 z1 hz1 H h
    unfold fm_X11_minutesBy_b5 at h
    refine qv_br (c := 3 ≤ l4) (a := (25, [some (.ref l0), z1, some (.int l2), some (.int l3), some (.int l4)], [], H)) (b := (11, [some (.ref l0), z1, some (.int l2), some (.int l3), some (.int l4)], [], H)) 3 rfl (fun c8 => ?_) (fun c8 => ?_)
    · replace h := qv_pos c8 h
      refine qv_run 4 (σ := (30, [some (.ref l0), z1, some (.int l2), some (.int l3), some (.int (l2 - 1))], [], H)) rfl ?_
      exact tb_X11_minutesBy_30 hd hR 5000 l0 l3 (l2 - 1) z1 hz1 (some (.int l2)) rfl H h
    · replace h := qv_neg c8 h
      refine qv_run 1 (σ := (12, [some (.ref l0), z1, some (.int l2), some (.int l3), some (.int l4)], [.ref l0], H)) rfl ?_
      obtain ⟨v12, e12, h⟩ := qv_bind h
      refine qv_getR rfl e12 ?_
      refine qv_run 2 (σ := (18, [some (.ref l0), z1, some (.int l2), some (.int l3), some (.int l4)], [.int 0, .int l4, .ref v12], H)) rfl ?_
      obtain ⟨H18, e18, h⟩ := qv_bind h
      refine qv_ast rfl e18 ?_
      refine qv_run 2 (σ := (5, [some (.ref l0), z1, some (.int l2), some (.int l3), some (.int (l4 + 1))], [], H18)) rfl ?_
      exact ih l0 l2 l3 (l4 + 1) z1 hz1 H18 h
theorem tlb_X11_minutesBy_5 {r : Int32} {H' : qx_H} : ∀ (n : Nat) (l0 : Nat) (l2 : Int32) (l3 : Int32) (l4 : Int32) (H : qx_H) (h : fm_X11_minutesBy_b5 n l0 l2 l3 l4 H = some (r, H')), H'.length = H.length := by
  intro n
  induction n with
  | zero => intro l0 l2 l3 l4 H h; exact nomatch (show (none : Option (Int32 × qx_H)) = some (r, H') from h)
  | succ n ih =>
    intro l0 l2 l3 l4 H h
    unfold fm_X11_minutesBy_b5 at h
    by_cases c8 : 3 ≤ l4
    · replace h := qv_pos c8 h
      exact tlb_X11_minutesBy_30 5000 l0 l3 (l2 - 1) H h
    · replace h := qv_neg c8 h
      obtain ⟨v12, e12, h⟩ := qv_bind h
      obtain ⟨H18, e18, h⟩ := qv_bind h
      have q_H18 := hp_ast_len e18
      have q_end := ih l0 l2 l3 (l4 + 1) H18 h
      omega
theorem tb_X11_minutesBy_0 {st : xT} {d : Nat} {R : Option Value → qx_H → Prop} (hd : 0 ≤ d) {r : Int32} {H' : qx_H} (hR : R (some (.int r)) H') (a0 : Nat) (a1 : Int32) (a2 : Int32) (H : qx_H) (h : fm_X11_minutesBy a0 a1 a2 H = some (r, H')) : qx_V (xE st d) R (xc194 st) (0, [some (.ref a0), some (.int a1), some (.int a2), none, none], [], H) := by
  unfold fm_X11_minutesBy at h
  refine qv_run 4 (σ := (5, [some (.ref a0), some (.int a1), some (.int a2), some (.int a1), some (.int 0)], [], H)) rfl ?_
  exact tb_X11_minutesBy_5 hd hR 5000 a0 a2 a1 0 (some (.int a1)) rfl H h
theorem tlb_X11_minutesBy_0 {r : Int32} {H' : qx_H} (a0 : Nat) (a1 : Int32) (a2 : Int32) (H : qx_H) (h : fm_X11_minutesBy a0 a1 a2 H = some (r, H')) : H'.length = H.length := by
  unfold fm_X11_minutesBy at h
  exact tlb_X11_minutesBy_5 5000 a0 a2 a1 0 H h
theorem th_X11_minutesBy {st : xT} {d : Nat} (hd : 1 ≤ d) {a0 : Nat} {a1 : Int32} {a2 : Int32} {H : qx_H} {r : Int32} {H' : qx_H} (h : fm_X11_minutesBy a0 a1 a2 H = some (r, H')) : xE st d 194 [.ref a0, .int a1, .int a2] H (some (.int r)) H' := by
  obtain ⟨d, rfl⟩ : ∃ d', d = d' + 1 := ⟨d - 1, by omega⟩
  exact xE_of (xe194 st) xl194 (Nat.le_of_ble_eq_true rfl) (ls := [some (.ref a0), some (.int a1), some (.int a2), none, none]) rfl (tb_X11_minutesBy_0 (by omega) ⟨rfl, rfl⟩ a0 a1 a2 H h)
theorem tl_X11_minutesBy {a0 : Nat} {a1 : Int32} {a2 : Int32} {H : qx_H} {r : Int32} {H' : qx_H} (h : fm_X11_minutesBy a0 a1 a2 H = some (r, H')) : H'.length = H.length := tlb_X11_minutesBy_0 a0 a1 a2 H h
def fm_X11_threes_b4 : Nat → Int32 → Int32 → Int32 → qx_H → Option Int32
  | 0, _, _, _, _ => none
  | n + 1, l0, l1, l2, H => if l0 ≤ l2 then (some l1) else (fm_X11_threes_b4 n l0 (l1 * 3) (l2 + 1) H)
def fm_X11_threes (a0 : Int32) (H : qx_H) : Option Int32 := fm_X11_threes_b4 5000 a0 1 0 H
theorem tb_X11_threes_4 {st : xT} {d : Nat} {R : Option Value → qx_H → Prop} (hd : 0 ≤ d) {r : Int32} {H : qx_H} (hR : R (some (.int r)) H) : ∀ (n : Nat) (l0 : Int32) (l1 : Int32) (l2 : Int32) (h : fm_X11_threes_b4 n l0 l1 l2 H = some r), qx_V (xE st d) R (xc195 st) (4, [some (.int l0), some (.int l1), some (.int l2)], [], H) := by
  intro n
  induction n with
  | zero => intro l0 l1 l2 h; exact nomatch (show (none : Option Int32) = some r from h)
  | succ n ih =>
    intro l0 l1 l2 h
    unfold fm_X11_threes_b4 at h
    refine qv_br (c := l0 ≤ l2) (a := (19, [some (.int l0), some (.int l1), some (.int l2)], [], H)) (b := (9, [some (.int l0), some (.int l1), some (.int l2)], [], H)) 3 rfl (fun c6 => ?_) (fun c6 => ?_)
    · replace h := qv_pos c6 h
      refine qv_run 1 (σ := (20, [some (.int l0), some (.int l1), some (.int l2)], [.int l1], H)) rfl ?_
      cases h
      exact qv_reti rfl hR
    · replace h := qv_neg c6 h
      refine qv_run 6 (σ := (4, [some (.int l0), some (.int (l1 * 3)), some (.int (l2 + 1))], [], H)) rfl ?_
      exact ih l0 (l1 * 3) (l2 + 1) h
theorem tb_X11_threes_0 {st : xT} {d : Nat} {R : Option Value → qx_H → Prop} (hd : 0 ≤ d) {r : Int32} {H : qx_H} (hR : R (some (.int r)) H) (a0 : Int32) (h : fm_X11_threes a0 H = some r) : qx_V (xE st d) R (xc195 st) (0, [some (.int a0), none, none], [], H) := by
  unfold fm_X11_threes at h
  refine qv_run 4 (σ := (4, [some (.int a0), some (.int 1), some (.int 0)], [], H)) rfl ?_
  exact tb_X11_threes_4 hd hR 5000 a0 1 0 h
theorem th_X11_threes {st : xT} {d : Nat} (hd : 1 ≤ d) {a0 : Int32} {r : Int32} {H : qx_H} (h : fm_X11_threes a0 H = some r) : xE st d 195 [.int a0] H (some (.int r)) H := by
  obtain ⟨d, rfl⟩ : ∃ d', d = d' + 1 := ⟨d - 1, by omega⟩
  exact xE_of (xe195 st) xl195 (Nat.le_of_ble_eq_true rfl) (ls := [some (.int a0), none, none]) rfl (tb_X11_threes_0 (by omega) ⟨rfl, rfl⟩ a0 h)
def fm_X11_minutes_b44 : Nat → Nat → Int32 → Int32 → Int32 → Int32 → qx_H → Option (Int32 × qx_H)
  | 0, _, _, _, _, _, _ => none
  | n + 1, l0, l1, l2, l3, l4, H => (fm_X11_threes l2 H).bind fun v47 => if v47 ≤ l4 then (if l1 = (-1) then (if hp_is H l0 9 = true then (ob2 (fm_X11_minutesBy l0 l3 l2 H) fun v90 H90 => some (v90, H90)) else none) else ((fm_X11_threes ((l2 - 1) - l1) H).bind fun v102 => if ¬ v102 = 0 then (some (ji_rem (l3 / v102) 3, H)) else none)) else (if hp_is H l0 9 = true then (ob2 (fm_X11_minutesBy l0 l4 l2 H) fun v57 H57 => if hp_is H57 l0 9 = true then (ob2 (fm_X11_minutesBy l0 l3 l2 H57) fun v63 H63 => fm_X11_minutes_b44 n l0 l1 l2 (if v63 ≤ v57 then l3 else l4) (l4 + 1) H63) else none) else none)
def fm_X11_minutes (a0 : Nat) (a1 : Int32) (H : qx_H) : Option (Int32 × qx_H) := if (-1) ≤ a1 then (if hp_is H a0 9 = true then (ob2 (fm_X11_findHoles a0 H) fun v12 H12 => if a1 < v12 then (if v12 ≤ 6 then (fm_X11_minutes_b44 5000 a0 a1 v12 0 1 H12) else (if hp_is H12 a0 9 = true then (ob2 (fm_X11_error a0 4 H12) fun v35 H35 => some (v35, H35)) else none)) else (if hp_is H12 a0 9 = true then (ob2 (fm_X11_error a0 2 H12) fun v23 H23 => some (v23, H23)) else none)) else none) else (if hp_is H a0 9 = true then (ob2 (fm_X11_error a0 1 H) fun v7 H7 => some (v7, H7)) else none)
theorem tb_X11_minutes_44 {st : xT} {d : Nat} {R : Option Value → qx_H → Prop} (hd : 4 ≤ d) {r : Int32} {H' : qx_H} (hR : R (some (.int r)) H') : ∀ (n : Nat) (l0 : Nat) (l1 : Int32) (l2 : Int32) (l3 : Int32) (l4 : Int32) (H : qx_H) (h : fm_X11_minutes_b44 n l0 l1 l2 l3 l4 H = some (r, H')), qx_V (xE st d) R (xc196 st) (44, [some (.ref l0), some (.int l1), some (.int l2), some (.int l3), some (.int l4)], [], H) := by
  intro n
  induction n with
  | zero => intro l0 l1 l2 l3 l4 H h; exact nomatch (show (none : Option (Int32 × qx_H)) = some (r, H') from h)
  | succ n ih =>
    intro l0 l1 l2 l3 l4 H h
    unfold fm_X11_minutes_b44 at h
    refine qv_run 2 (σ := (47, [some (.ref l0), some (.int l1), some (.int l2), some (.int l3), some (.int l4)], [.int l2, .int l4], H)) rfl ?_
    obtain ⟨v47, e47, h⟩ := qv_bind h
    refine qv_call [.int l2] rfl rfl rfl (Nat.le_of_ble_eq_true rfl) (th_X11_threes (by omega) e47) rfl ?_
    refine qv_br (c := v47 ≤ l4) (a := (82, [some (.ref l0), some (.int l1), some (.int l2), some (.int l3), some (.int l4)], [], H)) (b := (53, [some (.ref l0), some (.int l1), some (.int l2), some (.int l3), some (.int l4)], [], H)) 1 rfl (fun c50 => ?_) (fun c50 => ?_)
    · replace h := qv_pos c50 h
      refine qv_br (c := l1 = (-1)) (a := (87, [some (.ref l0), some (.int l1), some (.int l2), some (.int l3), some (.int l4)], [], H)) (b := (96, [some (.ref l0), some (.int l1), some (.int l2), some (.int l3), some (.int l4)], [], H)) 3 rfl (fun c84 => ?_) (fun c84 => ?_)
      · replace h := qv_pos c84 h
        refine qv_run 3 (σ := (90, [some (.ref l0), some (.int l1), some (.int l2), some (.int l3), some (.int l4)], [.int l2, .int l3, .ref l0], H)) rfl ?_
        obtain ⟨g90, h⟩ := qv_guard h
        obtain ⟨v90, H90, e90, h⟩ := qv_bind2 h
        refine qv_callV [.int l3, .int l2] rfl rfl rfl (Nat.le_of_ble_eq_true rfl) g90 (th_X11_minutesBy (by omega) e90) (tl_X11_minutesBy e90) ?_
        refine qv_run 1 (σ := (108, [some (.ref l0), some (.int l1), some (.int l2), some (.int l3), some (.int l4)], [.int v90], H90)) rfl ?_
        obtain ⟨rfl, rfl⟩ := qv_pair h
        exact qv_reti rfl hR
      · replace h := qv_neg c84 h
        refine qv_run 6 (σ := (102, [some (.ref l0), some (.int l1), some (.int l2), some (.int l3), some (.int l4)], [.int ((l2 - 1) - l1), .int l3], H)) rfl ?_
        obtain ⟨v102, e102, h⟩ := qv_bind h
        refine qv_call [.int ((l2 - 1) - l1)] rfl rfl rfl (Nat.le_of_ble_eq_true rfl) (th_X11_threes (by omega) e102) rfl ?_
        obtain ⟨e105, h⟩ := qv_guard h
        refine qv_div rfl e105 ?_
        refine qv_run 1 (σ := (107, [some (.ref l0), some (.int l1), some (.int l2), some (.int l3), some (.int l4)], [.int 3, .int (l3 / v102)], H)) rfl ?_
        refine qv_div rfl (by decide) ?_
        obtain ⟨rfl, rfl⟩ := qv_pair h
        exact qv_reti rfl hR
    · replace h := qv_neg c50 h
      refine qv_run 3 (σ := (57, [some (.ref l0), some (.int l1), some (.int l2), some (.int l3), some (.int l4)], [.int l2, .int l4, .ref l0], H)) rfl ?_
      obtain ⟨g57, h⟩ := qv_guard h
      obtain ⟨v57, H57, e57, h⟩ := qv_bind2 h
      refine qv_callV [.int l4, .int l2] rfl rfl rfl (Nat.le_of_ble_eq_true rfl) g57 (th_X11_minutesBy (by omega) e57) (tl_X11_minutesBy e57) ?_
      refine qv_run 3 (σ := (63, [some (.ref l0), some (.int l1), some (.int l2), some (.int l3), some (.int l4)], [.int l2, .int l3, .ref l0, .int v57], H57)) rfl ?_
      obtain ⟨g63, h⟩ := qv_guard h
      obtain ⟨v63, H63, e63, h⟩ := qv_bind2 h
      refine qv_callV [.int l3, .int l2] rfl rfl rfl (Nat.le_of_ble_eq_true rfl) g63 (th_X11_minutesBy (by omega) e63) (tl_X11_minutesBy e63) ?_
      refine qv_dia (c := v63 ≤ v57) (a := (74, [some (.ref l0), some (.int l1), some (.int l2), some (.int l3), some (.int l4)], [], H63)) (b := (69, [some (.ref l0), some (.int l1), some (.int l2), some (.int l3), some (.int l4)], [], H63)) (σ' := (75, [some (.ref l0), some (.int l1), some (.int l2), some (.int l3), some (.int l4)], [.int (if v63 ≤ v57 then l3 else l4)], H63)) 1 rfl ?_ (fun c66 kk => qv_run 1 (σ := (75, [some (.ref l0), some (.int l1), some (.int l2), some (.int l3), some (.int l4)], [.int l3], H63)) rfl (qv_eq (by simp only [if_pos c66]) kk)) (fun c66 kk => qv_run 2 (σ := (75, [some (.ref l0), some (.int l1), some (.int l2), some (.int l3), some (.int l4)], [.int l4], H63)) rfl (qv_eq (by simp only [if_neg c66]) kk))
      refine qv_run 3 (σ := (44, [some (.ref l0), some (.int l1), some (.int l2), some (.int (if v63 ≤ v57 then l3 else l4)), some (.int (l4 + 1))], [], H63)) rfl ?_
      exact ih l0 l1 l2 (if v63 ≤ v57 then l3 else l4) (l4 + 1) H63 h
theorem tlb_X11_minutes_44 {r : Int32} {H' : qx_H} : ∀ (n : Nat) (l0 : Nat) (l1 : Int32) (l2 : Int32) (l3 : Int32) (l4 : Int32) (H : qx_H) (h : fm_X11_minutes_b44 n l0 l1 l2 l3 l4 H = some (r, H')), H'.length = H.length := by
  intro n
  induction n with
  | zero => intro l0 l1 l2 l3 l4 H h; exact nomatch (show (none : Option (Int32 × qx_H)) = some (r, H') from h)
  | succ n ih =>
    intro l0 l1 l2 l3 l4 H h
    unfold fm_X11_minutes_b44 at h
    obtain ⟨v47, e47, h⟩ := qv_bind h
    by_cases c50 : v47 ≤ l4
    · replace h := qv_pos c50 h
      by_cases c84 : l1 = (-1)
      · replace h := qv_pos c84 h
        obtain ⟨g90, h⟩ := qv_guard h
        obtain ⟨v90, H90, e90, h⟩ := qv_bind2 h
        have q_H90 := tl_X11_minutesBy e90
        obtain ⟨rfl, rfl⟩ := qv_pair h
        omega
      · replace h := qv_neg c84 h
        obtain ⟨v102, e102, h⟩ := qv_bind h
        obtain ⟨e105, h⟩ := qv_guard h
        obtain ⟨rfl, rfl⟩ := qv_pair h
        rfl
    · replace h := qv_neg c50 h
      obtain ⟨g57, h⟩ := qv_guard h
      obtain ⟨v57, H57, e57, h⟩ := qv_bind2 h
      have q_H57 := tl_X11_minutesBy e57
      obtain ⟨g63, h⟩ := qv_guard h
      obtain ⟨v63, H63, e63, h⟩ := qv_bind2 h
      have q_H63 := tl_X11_minutesBy e63
      have q_end := ih l0 l1 l2 (if v63 ≤ v57 then l3 else l4) (l4 + 1) H63 h
      omega
theorem tb_X11_minutes_0 {st : xT} {d : Nat} {R : Option Value → qx_H → Prop} (hd : 4 ≤ d) {r : Int32} {H' : qx_H} (hR : R (some (.int r)) H') (a0 : Nat) (a1 : Int32) (H : qx_H) (h : fm_X11_minutes a0 a1 H = some (r, H')) : qx_V (xE st d) R (xc196 st) (0, [some (.ref a0), some (.int a1), none, none, none], [], H) := by
  unfold fm_X11_minutes at h
  refine qv_br (c := (-1) ≤ a1) (a := (11, [some (.ref a0), some (.int a1), none, none, none], [], H)) (b := (5, [some (.ref a0), some (.int a1), none, none, none], [], H)) 3 rfl (fun c2 => ?_) (fun c2 => ?_)
  · replace h := qv_pos c2 h
    refine qv_run 1 (σ := (12, [some (.ref a0), some (.int a1), none, none, none], [.ref a0], H)) rfl ?_
    obtain ⟨g12, h⟩ := qv_guard h
    obtain ⟨v12, H12, e12, h⟩ := qv_bind2 h
    refine qv_callV [] rfl rfl rfl (Nat.le_of_ble_eq_true rfl) g12 (th_X11_findHoles (by omega) e12) (tl_X11_findHoles e12) ?_
    refine qv_br (c := a1 < v12) (a := (27, [some (.ref a0), some (.int a1), some (.int v12), none, none], [], H12)) (b := (21, [some (.ref a0), some (.int a1), some (.int v12), none, none], [], H12)) 4 rfl (fun c18 => ?_) (fun c18 => ?_)
    · replace h := qv_pos c18 h
      refine qv_br (c := v12 ≤ 6) (a := (39, [some (.ref a0), some (.int a1), some (.int v12), none, none], [], H12)) (b := (33, [some (.ref a0), some (.int a1), some (.int v12), none, none], [], H12)) 3 rfl (fun c30 => ?_) (fun c30 => ?_)
      · replace h := qv_pos c30 h
        refine qv_run 4 (σ := (44, [some (.ref a0), some (.int a1), some (.int v12), some (.int 0), some (.int 1)], [], H12)) rfl ?_
        exact tb_X11_minutes_44 hd hR 5000 a0 a1 v12 0 1 H12 h
      · replace h := qv_neg c30 h
        refine qv_run 2 (σ := (35, [some (.ref a0), some (.int a1), some (.int v12), none, none], [.int 4, .ref a0], H12)) rfl ?_
        obtain ⟨g35, h⟩ := qv_guard h
        obtain ⟨v35, H35, e35, h⟩ := qv_bind2 h
        refine qv_callV [.int 4] rfl rfl rfl (Nat.le_of_ble_eq_true rfl) g35 (th_X11_error (by omega) e35) (tl_X11_error e35) ?_
        obtain ⟨rfl, rfl⟩ := qv_pair h
        exact qv_reti rfl hR
    · replace h := qv_neg c18 h
      refine qv_run 2 (σ := (23, [some (.ref a0), some (.int a1), some (.int v12), none, none], [.int 2, .ref a0], H12)) rfl ?_
      obtain ⟨g23, h⟩ := qv_guard h
      obtain ⟨v23, H23, e23, h⟩ := qv_bind2 h
      refine qv_callV [.int 2] rfl rfl rfl (Nat.le_of_ble_eq_true rfl) g23 (th_X11_error (by omega) e23) (tl_X11_error e23) ?_
      obtain ⟨rfl, rfl⟩ := qv_pair h
      exact qv_reti rfl hR
  · replace h := qv_neg c2 h
    refine qv_run 2 (σ := (7, [some (.ref a0), some (.int a1), none, none, none], [.int 1, .ref a0], H)) rfl ?_
    obtain ⟨g7, h⟩ := qv_guard h
    obtain ⟨v7, H7, e7, h⟩ := qv_bind2 h
    refine qv_callV [.int 1] rfl rfl rfl (Nat.le_of_ble_eq_true rfl) g7 (th_X11_error (by omega) e7) (tl_X11_error e7) ?_
    obtain ⟨rfl, rfl⟩ := qv_pair h
    exact qv_reti rfl hR
theorem tlb_X11_minutes_0 {r : Int32} {H' : qx_H} (a0 : Nat) (a1 : Int32) (H : qx_H) (h : fm_X11_minutes a0 a1 H = some (r, H')) : H'.length = H.length := by
  unfold fm_X11_minutes at h
  by_cases c2 : (-1) ≤ a1
  · replace h := qv_pos c2 h
    obtain ⟨g12, h⟩ := qv_guard h
    obtain ⟨v12, H12, e12, h⟩ := qv_bind2 h
    have q_H12 := tl_X11_findHoles e12
    by_cases c18 : a1 < v12
    · replace h := qv_pos c18 h
      by_cases c30 : v12 ≤ 6
      · replace h := qv_pos c30 h
        have q_end := tlb_X11_minutes_44 5000 a0 a1 v12 0 1 H12 h
        omega
      · replace h := qv_neg c30 h
        obtain ⟨g35, h⟩ := qv_guard h
        obtain ⟨v35, H35, e35, h⟩ := qv_bind2 h
        have q_H35 := tl_X11_error e35
        obtain ⟨rfl, rfl⟩ := qv_pair h
        omega
    · replace h := qv_neg c18 h
      obtain ⟨g23, h⟩ := qv_guard h
      obtain ⟨v23, H23, e23, h⟩ := qv_bind2 h
      have q_H23 := tl_X11_error e23
      obtain ⟨rfl, rfl⟩ := qv_pair h
      omega
  · replace h := qv_neg c2 h
    obtain ⟨g7, h⟩ := qv_guard h
    obtain ⟨v7, H7, e7, h⟩ := qv_bind2 h
    have q_H7 := tl_X11_error e7
    obtain ⟨rfl, rfl⟩ := qv_pair h
    omega
theorem th_X11_minutes {st : xT} {d : Nat} (hd : 5 ≤ d) {a0 : Nat} {a1 : Int32} {H : qx_H} {r : Int32} {H' : qx_H} (h : fm_X11_minutes a0 a1 H = some (r, H')) : xE st d 196 [.ref a0, .int a1] H (some (.int r)) H' := by
  obtain ⟨d, rfl⟩ : ∃ d', d = d' + 1 := ⟨d - 1, by omega⟩
  exact xE_of (xe196 st) xl196 (Nat.le_of_ble_eq_true rfl) (ls := [some (.ref a0), some (.int a1), none, none, none]) rfl (tb_X11_minutes_0 (by omega) ⟨rfl, rfl⟩ a0 a1 H h)
theorem tl_X11_minutes {a0 : Nat} {a1 : Int32} {H : qx_H} {r : Int32} {H' : qx_H} (h : fm_X11_minutes a0 a1 H = some (r, H')) : H'.length = H.length := tlb_X11_minutes_0 a0 a1 H h
def fm_X11_wears_b57 (l2 : Int32) (H : qx_H) : Option (Int32 × qx_H) := some ((fm_X11_held l2 0 20), H)
def fm_X11_wears (a0 : Nat) (a1 : Int32) (H : qx_H) : Option (Int32 × qx_H) := if hp_is H a0 9 = true then ((fm_X11_hasText a0 1 H).bind fun v4 => if v4 = 0 then (fm_X11_wears_b57 1 H) else ((hp_gR H a0 9 10).bind fun v11 => (hp_ast H v11 116 a1).bind fun H17 => (hp_gR H17 a0 9 10).bind fun v19 => if hp_is H17 a0 9 = true then ((fm_X11_of a0 a1 1 H17).bind fun v27 => (hp_ast H17 v19 119 v27).bind fun H30 => (hp_gR H30 a0 9 10).bind fun v32 => (hp_gR H30 a0 9 0).bind fun v38 => (hp_ald H30 v38 0).bind fun v42 => if hp_is H30 a0 9 = true then ((fm_X11_of a0 a1 2 H30).bind fun v46 => (hp_ast H30 v32 97 (v42 - v46)).bind fun H50 => if hp_is H50 a0 9 = true then (ob2 (fm_X11_worked a0 1 H50) fun v53 H53 => fm_X11_wears_b57 v53 H53) else none) else none) else none)) else none
theorem tb_X11_wears_57 {st : xT} {d : Nat} {R : Option Value → qx_H → Prop} (hd : 2 ≤ d) {r : Int32} {H' : qx_H} (hR : R (some (.int r)) H') (l2 : Int32) (z0 : Option Value) (hz0 : qx_ns z0 = true) (z1 : Option Value) (hz1 : qx_ns z1 = true) (H : qx_H) (h : fm_X11_wears_b57 l2 H = some (r, H')) : qx_V (xE st d) R (xc197 st) (57, [z0, z1, some (.int l2)], [], H) := by
  unfold fm_X11_wears_b57 at h
  refine qv_run 3 (σ := (61, [z0, z1, some (.int l2)], [.int 20, .int 0, .int l2], H)) rfl ?_
  refine qv_call [.int l2, .int 0, .int 20] rfl rfl rfl (Nat.le_of_ble_eq_true rfl) (th_X11_held (by omega) rfl) rfl ?_
  obtain ⟨rfl, rfl⟩ := qv_pair h
  exact qv_reti rfl hR
theorem tlb_X11_wears_57 {r : Int32} {H' : qx_H} (l2 : Int32) (H : qx_H) (h : fm_X11_wears_b57 l2 H = some (r, H')) : H'.length = H.length := by
  unfold fm_X11_wears_b57 at h
  obtain ⟨rfl, rfl⟩ := qv_pair h
  rfl
theorem tb_X11_wears_0 {st : xT} {d : Nat} {R : Option Value → qx_H → Prop} (hd : 2 ≤ d) {r : Int32} {H' : qx_H} (hR : R (some (.int r)) H') (a0 : Nat) (a1 : Int32) (H : qx_H) (h : fm_X11_wears a0 a1 H = some (r, H')) : qx_V (xE st d) R (xc197 st) (0, [some (.ref a0), some (.int a1), none], [], H) := by
  unfold fm_X11_wears at h
  refine qv_run 4 (σ := (4, [some (.ref a0), some (.int a1), some (.int 1)], [.int 1, .ref a0], H)) rfl ?_
  obtain ⟨g4, h⟩ := qv_guard h
  obtain ⟨v4, e4, h⟩ := qv_bind h
  refine qv_callV [.int 1] rfl rfl rfl (Nat.le_of_ble_eq_true rfl) g4 (th_X11_hasText (by omega) e4) rfl ?_
  refine qv_br (c := v4 = 0) (a := (57, [some (.ref a0), some (.int a1), some (.int 1)], [], H)) (b := (10, [some (.ref a0), some (.int a1), some (.int 1)], [], H)) 1 rfl (fun c7 => ?_) (fun c7 => ?_)
  · replace h := qv_pos c7 h
    exact tb_X11_wears_57 hd hR 1 (some (.ref a0)) rfl (some (.int a1)) rfl H h
  · replace h := qv_neg c7 h
    refine qv_run 1 (σ := (11, [some (.ref a0), some (.int a1), some (.int 1)], [.ref a0], H)) rfl ?_
    obtain ⟨v11, e11, h⟩ := qv_bind h
    refine qv_getR rfl e11 ?_
    refine qv_run 2 (σ := (17, [some (.ref a0), some (.int a1), some (.int 1)], [.int a1, .int 116, .ref v11], H)) rfl ?_
    obtain ⟨H17, e17, h⟩ := qv_bind h
    refine qv_ast rfl e17 ?_
    refine qv_run 1 (σ := (19, [some (.ref a0), some (.int a1), some (.int 1)], [.ref a0], H17)) rfl ?_
    obtain ⟨v19, e19, h⟩ := qv_bind h
    refine qv_getR rfl e19 ?_
    refine qv_run 4 (σ := (27, [some (.ref a0), some (.int a1), some (.int 1)], [.int 1, .int a1, .ref a0, .int 119, .ref v19], H17)) rfl ?_
    obtain ⟨g27, h⟩ := qv_guard h
    obtain ⟨v27, e27, h⟩ := qv_bind h
    refine qv_callV [.int a1, .int 1] rfl rfl rfl (Nat.le_of_ble_eq_true rfl) g27 (th_X11_of (by omega) e27) rfl ?_
    obtain ⟨H30, e30, h⟩ := qv_bind h
    refine qv_ast rfl e30 ?_
    refine qv_run 1 (σ := (32, [some (.ref a0), some (.int a1), some (.int 1)], [.ref a0], H30)) rfl ?_
    obtain ⟨v32, e32, h⟩ := qv_bind h
    refine qv_getR rfl e32 ?_
    refine qv_run 2 (σ := (38, [some (.ref a0), some (.int a1), some (.int 1)], [.ref a0, .int 97, .ref v32], H30)) rfl ?_
    obtain ⟨v38, e38, h⟩ := qv_bind h
    refine qv_getR rfl e38 ?_
    refine qv_run 1 (σ := (42, [some (.ref a0), some (.int a1), some (.int 1)], [.int 0, .ref v38, .int 97, .ref v32], H30)) rfl ?_
    obtain ⟨v42, e42, h⟩ := qv_bind h
    refine qv_ald rfl e42 ?_
    refine qv_run 3 (σ := (46, [some (.ref a0), some (.int a1), some (.int 1)], [.int 2, .int a1, .ref a0, .int v42, .int 97, .ref v32], H30)) rfl ?_
    obtain ⟨g46, h⟩ := qv_guard h
    obtain ⟨v46, e46, h⟩ := qv_bind h
    refine qv_callV [.int a1, .int 2] rfl rfl rfl (Nat.le_of_ble_eq_true rfl) g46 (th_X11_of (by omega) e46) rfl ?_
    refine qv_run 1 (σ := (50, [some (.ref a0), some (.int a1), some (.int 1)], [.int (v42 - v46), .int 97, .ref v32], H30)) rfl ?_
    obtain ⟨H50, e50, h⟩ := qv_bind h
    refine qv_ast rfl e50 ?_
    refine qv_run 2 (σ := (53, [some (.ref a0), some (.int a1), some (.int 1)], [.int 1, .ref a0], H50)) rfl ?_
    obtain ⟨g53, h⟩ := qv_guard h
    obtain ⟨v53, H53, e53, h⟩ := qv_bind2 h
    refine qv_callV [.int 1] rfl rfl rfl (Nat.le_of_ble_eq_true rfl) g53 (th_X11_worked (by omega) e53) (tl_X11_worked e53) ?_
    refine qv_run 1 (σ := (57, [some (.ref a0), some (.int a1), some (.int v53)], [], H53)) rfl ?_
    exact tb_X11_wears_57 hd hR v53 (some (.ref a0)) rfl (some (.int a1)) rfl H53 h
theorem tlb_X11_wears_0 {r : Int32} {H' : qx_H} (a0 : Nat) (a1 : Int32) (H : qx_H) (h : fm_X11_wears a0 a1 H = some (r, H')) : H'.length = H.length := by
  unfold fm_X11_wears at h
  obtain ⟨g4, h⟩ := qv_guard h
  obtain ⟨v4, e4, h⟩ := qv_bind h
  by_cases c7 : v4 = 0
  · replace h := qv_pos c7 h
    exact tlb_X11_wears_57 1 H h
  · replace h := qv_neg c7 h
    obtain ⟨v11, e11, h⟩ := qv_bind h
    obtain ⟨H17, e17, h⟩ := qv_bind h
    have q_H17 := hp_ast_len e17
    obtain ⟨v19, e19, h⟩ := qv_bind h
    obtain ⟨g27, h⟩ := qv_guard h
    obtain ⟨v27, e27, h⟩ := qv_bind h
    obtain ⟨H30, e30, h⟩ := qv_bind h
    have q_H30 := hp_ast_len e30
    obtain ⟨v32, e32, h⟩ := qv_bind h
    obtain ⟨v38, e38, h⟩ := qv_bind h
    obtain ⟨v42, e42, h⟩ := qv_bind h
    obtain ⟨g46, h⟩ := qv_guard h
    obtain ⟨v46, e46, h⟩ := qv_bind h
    obtain ⟨H50, e50, h⟩ := qv_bind h
    have q_H50 := hp_ast_len e50
    obtain ⟨g53, h⟩ := qv_guard h
    obtain ⟨v53, H53, e53, h⟩ := qv_bind2 h
    have q_H53 := tl_X11_worked e53
    have q_end := tlb_X11_wears_57 v53 H53 h
    omega
theorem th_X11_wears {st : xT} {d : Nat} (hd : 3 ≤ d) {a0 : Nat} {a1 : Int32} {H : qx_H} {r : Int32} {H' : qx_H} (h : fm_X11_wears a0 a1 H = some (r, H')) : xE st d 197 [.ref a0, .int a1] H (some (.int r)) H' := by
  obtain ⟨d, rfl⟩ : ∃ d', d = d' + 1 := ⟨d - 1, by omega⟩
  exact xE_of (xe197 st) xl197 (Nat.le_of_ble_eq_true rfl) (ls := [some (.ref a0), some (.int a1), none]) rfl (tb_X11_wears_0 (by omega) ⟨rfl, rfl⟩ a0 a1 H h)
theorem tl_X11_wears {a0 : Nat} {a1 : Int32} {H : qx_H} {r : Int32} {H' : qx_H} (h : fm_X11_wears a0 a1 H = some (r, H')) : H'.length = H.length := tlb_X11_wears_0 a0 a1 H h
def fm_X11_day_b82 (k55 : Nat → Int32 → qx_H → Option qx_H) (l0 : Nat) (l1 : Int32) (H : qx_H) : Option qx_H := k55 l0 (l1 + 1) H
def fm_X11_day_b55 : Nat → Nat → Int32 → qx_H → Option qx_H
  | 0, _, _, _ => none
  | n + 1, l0, l1, H => if 31 ≤ l1 then ((hp_gR H l0 9 0).bind fun v89 => (hp_ald H v89 0).bind fun v94 => (hp_ast H v89 0 (v94 + 1)).bind fun H97 => some H97) else (if hp_is H l0 9 = true then ((fm_X11_isMissing l0 l1 H).bind fun v63 => if v63 = 0 then (ob2 (fm_X11_strength l0 l1 H) fun v71 H71 => if 0 < v71 then (fm_X11_day_b82 (fm_X11_day_b55 n) l0 l1 H71) else (if hp_is H71 l0 9 = true then ((fm_X11_loses l0 l1 H71).bind fun H79 => fm_X11_day_b82 (fm_X11_day_b55 n) l0 l1 H79) else none)) else (fm_X11_day_b82 (fm_X11_day_b55 n) l0 l1 H)) else none)
def fm_X11_day_b47 (k2 : Nat → Int32 → qx_H → Option qx_H) (l0 : Nat) (l1 : Int32) (H : qx_H) : Option qx_H := k2 l0 (l1 + 1) H
def fm_X11_day_b2 : Nat → Nat → Int32 → qx_H → Option qx_H
  | 0, _, _, _ => none
  | n + 1, l0, l1, H => if 31 ≤ l1 then (fm_X11_day_b55 5000 l0 0 H) else (if hp_is H l0 9 = true then ((fm_X11_isMissing l0 l1 H).bind fun v10 => if v10 = 0 then ((hp_gR H l0 9 0).bind fun v17 => (fm_X11_of l0 l1 1 H).bind fun v31 => ob2 (fm_X11_wears l0 l1 H) fun v36 H36 => (hp_ast H36 v17 ((88 + (3 * l1)) + 1) (fm_X11_held (v31 + v36) 0 99)).bind fun H46 => fm_X11_day_b47 (fm_X11_day_b2 n) l0 l1 H46) else (fm_X11_day_b47 (fm_X11_day_b2 n) l0 l1 H)) else none)
def fm_X11_day (a0 : Nat) (H : qx_H) : Option qx_H := fm_X11_day_b2 5000 a0 0 H
theorem tb_X11_day_82 {st : xT} {d : Nat} {R : Option Value → qx_H → Prop} (hd : 5 ≤ d) {H' : qx_H} (k55 : Nat → Int32 → qx_H → Option qx_H) (hk55 : ∀ (l0 : Nat) (l1 : Int32) (H : qx_H), k55 l0 l1 H = some H' → qx_V (xE st d) R (xc198 st) (55, [some (.ref l0), some (.int l1)], [], H)) (hR : R (none) H') (l0 : Nat) (l1 : Int32) (H : qx_H) (h : fm_X11_day_b82 k55 l0 l1 H = some H') : qx_V (xE st d) R (xc198 st) (82, [some (.ref l0), some (.int l1)], [], H) := by
  unfold fm_X11_day_b82 at h
  refine qv_run 2 (σ := (55, [some (.ref l0), some (.int (l1 + 1))], [], H)) rfl ?_
  exact hk55 l0 (l1 + 1) H h
theorem tlb_X11_day_82 {H' : qx_H} (k55 : Nat → Int32 → qx_H → Option qx_H) (hk55 : ∀ (l0 : Nat) (l1 : Int32) (H : qx_H), k55 l0 l1 H = some H' → H'.length = H.length) (l0 : Nat) (l1 : Int32) (H : qx_H) (h : fm_X11_day_b82 k55 l0 l1 H = some H') : H'.length = H.length := by
  unfold fm_X11_day_b82 at h
  exact hk55 l0 (l1 + 1) H h
theorem tb_X11_day_55 {st : xT} {d : Nat} {R : Option Value → qx_H → Prop} (hd : 5 ≤ d) {H' : qx_H} (hR : R (none) H') : ∀ (n : Nat) (l0 : Nat) (l1 : Int32) (H : qx_H) (h : fm_X11_day_b55 n l0 l1 H = some H'), qx_V (xE st d) R (xc198 st) (55, [some (.ref l0), some (.int l1)], [], H) := by
  intro n
  induction n with
  | zero => intro l0 l1 H h; exact nomatch (show (none : Option qx_H) = some H' from h)
  | succ n ih =>
    intro l0 l1 H h
    unfold fm_X11_day_b55 at h
    refine qv_br (c := 31 ≤ l1) (a := (88, [some (.ref l0), some (.int l1)], [], H)) (b := (61, [some (.ref l0), some (.int l1)], [], H)) 3 rfl (fun c58 => ?_) (fun c58 => ?_)
    · replace h := qv_pos c58 h
      refine qv_run 1 (σ := (89, [some (.ref l0), some (.int l1)], [.ref l0], H)) rfl ?_
      obtain ⟨v89, e89, h⟩ := qv_bind h
      refine qv_getR rfl e89 ?_
      refine qv_run 2 (σ := (94, [some (.ref l0), some (.int l1)], [.int 0, .ref v89, .int 0, .ref v89], H)) rfl ?_
      obtain ⟨v94, e94, h⟩ := qv_bind h
      refine qv_ald rfl e94 ?_
      refine qv_run 2 (σ := (97, [some (.ref l0), some (.int l1)], [.int (v94 + 1), .int 0, .ref v89], H)) rfl ?_
      obtain ⟨H97, e97, h⟩ := qv_bind h
      refine qv_ast rfl e97 ?_
      cases h
      exact qv_ret0 rfl hR
    · replace h := qv_neg c58 h
      refine qv_run 2 (σ := (63, [some (.ref l0), some (.int l1)], [.int l1, .ref l0], H)) rfl ?_
      obtain ⟨g63, h⟩ := qv_guard h
      obtain ⟨v63, e63, h⟩ := qv_bind h
      refine qv_callV [.int l1] rfl rfl rfl (Nat.le_of_ble_eq_true rfl) g63 (th_X11_isMissing (by omega) e63) rfl ?_
      refine qv_br (c := v63 = 0) (a := (69, [some (.ref l0), some (.int l1)], [], H)) (b := (82, [some (.ref l0), some (.int l1)], [], H)) 1 rfl (fun c66 => ?_) (fun c66 => ?_)
      · replace h := qv_pos c66 h
        refine qv_run 2 (σ := (71, [some (.ref l0), some (.int l1)], [.int l1, .ref l0], H)) rfl ?_
        obtain ⟨v71, H71, e71, h⟩ := qv_bind2 h
        refine qv_callV [.int l1] rfl rfl rfl (Nat.le_of_ble_eq_true rfl) g63 (th_X11_strength (by omega) e71) (tl_X11_strength e71) ?_
        refine qv_br (c := 0 < v71) (a := (82, [some (.ref l0), some (.int l1)], [], H71)) (b := (77, [some (.ref l0), some (.int l1)], [], H71)) 1 rfl (fun c74 => ?_) (fun c74 => ?_)
        · replace h := qv_pos c74 h
          exact tb_X11_day_82 hd _ ih hR l0 l1 H71 h
        · replace h := qv_neg c74 h
          refine qv_run 2 (σ := (79, [some (.ref l0), some (.int l1)], [.int l1, .ref l0], H71)) rfl ?_
          obtain ⟨g79, h⟩ := qv_guard h
          obtain ⟨H79, e79, h⟩ := qv_bind h
          refine qv_callV [.int l1] rfl rfl rfl (Nat.le_of_ble_eq_true rfl) g79 (th_X11_loses (by omega) e79) (tl_X11_loses e79) ?_
          exact tb_X11_day_82 hd _ ih hR l0 l1 H79 h
      · replace h := qv_neg c66 h
        exact tb_X11_day_82 hd _ ih hR l0 l1 H h
theorem tlb_X11_day_55 {H' : qx_H} : ∀ (n : Nat) (l0 : Nat) (l1 : Int32) (H : qx_H) (h : fm_X11_day_b55 n l0 l1 H = some H'), H'.length = H.length := by
  intro n
  induction n with
  | zero => intro l0 l1 H h; exact nomatch (show (none : Option qx_H) = some H' from h)
  | succ n ih =>
    intro l0 l1 H h
    unfold fm_X11_day_b55 at h
    by_cases c58 : 31 ≤ l1
    · replace h := qv_pos c58 h
      obtain ⟨v89, e89, h⟩ := qv_bind h
      obtain ⟨v94, e94, h⟩ := qv_bind h
      obtain ⟨H97, e97, h⟩ := qv_bind h
      have q_H97 := hp_ast_len e97
      cases h
      omega
    · replace h := qv_neg c58 h
      obtain ⟨g63, h⟩ := qv_guard h
      obtain ⟨v63, e63, h⟩ := qv_bind h
      by_cases c66 : v63 = 0
      · replace h := qv_pos c66 h
        obtain ⟨v71, H71, e71, h⟩ := qv_bind2 h
        have q_H71 := tl_X11_strength e71
        by_cases c74 : 0 < v71
        · replace h := qv_pos c74 h
          have q_end := tlb_X11_day_82 _ ih l0 l1 H71 h
          omega
        · replace h := qv_neg c74 h
          obtain ⟨g79, h⟩ := qv_guard h
          obtain ⟨H79, e79, h⟩ := qv_bind h
          have q_H79 := tl_X11_loses e79
          have q_end := tlb_X11_day_82 _ ih l0 l1 H79 h
          omega
      · replace h := qv_neg c66 h
        exact tlb_X11_day_82 _ ih l0 l1 H h
theorem tb_X11_day_47 {st : xT} {d : Nat} {R : Option Value → qx_H → Prop} (hd : 5 ≤ d) {H' : qx_H} (k2 : Nat → Int32 → qx_H → Option qx_H) (hk2 : ∀ (l0 : Nat) (l1 : Int32) (H : qx_H), k2 l0 l1 H = some H' → qx_V (xE st d) R (xc198 st) (2, [some (.ref l0), some (.int l1)], [], H)) (hR : R (none) H') (l0 : Nat) (l1 : Int32) (H : qx_H) (h : fm_X11_day_b47 k2 l0 l1 H = some H') : qx_V (xE st d) R (xc198 st) (47, [some (.ref l0), some (.int l1)], [], H) := by
  unfold fm_X11_day_b47 at h
  refine qv_run 2 (σ := (2, [some (.ref l0), some (.int (l1 + 1))], [], H)) rfl ?_
  exact hk2 l0 (l1 + 1) H h
theorem tlb_X11_day_47 {H' : qx_H} (k2 : Nat → Int32 → qx_H → Option qx_H) (hk2 : ∀ (l0 : Nat) (l1 : Int32) (H : qx_H), k2 l0 l1 H = some H' → H'.length = H.length) (l0 : Nat) (l1 : Int32) (H : qx_H) (h : fm_X11_day_b47 k2 l0 l1 H = some H') : H'.length = H.length := by
  unfold fm_X11_day_b47 at h
  exact hk2 l0 (l1 + 1) H h
theorem tb_X11_day_2 {st : xT} {d : Nat} {R : Option Value → qx_H → Prop} (hd : 5 ≤ d) {H' : qx_H} (hR : R (none) H') : ∀ (n : Nat) (l0 : Nat) (l1 : Int32) (H : qx_H) (h : fm_X11_day_b2 n l0 l1 H = some H'), qx_V (xE st d) R (xc198 st) (2, [some (.ref l0), some (.int l1)], [], H) := by
  intro n
  induction n with
  | zero => intro l0 l1 H h; exact nomatch (show (none : Option qx_H) = some H' from h)
  | succ n ih =>
    intro l0 l1 H h
    unfold fm_X11_day_b2 at h
    refine qv_br (c := 31 ≤ l1) (a := (53, [some (.ref l0), some (.int l1)], [], H)) (b := (8, [some (.ref l0), some (.int l1)], [], H)) 3 rfl (fun c5 => ?_) (fun c5 => ?_)
    · replace h := qv_pos c5 h
      refine qv_run 2 (σ := (55, [some (.ref l0), some (.int 0)], [], H)) rfl ?_
      exact tb_X11_day_55 hd hR 5000 l0 0 H h
    · replace h := qv_neg c5 h
      refine qv_run 2 (σ := (10, [some (.ref l0), some (.int l1)], [.int l1, .ref l0], H)) rfl ?_
      obtain ⟨g10, h⟩ := qv_guard h
      obtain ⟨v10, e10, h⟩ := qv_bind h
      refine qv_callV [.int l1] rfl rfl rfl (Nat.le_of_ble_eq_true rfl) g10 (th_X11_isMissing (by omega) e10) rfl ?_
      refine qv_br (c := v10 = 0) (a := (16, [some (.ref l0), some (.int l1)], [], H)) (b := (47, [some (.ref l0), some (.int l1)], [], H)) 1 rfl (fun c13 => ?_) (fun c13 => ?_)
      · replace h := qv_pos c13 h
        refine qv_run 1 (σ := (17, [some (.ref l0), some (.int l1)], [.ref l0], H)) rfl ?_
        obtain ⟨v17, e17, h⟩ := qv_bind h
        refine qv_getR rfl e17 ?_
        refine qv_run 10 (σ := (31, [some (.ref l0), some (.int l1)], [.int 1, .int l1, .ref l0, .int ((88 + (3 * l1)) + 1), .ref v17], H)) rfl ?_
        obtain ⟨v31, e31, h⟩ := qv_bind h
        refine qv_callV [.int l1, .int 1] rfl rfl rfl (Nat.le_of_ble_eq_true rfl) g10 (th_X11_of (by omega) e31) rfl ?_
        refine qv_run 2 (σ := (36, [some (.ref l0), some (.int l1)], [.int l1, .ref l0, .int v31, .int ((88 + (3 * l1)) + 1), .ref v17], H)) rfl ?_
        obtain ⟨v36, H36, e36, h⟩ := qv_bind2 h
        refine qv_callV [.int l1] rfl rfl rfl (Nat.le_of_ble_eq_true rfl) g10 (th_X11_wears (by omega) e36) (tl_X11_wears e36) ?_
        refine qv_run 3 (σ := (43, [some (.ref l0), some (.int l1)], [.int 99, .int 0, .int (v31 + v36), .int ((88 + (3 * l1)) + 1), .ref v17], H36)) rfl ?_
        refine qv_call [.int (v31 + v36), .int 0, .int 99] rfl rfl rfl (Nat.le_of_ble_eq_true rfl) (th_X11_held (by omega) rfl) rfl ?_
        obtain ⟨H46, e46, h⟩ := qv_bind h
        refine qv_ast rfl e46 ?_
        exact tb_X11_day_47 hd _ ih hR l0 l1 H46 h
      · replace h := qv_neg c13 h
        exact tb_X11_day_47 hd _ ih hR l0 l1 H h
theorem tlb_X11_day_2 {H' : qx_H} : ∀ (n : Nat) (l0 : Nat) (l1 : Int32) (H : qx_H) (h : fm_X11_day_b2 n l0 l1 H = some H'), H'.length = H.length := by
  intro n
  induction n with
  | zero => intro l0 l1 H h; exact nomatch (show (none : Option qx_H) = some H' from h)
  | succ n ih =>
    intro l0 l1 H h
    unfold fm_X11_day_b2 at h
    by_cases c5 : 31 ≤ l1
    · replace h := qv_pos c5 h
      exact tlb_X11_day_55 5000 l0 0 H h
    · replace h := qv_neg c5 h
      obtain ⟨g10, h⟩ := qv_guard h
      obtain ⟨v10, e10, h⟩ := qv_bind h
      by_cases c13 : v10 = 0
      · replace h := qv_pos c13 h
        obtain ⟨v17, e17, h⟩ := qv_bind h
        obtain ⟨v31, e31, h⟩ := qv_bind h
        obtain ⟨v36, H36, e36, h⟩ := qv_bind2 h
        have q_H36 := tl_X11_wears e36
        obtain ⟨H46, e46, h⟩ := qv_bind h
        have q_H46 := hp_ast_len e46
        have q_end := tlb_X11_day_47 _ ih l0 l1 H46 h
        omega
      · replace h := qv_neg c13 h
        exact tlb_X11_day_47 _ ih l0 l1 H h
theorem tb_X11_day_0 {st : xT} {d : Nat} {R : Option Value → qx_H → Prop} (hd : 5 ≤ d) {H' : qx_H} (hR : R (none) H') (a0 : Nat) (H : qx_H) (h : fm_X11_day a0 H = some H') : qx_V (xE st d) R (xc198 st) (0, [some (.ref a0), none], [], H) := by
  unfold fm_X11_day at h
  refine qv_run 2 (σ := (2, [some (.ref a0), some (.int 0)], [], H)) rfl ?_
  exact tb_X11_day_2 hd hR 5000 a0 0 H h
theorem tlb_X11_day_0 {H' : qx_H} (a0 : Nat) (H : qx_H) (h : fm_X11_day a0 H = some H') : H'.length = H.length := by
  unfold fm_X11_day at h
  exact tlb_X11_day_2 5000 a0 0 H h
theorem th_X11_day {st : xT} {d : Nat} (hd : 6 ≤ d) {a0 : Nat} {H : qx_H} {H' : qx_H} (h : fm_X11_day a0 H = some H') : xE st d 198 [.ref a0] H (none) H' := by
  obtain ⟨d, rfl⟩ : ∃ d', d = d' + 1 := ⟨d - 1, by omega⟩
  exact xE_of (xe198 st) xl198 (Nat.le_of_ble_eq_true rfl) (ls := [some (.ref a0), none]) rfl (tb_X11_day_0 (by omega) ⟨rfl, rfl⟩ a0 H h)
theorem tl_X11_day {a0 : Nat} {H : qx_H} {H' : qx_H} (h : fm_X11_day a0 H = some H') : H'.length = H.length := tlb_X11_day_0 a0 H h
def fm_X11_go_b2 : Nat → Nat → Int32 → Int32 → qx_H → Option qx_H
  | 0, _, _, _, _ => none
  | n + 1, l0, l1, l2, H => if l1 ≤ l2 then (some H) else (if hp_is H l0 9 = true then ((fm_X11_day l0 H).bind fun H8 => fm_X11_go_b2 n l0 l1 (l2 + 1) H8) else none)
def fm_X11_go (a0 : Nat) (a1 : Int32) (H : qx_H) : Option qx_H := fm_X11_go_b2 5000 a0 a1 0 H
theorem tb_X11_go_2 {st : xT} {d : Nat} {R : Option Value → qx_H → Prop} (hd : 6 ≤ d) {H' : qx_H} (hR : R (none) H') : ∀ (n : Nat) (l0 : Nat) (l1 : Int32) (l2 : Int32) (H : qx_H) (h : fm_X11_go_b2 n l0 l1 l2 H = some H'), qx_V (xE st d) R (xc199 st) (2, [some (.ref l0), some (.int l1), some (.int l2)], [], H) := by
  intro n
  induction n with
  | zero => intro l0 l1 l2 H h; exact nomatch (show (none : Option qx_H) = some H' from h)
  | succ n ih =>
    intro l0 l1 l2 H h
    unfold fm_X11_go_b2 at h
    refine qv_br (c := l1 ≤ l2) (a := (17, [some (.ref l0), some (.int l1), some (.int l2)], [], H)) (b := (7, [some (.ref l0), some (.int l1), some (.int l2)], [], H)) 3 rfl (fun c4 => ?_) (fun c4 => ?_)
    · replace h := qv_pos c4 h
      cases h
      exact qv_ret0 rfl hR
    · replace h := qv_neg c4 h
      refine qv_run 1 (σ := (8, [some (.ref l0), some (.int l1), some (.int l2)], [.ref l0], H)) rfl ?_
      obtain ⟨g8, h⟩ := qv_guard h
      obtain ⟨H8, e8, h⟩ := qv_bind h
      refine qv_callV [] rfl rfl rfl (Nat.le_of_ble_eq_true rfl) g8 (th_X11_day (by omega) e8) (tl_X11_day e8) ?_
      refine qv_run 2 (σ := (2, [some (.ref l0), some (.int l1), some (.int (l2 + 1))], [], H8)) rfl ?_
      exact ih l0 l1 (l2 + 1) H8 h
theorem tlb_X11_go_2 {H' : qx_H} : ∀ (n : Nat) (l0 : Nat) (l1 : Int32) (l2 : Int32) (H : qx_H) (h : fm_X11_go_b2 n l0 l1 l2 H = some H'), H'.length = H.length := by
  intro n
  induction n with
  | zero => intro l0 l1 l2 H h; exact nomatch (show (none : Option qx_H) = some H' from h)
  | succ n ih =>
    intro l0 l1 l2 H h
    unfold fm_X11_go_b2 at h
    by_cases c4 : l1 ≤ l2
    · replace h := qv_pos c4 h
      cases h
      rfl
    · replace h := qv_neg c4 h
      obtain ⟨g8, h⟩ := qv_guard h
      obtain ⟨H8, e8, h⟩ := qv_bind h
      have q_H8 := tl_X11_day e8
      have q_end := ih l0 l1 (l2 + 1) H8 h
      omega
theorem tb_X11_go_0 {st : xT} {d : Nat} {R : Option Value → qx_H → Prop} (hd : 6 ≤ d) {H' : qx_H} (hR : R (none) H') (a0 : Nat) (a1 : Int32) (H : qx_H) (h : fm_X11_go a0 a1 H = some H') : qx_V (xE st d) R (xc199 st) (0, [some (.ref a0), some (.int a1), none], [], H) := by
  unfold fm_X11_go at h
  refine qv_run 2 (σ := (2, [some (.ref a0), some (.int a1), some (.int 0)], [], H)) rfl ?_
  exact tb_X11_go_2 hd hR 5000 a0 a1 0 H h
theorem tlb_X11_go_0 {H' : qx_H} (a0 : Nat) (a1 : Int32) (H : qx_H) (h : fm_X11_go a0 a1 H = some H') : H'.length = H.length := by
  unfold fm_X11_go at h
  exact tlb_X11_go_2 5000 a0 a1 0 H h
theorem th_X11_go {st : xT} {d : Nat} (hd : 7 ≤ d) {a0 : Nat} {a1 : Int32} {H : qx_H} {H' : qx_H} (h : fm_X11_go a0 a1 H = some H') : xE st d 199 [.ref a0, .int a1] H (none) H' := by
  obtain ⟨d, rfl⟩ : ∃ d', d = d' + 1 := ⟨d - 1, by omega⟩
  exact xE_of (xe199 st) xl199 (Nat.le_of_ble_eq_true rfl) (ls := [some (.ref a0), some (.int a1), none]) rfl (tb_X11_go_0 (by omega) ⟨rfl, rfl⟩ a0 a1 H h)
theorem tl_X11_go {a0 : Nat} {a1 : Int32} {H : qx_H} {H' : qx_H} (h : fm_X11_go a0 a1 H = some H') : H'.length = H.length := tlb_X11_go_0 a0 a1 H h
def fm_X11_days (a0 : Nat) (a1 : Int32) (H : qx_H) : Option (Int32 × qx_H) := if (fm_X11_in a1 1 60) = 0 then (if hp_is H a0 9 = true then (ob2 (fm_X11_error a0 1 H) fun v12 H12 => some (v12, H12)) else none) else ((hp_gR H a0 9 0).bind fun v17 => (hp_ald H v17 0).bind fun v21 => if (v21 + a1) ≤ 9999 then (if hp_is H a0 9 = true then ((fm_X11_go a0 a1 H).bind fun H38 => if hp_is H38 a0 9 = true then ((fm_X11_missing a0 H38).bind fun v42 => some (v42, H38)) else none) else none) else (if hp_is H a0 9 = true then (ob2 (fm_X11_error a0 3 H) fun v32 H32 => some (v32, H32)) else none))
theorem tb_X11_days_0 {st : xT} {d : Nat} {R : Option Value → qx_H → Prop} (hd : 7 ≤ d) {r : Int32} {H' : qx_H} (hR : R (some (.int r)) H') (a0 : Nat) (a1 : Int32) (H : qx_H) (h : fm_X11_days a0 a1 H = some (r, H')) : qx_V (xE st d) R (xc200 st) (0, [some (.ref a0), some (.int a1)], [], H) := by
  unfold fm_X11_days at h
  refine qv_run 3 (σ := (4, [some (.ref a0), some (.int a1)], [.int 60, .int 1, .int a1], H)) rfl ?_
  refine qv_call [.int a1, .int 1, .int 60] rfl rfl rfl (Nat.le_of_ble_eq_true rfl) (th_X11_in (by omega) rfl) rfl ?_
  refine qv_br (c := (fm_X11_in a1 1 60) = 0) (a := (10, [some (.ref a0), some (.int a1)], [], H)) (b := (16, [some (.ref a0), some (.int a1)], [], H)) 1 rfl (fun c7 => ?_) (fun c7 => ?_)
  · replace h := qv_pos c7 h
    refine qv_run 2 (σ := (12, [some (.ref a0), some (.int a1)], [.int 1, .ref a0], H)) rfl ?_
    obtain ⟨g12, h⟩ := qv_guard h
    obtain ⟨v12, H12, e12, h⟩ := qv_bind2 h
    refine qv_callV [.int 1] rfl rfl rfl (Nat.le_of_ble_eq_true rfl) g12 (th_X11_error (by omega) e12) (tl_X11_error e12) ?_
    obtain ⟨rfl, rfl⟩ := qv_pair h
    exact qv_reti rfl hR
  · replace h := qv_neg c7 h
    refine qv_run 1 (σ := (17, [some (.ref a0), some (.int a1)], [.ref a0], H)) rfl ?_
    obtain ⟨v17, e17, h⟩ := qv_bind h
    refine qv_getR rfl e17 ?_
    refine qv_run 1 (σ := (21, [some (.ref a0), some (.int a1)], [.int 0, .ref v17], H)) rfl ?_
    obtain ⟨v21, e21, h⟩ := qv_bind h
    refine qv_ald rfl e21 ?_
    refine qv_br (c := (v21 + a1) ≤ 9999) (a := (36, [some (.ref a0), some (.int a1)], [], H)) (b := (30, [some (.ref a0), some (.int a1)], [], H)) 4 rfl (fun c27 => ?_) (fun c27 => ?_)
    · replace h := qv_pos c27 h
      refine qv_run 2 (σ := (38, [some (.ref a0), some (.int a1)], [.int a1, .ref a0], H)) rfl ?_
      obtain ⟨g38, h⟩ := qv_guard h
      obtain ⟨H38, e38, h⟩ := qv_bind h
      refine qv_callV [.int a1] rfl rfl rfl (Nat.le_of_ble_eq_true rfl) g38 (th_X11_go (by omega) e38) (tl_X11_go e38) ?_
      refine qv_run 1 (σ := (42, [some (.ref a0), some (.int a1)], [.ref a0], H38)) rfl ?_
      obtain ⟨g42, h⟩ := qv_guard h
      obtain ⟨v42, e42, h⟩ := qv_bind h
      refine qv_callV [] rfl rfl rfl (Nat.le_of_ble_eq_true rfl) g42 (th_X11_missing (by omega) e42) rfl ?_
      obtain ⟨rfl, rfl⟩ := qv_pair h
      exact qv_reti rfl hR
    · replace h := qv_neg c27 h
      refine qv_run 2 (σ := (32, [some (.ref a0), some (.int a1)], [.int 3, .ref a0], H)) rfl ?_
      obtain ⟨g32, h⟩ := qv_guard h
      obtain ⟨v32, H32, e32, h⟩ := qv_bind2 h
      refine qv_callV [.int 3] rfl rfl rfl (Nat.le_of_ble_eq_true rfl) g32 (th_X11_error (by omega) e32) (tl_X11_error e32) ?_
      obtain ⟨rfl, rfl⟩ := qv_pair h
      exact qv_reti rfl hR
theorem tlb_X11_days_0 {r : Int32} {H' : qx_H} (a0 : Nat) (a1 : Int32) (H : qx_H) (h : fm_X11_days a0 a1 H = some (r, H')) : H'.length = H.length := by
  unfold fm_X11_days at h
  by_cases c7 : (fm_X11_in a1 1 60) = 0
  · replace h := qv_pos c7 h
    obtain ⟨g12, h⟩ := qv_guard h
    obtain ⟨v12, H12, e12, h⟩ := qv_bind2 h
    have q_H12 := tl_X11_error e12
    obtain ⟨rfl, rfl⟩ := qv_pair h
    omega
  · replace h := qv_neg c7 h
    obtain ⟨v17, e17, h⟩ := qv_bind h
    obtain ⟨v21, e21, h⟩ := qv_bind h
    by_cases c27 : (v21 + a1) ≤ 9999
    · replace h := qv_pos c27 h
      obtain ⟨g38, h⟩ := qv_guard h
      obtain ⟨H38, e38, h⟩ := qv_bind h
      have q_H38 := tl_X11_go e38
      obtain ⟨g42, h⟩ := qv_guard h
      obtain ⟨v42, e42, h⟩ := qv_bind h
      obtain ⟨rfl, rfl⟩ := qv_pair h
      omega
    · replace h := qv_neg c27 h
      obtain ⟨g32, h⟩ := qv_guard h
      obtain ⟨v32, H32, e32, h⟩ := qv_bind2 h
      have q_H32 := tl_X11_error e32
      obtain ⟨rfl, rfl⟩ := qv_pair h
      omega
theorem th_X11_days {st : xT} {d : Nat} (hd : 8 ≤ d) {a0 : Nat} {a1 : Int32} {H : qx_H} {r : Int32} {H' : qx_H} (h : fm_X11_days a0 a1 H = some (r, H')) : xE st d 200 [.ref a0, .int a1] H (some (.int r)) H' := by
  obtain ⟨d, rfl⟩ : ∃ d', d = d' + 1 := ⟨d - 1, by omega⟩
  exact xE_of (xe200 st) xl200 (Nat.le_of_ble_eq_true rfl) (ls := [some (.ref a0), some (.int a1)]) rfl (tb_X11_days_0 (by omega) ⟨rfl, rfl⟩ a0 a1 H h)
theorem tl_X11_days {a0 : Nat} {a1 : Int32} {H : qx_H} {r : Int32} {H' : qx_H} (h : fm_X11_days a0 a1 H = some (r, H')) : H'.length = H.length := tlb_X11_days_0 a0 a1 H h
def fm_X11_draw (a0 : Nat) (H : qx_H) : Option (Int32 × qx_H) := (hp_gR H a0 9 0).bind fun v1 => (hp_gR H a0 9 0).bind fun v6 => (hp_ald H v6 4).bind fun v10 => (hp_ast H v1 4 ((v10 * 1103515245) + 12345)).bind fun H18 => (hp_gR H18 a0 9 0).bind fun v20 => (hp_ald H18 v20 4).bind fun v24 => some (ji_ushr v24 8, H18)
theorem tb_X11_draw_0 {st : xT} {d : Nat} {R : Option Value → qx_H → Prop} (hd : 0 ≤ d) {r : Int32} {H' : qx_H} (hR : R (some (.int r)) H') (a0 : Nat) (H : qx_H) (h : fm_X11_draw a0 H = some (r, H')) : qx_V (xE st d) R (xc201 st) (0, [some (.ref a0)], [], H) := by
  unfold fm_X11_draw at h
  refine qv_run 1 (σ := (1, [some (.ref a0)], [.ref a0], H)) rfl ?_
  obtain ⟨v1, e1, h⟩ := qv_bind h
  refine qv_getR rfl e1 ?_
  refine qv_run 2 (σ := (6, [some (.ref a0)], [.ref a0, .int 4, .ref v1], H)) rfl ?_
  obtain ⟨v6, e6, h⟩ := qv_bind h
  refine qv_getR rfl e6 ?_
  refine qv_run 1 (σ := (10, [some (.ref a0)], [.int 4, .ref v6, .int 4, .ref v1], H)) rfl ?_
  obtain ⟨v10, e10, h⟩ := qv_bind h
  refine qv_ald rfl e10 ?_
  refine qv_run 4 (σ := (18, [some (.ref a0)], [.int ((v10 * 1103515245) + 12345), .int 4, .ref v1], H)) rfl ?_
  obtain ⟨H18, e18, h⟩ := qv_bind h
  refine qv_ast rfl e18 ?_
  refine qv_run 1 (σ := (20, [some (.ref a0)], [.ref a0], H18)) rfl ?_
  obtain ⟨v20, e20, h⟩ := qv_bind h
  refine qv_getR rfl e20 ?_
  refine qv_run 1 (σ := (24, [some (.ref a0)], [.int 4, .ref v20], H18)) rfl ?_
  obtain ⟨v24, e24, h⟩ := qv_bind h
  refine qv_ald rfl e24 ?_
  refine qv_run 2 (σ := (28, [some (.ref a0)], [.int (ji_ushr v24 8)], H18)) rfl ?_
  obtain ⟨rfl, rfl⟩ := qv_pair h
  exact qv_reti rfl hR
theorem tlb_X11_draw_0 {r : Int32} {H' : qx_H} (a0 : Nat) (H : qx_H) (h : fm_X11_draw a0 H = some (r, H')) : H'.length = H.length := by
  unfold fm_X11_draw at h
  obtain ⟨v1, e1, h⟩ := qv_bind h
  obtain ⟨v6, e6, h⟩ := qv_bind h
  obtain ⟨v10, e10, h⟩ := qv_bind h
  obtain ⟨H18, e18, h⟩ := qv_bind h
  have q_H18 := hp_ast_len e18
  obtain ⟨v20, e20, h⟩ := qv_bind h
  obtain ⟨v24, e24, h⟩ := qv_bind h
  obtain ⟨rfl, rfl⟩ := qv_pair h
  omega
theorem th_X11_draw {st : xT} {d : Nat} (hd : 1 ≤ d) {a0 : Nat} {H : qx_H} {r : Int32} {H' : qx_H} (h : fm_X11_draw a0 H = some (r, H')) : xE st d 201 [.ref a0] H (some (.int r)) H' := by
  obtain ⟨d, rfl⟩ : ∃ d', d = d' + 1 := ⟨d - 1, by omega⟩
  exact xE_of (xe201 st) xl201 (Nat.le_of_ble_eq_true rfl) (ls := [some (.ref a0)]) rfl (tb_X11_draw_0 (by omega) ⟨rfl, rfl⟩ a0 H h)
theorem tl_X11_draw {a0 : Nat} {H : qx_H} {r : Int32} {H' : qx_H} (h : fm_X11_draw a0 H = some (r, H')) : H'.length = H.length := tlb_X11_draw_0 a0 H h
def fm_X11_draws_b38 : Nat → Nat → Int32 → Int32 → qx_H → Option (Int32 × qx_H)
  | 0, _, _, _, _ => none
  | n + 1, l0, l1, l2, H => if l1 ≤ l2 then (if hp_is H l0 9 = true then ((fm_X11_missing l0 H).bind fun v65 => some (v65, H)) else none) else (if hp_is H l0 9 = true then (ob2 (fm_X11_draw l0 H) fun v45 H45 => if hp_is H45 l0 9 = true then ((fm_X11_loses l0 (ji_rem v45 31) H45).bind fun H51 => if hp_is H51 l0 9 = true then ((fm_X11_day l0 H51).bind fun H55 => fm_X11_draws_b38 n l0 l1 (l2 + 1) H55) else none) else none) else none)
def fm_X11_draws (a0 : Nat) (a1 : Int32) (H : qx_H) : Option (Int32 × qx_H) := if (fm_X11_in a1 1 60) = 0 then (if hp_is H a0 9 = true then (ob2 (fm_X11_error a0 1 H) fun v12 H12 => some (v12, H12)) else none) else ((hp_gR H a0 9 0).bind fun v17 => (hp_ald H v17 0).bind fun v21 => if (v21 + a1) ≤ 9999 then (fm_X11_draws_b38 5000 a0 a1 0 H) else (if hp_is H a0 9 = true then (ob2 (fm_X11_error a0 3 H) fun v32 H32 => some (v32, H32)) else none))
theorem tb_X11_draws_38 {st : xT} {d : Nat} {R : Option Value → qx_H → Prop} (hd : 6 ≤ d) {r : Int32} {H' : qx_H} (hR : R (some (.int r)) H') : ∀ (n : Nat) (l0 : Nat) (l1 : Int32) (l2 : Int32) (H : qx_H) (h : fm_X11_draws_b38 n l0 l1 l2 H = some (r, H')), qx_V (xE st d) R (xc202 st) (38, [some (.ref l0), some (.int l1), some (.int l2)], [], H) := by
  intro n
  induction n with
  | zero => intro l0 l1 l2 H h; exact nomatch (show (none : Option (Int32 × qx_H)) = some (r, H') from h)
  | succ n ih =>
    intro l0 l1 l2 H h
    unfold fm_X11_draws_b38 at h
    refine qv_br (c := l1 ≤ l2) (a := (64, [some (.ref l0), some (.int l1), some (.int l2)], [], H)) (b := (43, [some (.ref l0), some (.int l1), some (.int l2)], [], H)) 3 rfl (fun c40 => ?_) (fun c40 => ?_)
    · replace h := qv_pos c40 h
      refine qv_run 1 (σ := (65, [some (.ref l0), some (.int l1), some (.int l2)], [.ref l0], H)) rfl ?_
      obtain ⟨g65, h⟩ := qv_guard h
      obtain ⟨v65, e65, h⟩ := qv_bind h
      refine qv_callV [] rfl rfl rfl (Nat.le_of_ble_eq_true rfl) g65 (th_X11_missing (by omega) e65) rfl ?_
      obtain ⟨rfl, rfl⟩ := qv_pair h
      exact qv_reti rfl hR
    · replace h := qv_neg c40 h
      refine qv_run 2 (σ := (45, [some (.ref l0), some (.int l1), some (.int l2)], [.ref l0, .ref l0], H)) rfl ?_
      obtain ⟨g45, h⟩ := qv_guard h
      obtain ⟨v45, H45, e45, h⟩ := qv_bind2 h
      refine qv_callV [] rfl rfl rfl (Nat.le_of_ble_eq_true rfl) g45 (th_X11_draw (by omega) e45) (tl_X11_draw e45) ?_
      refine qv_run 1 (σ := (50, [some (.ref l0), some (.int l1), some (.int l2)], [.int 31, .int v45, .ref l0], H45)) rfl ?_
      refine qv_div rfl (by decide) ?_
      obtain ⟨g51, h⟩ := qv_guard h
      obtain ⟨H51, e51, h⟩ := qv_bind h
      refine qv_callV [.int (ji_rem v45 31)] rfl rfl rfl (Nat.le_of_ble_eq_true rfl) g51 (th_X11_loses (by omega) e51) (tl_X11_loses e51) ?_
      refine qv_run 1 (σ := (55, [some (.ref l0), some (.int l1), some (.int l2)], [.ref l0], H51)) rfl ?_
      obtain ⟨g55, h⟩ := qv_guard h
      obtain ⟨H55, e55, h⟩ := qv_bind h
      refine qv_callV [] rfl rfl rfl (Nat.le_of_ble_eq_true rfl) g55 (th_X11_day (by omega) e55) (tl_X11_day e55) ?_
      refine qv_run 2 (σ := (38, [some (.ref l0), some (.int l1), some (.int (l2 + 1))], [], H55)) rfl ?_
      exact ih l0 l1 (l2 + 1) H55 h
theorem tlb_X11_draws_38 {r : Int32} {H' : qx_H} : ∀ (n : Nat) (l0 : Nat) (l1 : Int32) (l2 : Int32) (H : qx_H) (h : fm_X11_draws_b38 n l0 l1 l2 H = some (r, H')), H'.length = H.length := by
  intro n
  induction n with
  | zero => intro l0 l1 l2 H h; exact nomatch (show (none : Option (Int32 × qx_H)) = some (r, H') from h)
  | succ n ih =>
    intro l0 l1 l2 H h
    unfold fm_X11_draws_b38 at h
    by_cases c40 : l1 ≤ l2
    · replace h := qv_pos c40 h
      obtain ⟨g65, h⟩ := qv_guard h
      obtain ⟨v65, e65, h⟩ := qv_bind h
      obtain ⟨rfl, rfl⟩ := qv_pair h
      rfl
    · replace h := qv_neg c40 h
      obtain ⟨g45, h⟩ := qv_guard h
      obtain ⟨v45, H45, e45, h⟩ := qv_bind2 h
      have q_H45 := tl_X11_draw e45
      obtain ⟨g51, h⟩ := qv_guard h
      obtain ⟨H51, e51, h⟩ := qv_bind h
      have q_H51 := tl_X11_loses e51
      obtain ⟨g55, h⟩ := qv_guard h
      obtain ⟨H55, e55, h⟩ := qv_bind h
      have q_H55 := tl_X11_day e55
      have q_end := ih l0 l1 (l2 + 1) H55 h
      omega
theorem tb_X11_draws_0 {st : xT} {d : Nat} {R : Option Value → qx_H → Prop} (hd : 6 ≤ d) {r : Int32} {H' : qx_H} (hR : R (some (.int r)) H') (a0 : Nat) (a1 : Int32) (H : qx_H) (h : fm_X11_draws a0 a1 H = some (r, H')) : qx_V (xE st d) R (xc202 st) (0, [some (.ref a0), some (.int a1), none], [], H) := by
  unfold fm_X11_draws at h
  refine qv_run 3 (σ := (4, [some (.ref a0), some (.int a1), none], [.int 60, .int 1, .int a1], H)) rfl ?_
  refine qv_call [.int a1, .int 1, .int 60] rfl rfl rfl (Nat.le_of_ble_eq_true rfl) (th_X11_in (by omega) rfl) rfl ?_
  refine qv_br (c := (fm_X11_in a1 1 60) = 0) (a := (10, [some (.ref a0), some (.int a1), none], [], H)) (b := (16, [some (.ref a0), some (.int a1), none], [], H)) 1 rfl (fun c7 => ?_) (fun c7 => ?_)
  · replace h := qv_pos c7 h
    refine qv_run 2 (σ := (12, [some (.ref a0), some (.int a1), none], [.int 1, .ref a0], H)) rfl ?_
    obtain ⟨g12, h⟩ := qv_guard h
    obtain ⟨v12, H12, e12, h⟩ := qv_bind2 h
    refine qv_callV [.int 1] rfl rfl rfl (Nat.le_of_ble_eq_true rfl) g12 (th_X11_error (by omega) e12) (tl_X11_error e12) ?_
    obtain ⟨rfl, rfl⟩ := qv_pair h
    exact qv_reti rfl hR
  · replace h := qv_neg c7 h
    refine qv_run 1 (σ := (17, [some (.ref a0), some (.int a1), none], [.ref a0], H)) rfl ?_
    obtain ⟨v17, e17, h⟩ := qv_bind h
    refine qv_getR rfl e17 ?_
    refine qv_run 1 (σ := (21, [some (.ref a0), some (.int a1), none], [.int 0, .ref v17], H)) rfl ?_
    obtain ⟨v21, e21, h⟩ := qv_bind h
    refine qv_ald rfl e21 ?_
    refine qv_br (c := (v21 + a1) ≤ 9999) (a := (36, [some (.ref a0), some (.int a1), none], [], H)) (b := (30, [some (.ref a0), some (.int a1), none], [], H)) 4 rfl (fun c27 => ?_) (fun c27 => ?_)
    · replace h := qv_pos c27 h
      refine qv_run 2 (σ := (38, [some (.ref a0), some (.int a1), some (.int 0)], [], H)) rfl ?_
      exact tb_X11_draws_38 hd hR 5000 a0 a1 0 H h
    · replace h := qv_neg c27 h
      refine qv_run 2 (σ := (32, [some (.ref a0), some (.int a1), none], [.int 3, .ref a0], H)) rfl ?_
      obtain ⟨g32, h⟩ := qv_guard h
      obtain ⟨v32, H32, e32, h⟩ := qv_bind2 h
      refine qv_callV [.int 3] rfl rfl rfl (Nat.le_of_ble_eq_true rfl) g32 (th_X11_error (by omega) e32) (tl_X11_error e32) ?_
      obtain ⟨rfl, rfl⟩ := qv_pair h
      exact qv_reti rfl hR
theorem tlb_X11_draws_0 {r : Int32} {H' : qx_H} (a0 : Nat) (a1 : Int32) (H : qx_H) (h : fm_X11_draws a0 a1 H = some (r, H')) : H'.length = H.length := by
  unfold fm_X11_draws at h
  by_cases c7 : (fm_X11_in a1 1 60) = 0
  · replace h := qv_pos c7 h
    obtain ⟨g12, h⟩ := qv_guard h
    obtain ⟨v12, H12, e12, h⟩ := qv_bind2 h
    have q_H12 := tl_X11_error e12
    obtain ⟨rfl, rfl⟩ := qv_pair h
    omega
  · replace h := qv_neg c7 h
    obtain ⟨v17, e17, h⟩ := qv_bind h
    obtain ⟨v21, e21, h⟩ := qv_bind h
    by_cases c27 : (v21 + a1) ≤ 9999
    · replace h := qv_pos c27 h
      exact tlb_X11_draws_38 5000 a0 a1 0 H h
    · replace h := qv_neg c27 h
      obtain ⟨g32, h⟩ := qv_guard h
      obtain ⟨v32, H32, e32, h⟩ := qv_bind2 h
      have q_H32 := tl_X11_error e32
      obtain ⟨rfl, rfl⟩ := qv_pair h
      omega
theorem th_X11_draws {st : xT} {d : Nat} (hd : 7 ≤ d) {a0 : Nat} {a1 : Int32} {H : qx_H} {r : Int32} {H' : qx_H} (h : fm_X11_draws a0 a1 H = some (r, H')) : xE st d 202 [.ref a0, .int a1] H (some (.int r)) H' := by
  obtain ⟨d, rfl⟩ : ∃ d', d = d' + 1 := ⟨d - 1, by omega⟩
  exact xE_of (xe202 st) xl202 (Nat.le_of_ble_eq_true rfl) (ls := [some (.ref a0), some (.int a1), none]) rfl (tb_X11_draws_0 (by omega) ⟨rfl, rfl⟩ a0 a1 H h)
theorem tl_X11_draws {a0 : Nat} {a1 : Int32} {H : qx_H} {r : Int32} {H' : qx_H} (h : fm_X11_draws a0 a1 H = some (r, H')) : H'.length = H.length := tlb_X11_draws_0 a0 a1 H h
def fm_X11_seed (a0 : Nat) (a1 : Int32) (H : qx_H) : Option (Int32 × qx_H) := if hp_is H a0 9 = true then (ob2 (fm_X11_change1 a0 4 a1 H) fun v3 H3 => some (v3, H3)) else none
theorem tb_X11_seed_0 {st : xT} {d : Nat} {R : Option Value → qx_H → Prop} (hd : 1 ≤ d) {r : Int32} {H' : qx_H} (hR : R (some (.int r)) H') (a0 : Nat) (a1 : Int32) (H : qx_H) (h : fm_X11_seed a0 a1 H = some (r, H')) : qx_V (xE st d) R (xc203 st) (0, [some (.ref a0), some (.int a1)], [], H) := by
  unfold fm_X11_seed at h
  refine qv_run 3 (σ := (3, [some (.ref a0), some (.int a1)], [.int a1, .int 4, .ref a0], H)) rfl ?_
  obtain ⟨g3, h⟩ := qv_guard h
  obtain ⟨v3, H3, e3, h⟩ := qv_bind2 h
  refine qv_callV [.int 4, .int a1] rfl rfl rfl (Nat.le_of_ble_eq_true rfl) g3 (th_X11_change1 (by omega) e3) (tl_X11_change1 e3) ?_
  obtain ⟨rfl, rfl⟩ := qv_pair h
  exact qv_reti rfl hR
theorem tlb_X11_seed_0 {r : Int32} {H' : qx_H} (a0 : Nat) (a1 : Int32) (H : qx_H) (h : fm_X11_seed a0 a1 H = some (r, H')) : H'.length = H.length := by
  unfold fm_X11_seed at h
  obtain ⟨g3, h⟩ := qv_guard h
  obtain ⟨v3, H3, e3, h⟩ := qv_bind2 h
  have q_H3 := tl_X11_change1 e3
  obtain ⟨rfl, rfl⟩ := qv_pair h
  omega
theorem th_X11_seed {st : xT} {d : Nat} (hd : 2 ≤ d) {a0 : Nat} {a1 : Int32} {H : qx_H} {r : Int32} {H' : qx_H} (h : fm_X11_seed a0 a1 H = some (r, H')) : xE st d 203 [.ref a0, .int a1] H (some (.int r)) H' := by
  obtain ⟨d, rfl⟩ : ∃ d', d = d' + 1 := ⟨d - 1, by omega⟩
  exact xE_of (xe203 st) xl203 (Nat.le_of_ble_eq_true rfl) (ls := [some (.ref a0), some (.int a1)]) rfl (tb_X11_seed_0 (by omega) ⟨rfl, rfl⟩ a0 a1 H h)
theorem tl_X11_seed {a0 : Nat} {a1 : Int32} {H : qx_H} {r : Int32} {H' : qx_H} (h : fm_X11_seed a0 a1 H = some (r, H')) : H'.length = H.length := tlb_X11_seed_0 a0 a1 H h
def fm_X11_then_b26 (l0 : Nat) (H : qx_H) : Option (Int32 × qx_H) := if hp_is H l0 9 = true then (ob2 (fm_X11_error l0 1 H) fun v28 H28 => some (v28, H28)) else none
def fm_X11_then (a0 : Nat) (a1 : Int32) (a2 : Int32) (a3 : Int32) (H : qx_H) : Option (Int32 × qx_H) := if (fm_X11_in a1 0 60) = 0 then (fm_X11_then_b26 a0 H) else (if (fm_X11_isThread a2) = 0 then (fm_X11_then_b26 a0 H) else (if (fm_X11_in a3 0 5) = 0 then (fm_X11_then_b26 a0 H) else (if hp_is H a0 9 = true then ((fm_X11_layDown a0 H).bind fun H33 => if hp_is H33 a0 9 = true then ((fm_X11_go a0 a1 H33).bind fun H38 => if hp_is H38 a0 9 = true then (ob2 (fm_X11_toldThread a0 a2 a3 H38) fun v44 H44 => if hp_is H44 a0 9 = true then ((fm_X11_layBack a0 H44).bind fun H50 => some (v44, H50)) else none) else none) else none) else none)))
theorem tb_X11_then_26 {st : xT} {d : Nat} {R : Option Value → qx_H → Prop} (hd : 7 ≤ d) {r : Int32} {H' : qx_H} (hR : R (some (.int r)) H') (l0 : Nat) (z1 : Option Value) (hz1 : qx_ns z1 = true) (z2 : Option Value) (hz2 : qx_ns z2 = true) (z3 : Option Value) (hz3 : qx_ns z3 = true) (H : qx_H) (h : fm_X11_then_b26 l0 H = some (r, H')) : qx_V (xE st d) R (xc204 st) (26, [some (.ref l0), z1, z2, z3, none], [], H) := by
  unfold fm_X11_then_b26 at h
  refine qv_run 2 (σ := (28, [some (.ref l0), z1, z2, z3, none], [.int 1, .ref l0], H)) rfl ?_
  obtain ⟨g28, h⟩ := qv_guard h
  obtain ⟨v28, H28, e28, h⟩ := qv_bind2 h
  refine qv_callV [.int 1] rfl rfl rfl (Nat.le_of_ble_eq_true rfl) g28 (th_X11_error (by omega) e28) (tl_X11_error e28) ?_
  obtain ⟨rfl, rfl⟩ := qv_pair h
  exact qv_reti rfl hR
theorem tlb_X11_then_26 {r : Int32} {H' : qx_H} (l0 : Nat) (H : qx_H) (h : fm_X11_then_b26 l0 H = some (r, H')) : H'.length = H.length := by
  unfold fm_X11_then_b26 at h
  obtain ⟨g28, h⟩ := qv_guard h
  obtain ⟨v28, H28, e28, h⟩ := qv_bind2 h
  have q_H28 := tl_X11_error e28
  obtain ⟨rfl, rfl⟩ := qv_pair h
  omega
theorem tb_X11_then_0 {st : xT} {d : Nat} {R : Option Value → qx_H → Prop} (hd : 7 ≤ d) {r : Int32} {H' : qx_H} (hR : R (some (.int r)) H') (a0 : Nat) (a1 : Int32) (a2 : Int32) (a3 : Int32) (H : qx_H) (h : fm_X11_then a0 a1 a2 a3 H = some (r, H')) : qx_V (xE st d) R (xc204 st) (0, [some (.ref a0), some (.int a1), some (.int a2), some (.int a3), none], [], H) := by
  unfold fm_X11_then at h
  refine qv_run 3 (σ := (4, [some (.ref a0), some (.int a1), some (.int a2), some (.int a3), none], [.int 60, .int 0, .int a1], H)) rfl ?_
  refine qv_call [.int a1, .int 0, .int 60] rfl rfl rfl (Nat.le_of_ble_eq_true rfl) (th_X11_in (by omega) rfl) rfl ?_
  refine qv_br (c := (fm_X11_in a1 0 60) = 0) (a := (26, [some (.ref a0), some (.int a1), some (.int a2), some (.int a3), none], [], H)) (b := (10, [some (.ref a0), some (.int a1), some (.int a2), some (.int a3), none], [], H)) 1 rfl (fun c7 => ?_) (fun c7 => ?_)
  · replace h := qv_pos c7 h
    exact tb_X11_then_26 hd hR a0 (some (.int a1)) rfl (some (.int a2)) rfl (some (.int a3)) rfl H h
  · replace h := qv_neg c7 h
    refine qv_run 1 (σ := (11, [some (.ref a0), some (.int a1), some (.int a2), some (.int a3), none], [.int a2], H)) rfl ?_
    refine qv_call [.int a2] rfl rfl rfl (Nat.le_of_ble_eq_true rfl) (th_X11_isThread (by omega) rfl) rfl ?_
    refine qv_br (c := (fm_X11_isThread a2) = 0) (a := (26, [some (.ref a0), some (.int a1), some (.int a2), some (.int a3), none], [], H)) (b := (17, [some (.ref a0), some (.int a1), some (.int a2), some (.int a3), none], [], H)) 1 rfl (fun c14 => ?_) (fun c14 => ?_)
    · replace h := qv_pos c14 h
      exact tb_X11_then_26 hd hR a0 (some (.int a1)) rfl (some (.int a2)) rfl (some (.int a3)) rfl H h
    · replace h := qv_neg c14 h
      refine qv_run 3 (σ := (20, [some (.ref a0), some (.int a1), some (.int a2), some (.int a3), none], [.int 5, .int 0, .int a3], H)) rfl ?_
      refine qv_call [.int a3, .int 0, .int 5] rfl rfl rfl (Nat.le_of_ble_eq_true rfl) (th_X11_in (by omega) rfl) rfl ?_
      refine qv_br (c := (fm_X11_in a3 0 5) = 0) (a := (26, [some (.ref a0), some (.int a1), some (.int a2), some (.int a3), none], [], H)) (b := (32, [some (.ref a0), some (.int a1), some (.int a2), some (.int a3), none], [], H)) 1 rfl (fun c23 => ?_) (fun c23 => ?_)
      · replace h := qv_pos c23 h
        exact tb_X11_then_26 hd hR a0 (some (.int a1)) rfl (some (.int a2)) rfl (some (.int a3)) rfl H h
      · replace h := qv_neg c23 h
        refine qv_run 1 (σ := (33, [some (.ref a0), some (.int a1), some (.int a2), some (.int a3), none], [.ref a0], H)) rfl ?_
        obtain ⟨g33, h⟩ := qv_guard h
        obtain ⟨H33, e33, h⟩ := qv_bind h
        refine qv_callV [] rfl rfl rfl (Nat.le_of_ble_eq_true rfl) g33 (th_X11_layDown (by omega) e33) (tl_X11_layDown e33) ?_
        refine qv_run 2 (σ := (38, [some (.ref a0), some (.int a1), some (.int a2), some (.int a3), none], [.int a1, .ref a0], H33)) rfl ?_
        obtain ⟨g38, h⟩ := qv_guard h
        obtain ⟨H38, e38, h⟩ := qv_bind h
        refine qv_callV [.int a1] rfl rfl rfl (Nat.le_of_ble_eq_true rfl) g38 (th_X11_go (by omega) e38) (tl_X11_go e38) ?_
        refine qv_run 3 (σ := (44, [some (.ref a0), some (.int a1), some (.int a2), some (.int a3), none], [.int a3, .int a2, .ref a0], H38)) rfl ?_
        obtain ⟨g44, h⟩ := qv_guard h
        obtain ⟨v44, H44, e44, h⟩ := qv_bind2 h
        refine qv_callV [.int a2, .int a3] rfl rfl rfl (Nat.le_of_ble_eq_true rfl) g44 (th_X11_toldThread (by omega) e44) (tl_X11_toldThread e44) ?_
        refine qv_run 2 (σ := (50, [some (.ref a0), some (.int a1), some (.int a2), some (.int a3), some (.int v44)], [.ref a0], H44)) rfl ?_
        obtain ⟨g50, h⟩ := qv_guard h
        obtain ⟨H50, e50, h⟩ := qv_bind h
        refine qv_callV [] rfl rfl rfl (Nat.le_of_ble_eq_true rfl) g50 (th_X11_layBack (by omega) e50) (tl_X11_layBack e50) ?_
        refine qv_run 1 (σ := (55, [some (.ref a0), some (.int a1), some (.int a2), some (.int a3), some (.int v44)], [.int v44], H50)) rfl ?_
        obtain ⟨rfl, rfl⟩ := qv_pair h
        exact qv_reti rfl hR
theorem tlb_X11_then_0 {r : Int32} {H' : qx_H} (a0 : Nat) (a1 : Int32) (a2 : Int32) (a3 : Int32) (H : qx_H) (h : fm_X11_then a0 a1 a2 a3 H = some (r, H')) : H'.length = H.length := by
  unfold fm_X11_then at h
  by_cases c7 : (fm_X11_in a1 0 60) = 0
  · replace h := qv_pos c7 h
    exact tlb_X11_then_26 a0 H h
  · replace h := qv_neg c7 h
    by_cases c14 : (fm_X11_isThread a2) = 0
    · replace h := qv_pos c14 h
      exact tlb_X11_then_26 a0 H h
    · replace h := qv_neg c14 h
      by_cases c23 : (fm_X11_in a3 0 5) = 0
      · replace h := qv_pos c23 h
        exact tlb_X11_then_26 a0 H h
      · replace h := qv_neg c23 h
        obtain ⟨g33, h⟩ := qv_guard h
        obtain ⟨H33, e33, h⟩ := qv_bind h
        have q_H33 := tl_X11_layDown e33
        obtain ⟨g38, h⟩ := qv_guard h
        obtain ⟨H38, e38, h⟩ := qv_bind h
        have q_H38 := tl_X11_go e38
        obtain ⟨g44, h⟩ := qv_guard h
        obtain ⟨v44, H44, e44, h⟩ := qv_bind2 h
        have q_H44 := tl_X11_toldThread e44
        obtain ⟨g50, h⟩ := qv_guard h
        obtain ⟨H50, e50, h⟩ := qv_bind h
        have q_H50 := tl_X11_layBack e50
        obtain ⟨rfl, rfl⟩ := qv_pair h
        omega
theorem th_X11_then {st : xT} {d : Nat} (hd : 8 ≤ d) {a0 : Nat} {a1 : Int32} {a2 : Int32} {a3 : Int32} {H : qx_H} {r : Int32} {H' : qx_H} (h : fm_X11_then a0 a1 a2 a3 H = some (r, H')) : xE st d 204 [.ref a0, .int a1, .int a2, .int a3] H (some (.int r)) H' := by
  obtain ⟨d, rfl⟩ : ∃ d', d = d' + 1 := ⟨d - 1, by omega⟩
  exact xE_of (xe204 st) xl204 (Nat.le_of_ble_eq_true rfl) (ls := [some (.ref a0), some (.int a1), some (.int a2), some (.int a3), none]) rfl (tb_X11_then_0 (by omega) ⟨rfl, rfl⟩ a0 a1 a2 a3 H h)
theorem tl_X11_then {a0 : Nat} {a1 : Int32} {a2 : Int32} {a3 : Int32} {H : qx_H} {r : Int32} {H' : qx_H} (h : fm_X11_then a0 a1 a2 a3 H = some (r, H')) : H'.length = H.length := tlb_X11_then_0 a0 a1 a2 a3 H h
def fm_X11_goes_b19 (l0 : Nat) (H : qx_H) : Option (Int32 × qx_H) := if hp_is H l0 9 = true then (ob2 (fm_X11_error l0 1 H) fun v21 H21 => some (v21, H21)) else none
def fm_X11_goes_b61 (l0 : Nat) (l2 : Int32) (l3 : Int32) (l4 : Int32) (H : qx_H) : Option (Int32 × qx_H) := if hp_is H l0 9 = true then ((fm_X11_gone l0 H).bind fun v62 => (fm_X11_layBack l0 H).bind fun H72 => if (v62 &&& (l3 ^^^ (-1))) = 0 then (if hp_is H72 l0 9 = true then (ob2 (fm_X11_error l0 2 H72) fun v82 H82 => some (v82, H82)) else none) else (if l2 = 0 then ((fm_X11_least (v62 &&& (l3 ^^^ (-1))) H72).bind fun v92 => some (v92, H72)) else (some (l4, H72)))) else none
def fm_X11_goes_b37 : Nat → Nat → Int32 → Int32 → Int32 → Int32 → qx_H → Option (Int32 × qx_H)
  | 0, _, _, _, _, _, _ => none
  | n + 1, l0, l1, l2, l3, l4, H => if l1 ≤ l4 then (fm_X11_goes_b61 l0 l2 l3 l4 H) else (if hp_is H l0 9 = true then ((fm_X11_gone l0 H).bind fun v44 => if v44 = l3 then ((fm_X11_day l0 H).bind fun H52 => fm_X11_goes_b37 n l0 l1 l2 l3 (l4 + 1) H52) else (fm_X11_goes_b61 l0 l2 l3 l4 H)) else none)
def fm_X11_goes (a0 : Nat) (a1 : Int32) (a2 : Int32) (H : qx_H) : Option (Int32 × qx_H) := if (fm_X11_in a1 1 60) = 0 then (fm_X11_goes_b19 a0 H) else (if (fm_X11_in a2 0 1) = 0 then (fm_X11_goes_b19 a0 H) else (if hp_is H a0 9 = true then ((fm_X11_gone a0 H).bind fun v26 => (fm_X11_layDown a0 H).bind fun H31 => fm_X11_goes_b37 5000 a0 a1 a2 v26 0 H31) else none))
theorem tb_X11_goes_19 {st : xT} {d : Nat} {R : Option Value → qx_H → Prop} (hd : 6 ≤ d) {r : Int32} {H' : qx_H} (hR : R (some (.int r)) H') (l0 : Nat) (z1 : Option Value) (hz1 : qx_ns z1 = true) (z2 : Option Value) (hz2 : qx_ns z2 = true) (H : qx_H) (h : fm_X11_goes_b19 l0 H = some (r, H')) : qx_V (xE st d) R (xc205 st) (19, [some (.ref l0), z1, z2, none, none, none], [], H) := by
  unfold fm_X11_goes_b19 at h
  refine qv_run 2 (σ := (21, [some (.ref l0), z1, z2, none, none, none], [.int 1, .ref l0], H)) rfl ?_
  obtain ⟨g21, h⟩ := qv_guard h
  obtain ⟨v21, H21, e21, h⟩ := qv_bind2 h
  refine qv_callV [.int 1] rfl rfl rfl (Nat.le_of_ble_eq_true rfl) g21 (th_X11_error (by omega) e21) (tl_X11_error e21) ?_
  obtain ⟨rfl, rfl⟩ := qv_pair h
  exact qv_reti rfl hR
theorem tlb_X11_goes_19 {r : Int32} {H' : qx_H} (l0 : Nat) (H : qx_H) (h : fm_X11_goes_b19 l0 H = some (r, H')) : H'.length = H.length := by
  unfold fm_X11_goes_b19 at h
  obtain ⟨g21, h⟩ := qv_guard h
  obtain ⟨v21, H21, e21, h⟩ := qv_bind2 h
  have q_H21 := tl_X11_error e21
  obtain ⟨rfl, rfl⟩ := qv_pair h
  omega
theorem tb_X11_goes_61 {st : xT} {d : Nat} {R : Option Value → qx_H → Prop} (hd : 6 ≤ d) {r : Int32} {H' : qx_H} (hR : R (some (.int r)) H') (l0 : Nat) (l2 : Int32) (l3 : Int32) (l4 : Int32) (z1 : Option Value) (hz1 : qx_ns z1 = true) (H : qx_H) (h : fm_X11_goes_b61 l0 l2 l3 l4 H = some (r, H')) : qx_V (xE st d) R (xc205 st) (61, [some (.ref l0), z1, some (.int l2), some (.int l3), some (.int l4), none], [], H) := by
  unfold fm_X11_goes_b61 at h
  refine qv_run 1 (σ := (62, [some (.ref l0), z1, some (.int l2), some (.int l3), some (.int l4), none], [.ref l0], H)) rfl ?_
  obtain ⟨g62, h⟩ := qv_guard h
  obtain ⟨v62, e62, h⟩ := qv_bind h
  refine qv_callV [] rfl rfl rfl (Nat.le_of_ble_eq_true rfl) g62 (th_X11_gone (by omega) e62) rfl ?_
  refine qv_run 6 (σ := (72, [some (.ref l0), z1, some (.int l2), some (.int l3), some (.int l4), some (.int (v62 &&& (l3 ^^^ (-1))))], [.ref l0], H)) rfl ?_
  obtain ⟨H72, e72, h⟩ := qv_bind h
  refine qv_callV [] rfl rfl rfl (Nat.le_of_ble_eq_true rfl) g62 (th_X11_layBack (by omega) e72) (tl_X11_layBack e72) ?_
  refine qv_br (c := (v62 &&& (l3 ^^^ (-1))) = 0) (a := (80, [some (.ref l0), z1, some (.int l2), some (.int l3), some (.int l4), some (.int (v62 &&& (l3 ^^^ (-1))))], [], H72)) (b := (86, [some (.ref l0), z1, some (.int l2), some (.int l3), some (.int l4), some (.int (v62 &&& (l3 ^^^ (-1))))], [], H72)) 2 rfl (fun c77 => ?_) (fun c77 => ?_)
  · replace h := qv_pos c77 h
    refine qv_run 2 (σ := (82, [some (.ref l0), z1, some (.int l2), some (.int l3), some (.int l4), some (.int (v62 &&& (l3 ^^^ (-1))))], [.int 2, .ref l0], H72)) rfl ?_
    obtain ⟨g82, h⟩ := qv_guard h
    obtain ⟨v82, H82, e82, h⟩ := qv_bind2 h
    refine qv_callV [.int 2] rfl rfl rfl (Nat.le_of_ble_eq_true rfl) g82 (th_X11_error (by omega) e82) (tl_X11_error e82) ?_
    obtain ⟨rfl, rfl⟩ := qv_pair h
    exact qv_reti rfl hR
  · replace h := qv_neg c77 h
    refine qv_br (c := l2 = 0) (a := (90, [some (.ref l0), z1, some (.int l2), some (.int l3), some (.int l4), some (.int (v62 &&& (l3 ^^^ (-1))))], [], H72)) (b := (98, [some (.ref l0), z1, some (.int l2), some (.int l3), some (.int l4), some (.int (v62 &&& (l3 ^^^ (-1))))], [], H72)) 2 rfl (fun c87 => ?_) (fun c87 => ?_)
    · replace h := qv_pos c87 h
      refine qv_run 1 (σ := (92, [some (.ref l0), z1, some (.int l2), some (.int l3), some (.int l4), some (.int (v62 &&& (l3 ^^^ (-1))))], [.int (v62 &&& (l3 ^^^ (-1)))], H72)) rfl ?_
      obtain ⟨v92, e92, h⟩ := qv_bind h
      refine qv_call [.int (v62 &&& (l3 ^^^ (-1)))] rfl rfl rfl (Nat.le_of_ble_eq_true rfl) (th_X11_least (by omega) e92) rfl ?_
      refine qv_run 1 (σ := (100, [some (.ref l0), z1, some (.int l2), some (.int l3), some (.int l4), some (.int (v62 &&& (l3 ^^^ (-1))))], [.int v92], H72)) rfl ?_
      obtain ⟨rfl, rfl⟩ := qv_pair h
      exact qv_reti rfl hR
    · replace h := qv_neg c87 h
      refine qv_run 1 (σ := (100, [some (.ref l0), z1, some (.int l2), some (.int l3), some (.int l4), some (.int (v62 &&& (l3 ^^^ (-1))))], [.int l4], H72)) rfl ?_
      obtain ⟨rfl, rfl⟩ := qv_pair h
      exact qv_reti rfl hR
theorem tlb_X11_goes_61 {r : Int32} {H' : qx_H} (l0 : Nat) (l2 : Int32) (l3 : Int32) (l4 : Int32) (H : qx_H) (h : fm_X11_goes_b61 l0 l2 l3 l4 H = some (r, H')) : H'.length = H.length := by
  unfold fm_X11_goes_b61 at h
  obtain ⟨g62, h⟩ := qv_guard h
  obtain ⟨v62, e62, h⟩ := qv_bind h
  obtain ⟨H72, e72, h⟩ := qv_bind h
  have q_H72 := tl_X11_layBack e72
  by_cases c77 : (v62 &&& (l3 ^^^ (-1))) = 0
  · replace h := qv_pos c77 h
    obtain ⟨g82, h⟩ := qv_guard h
    obtain ⟨v82, H82, e82, h⟩ := qv_bind2 h
    have q_H82 := tl_X11_error e82
    obtain ⟨rfl, rfl⟩ := qv_pair h
    omega
  · replace h := qv_neg c77 h
    by_cases c87 : l2 = 0
    · replace h := qv_pos c87 h
      obtain ⟨v92, e92, h⟩ := qv_bind h
      obtain ⟨rfl, rfl⟩ := qv_pair h
      omega
    · replace h := qv_neg c87 h
      obtain ⟨rfl, rfl⟩ := qv_pair h
      omega
theorem tb_X11_goes_37 {st : xT} {d : Nat} {R : Option Value → qx_H → Prop} (hd : 6 ≤ d) {r : Int32} {H' : qx_H} (hR : R (some (.int r)) H') : ∀ (n : Nat) (l0 : Nat) (l1 : Int32) (l2 : Int32) (l3 : Int32) (l4 : Int32) (H : qx_H) (h : fm_X11_goes_b37 n l0 l1 l2 l3 l4 H = some (r, H')), qx_V (xE st d) R (xc205 st) (37, [some (.ref l0), some (.int l1), some (.int l2), some (.int l3), some (.int l4), none], [], H) := by
  intro n
  induction n with
  | zero => intro l0 l1 l2 l3 l4 H h; exact nomatch (show (none : Option (Int32 × qx_H)) = some (r, H') from h)
  | succ n ih =>
    intro l0 l1 l2 l3 l4 H h
    unfold fm_X11_goes_b37 at h
    refine qv_br (c := l1 ≤ l4) (a := (61, [some (.ref l0), some (.int l1), some (.int l2), some (.int l3), some (.int l4), none], [], H)) (b := (43, [some (.ref l0), some (.int l1), some (.int l2), some (.int l3), some (.int l4), none], [], H)) 3 rfl (fun c40 => ?_) (fun c40 => ?_)
    · replace h := qv_pos c40 h
      exact tb_X11_goes_61 hd hR l0 l2 l3 l4 (some (.int l1)) rfl H h
    · replace h := qv_neg c40 h
      refine qv_run 1 (σ := (44, [some (.ref l0), some (.int l1), some (.int l2), some (.int l3), some (.int l4), none], [.ref l0], H)) rfl ?_
      obtain ⟨g44, h⟩ := qv_guard h
      obtain ⟨v44, e44, h⟩ := qv_bind h
      refine qv_callV [] rfl rfl rfl (Nat.le_of_ble_eq_true rfl) g44 (th_X11_gone (by omega) e44) rfl ?_
      refine qv_br (c := v44 = l3) (a := (51, [some (.ref l0), some (.int l1), some (.int l2), some (.int l3), some (.int l4), none], [], H)) (b := (61, [some (.ref l0), some (.int l1), some (.int l2), some (.int l3), some (.int l4), none], [], H)) 2 rfl (fun c48 => ?_) (fun c48 => ?_)
      · replace h := qv_pos c48 h
        refine qv_run 1 (σ := (52, [some (.ref l0), some (.int l1), some (.int l2), some (.int l3), some (.int l4), none], [.ref l0], H)) rfl ?_
        obtain ⟨H52, e52, h⟩ := qv_bind h
        refine qv_callV [] rfl rfl rfl (Nat.le_of_ble_eq_true rfl) g44 (th_X11_day (by omega) e52) (tl_X11_day e52) ?_
        refine qv_run 2 (σ := (37, [some (.ref l0), some (.int l1), some (.int l2), some (.int l3), some (.int (l4 + 1)), none], [], H52)) rfl ?_
        exact ih l0 l1 l2 l3 (l4 + 1) H52 h
      · replace h := qv_neg c48 h
        exact tb_X11_goes_61 hd hR l0 l2 l3 l4 (some (.int l1)) rfl H h
theorem tlb_X11_goes_37 {r : Int32} {H' : qx_H} : ∀ (n : Nat) (l0 : Nat) (l1 : Int32) (l2 : Int32) (l3 : Int32) (l4 : Int32) (H : qx_H) (h : fm_X11_goes_b37 n l0 l1 l2 l3 l4 H = some (r, H')), H'.length = H.length := by
  intro n
  induction n with
  | zero => intro l0 l1 l2 l3 l4 H h; exact nomatch (show (none : Option (Int32 × qx_H)) = some (r, H') from h)
  | succ n ih =>
    intro l0 l1 l2 l3 l4 H h
    unfold fm_X11_goes_b37 at h
    by_cases c40 : l1 ≤ l4
    · replace h := qv_pos c40 h
      exact tlb_X11_goes_61 l0 l2 l3 l4 H h
    · replace h := qv_neg c40 h
      obtain ⟨g44, h⟩ := qv_guard h
      obtain ⟨v44, e44, h⟩ := qv_bind h
      by_cases c48 : v44 = l3
      · replace h := qv_pos c48 h
        obtain ⟨H52, e52, h⟩ := qv_bind h
        have q_H52 := tl_X11_day e52
        have q_end := ih l0 l1 l2 l3 (l4 + 1) H52 h
        omega
      · replace h := qv_neg c48 h
        exact tlb_X11_goes_61 l0 l2 l3 l4 H h
theorem tb_X11_goes_0 {st : xT} {d : Nat} {R : Option Value → qx_H → Prop} (hd : 6 ≤ d) {r : Int32} {H' : qx_H} (hR : R (some (.int r)) H') (a0 : Nat) (a1 : Int32) (a2 : Int32) (H : qx_H) (h : fm_X11_goes a0 a1 a2 H = some (r, H')) : qx_V (xE st d) R (xc205 st) (0, [some (.ref a0), some (.int a1), some (.int a2), none, none, none], [], H) := by
  unfold fm_X11_goes at h
  refine qv_run 3 (σ := (4, [some (.ref a0), some (.int a1), some (.int a2), none, none, none], [.int 60, .int 1, .int a1], H)) rfl ?_
  refine qv_call [.int a1, .int 1, .int 60] rfl rfl rfl (Nat.le_of_ble_eq_true rfl) (th_X11_in (by omega) rfl) rfl ?_
  refine qv_br (c := (fm_X11_in a1 1 60) = 0) (a := (19, [some (.ref a0), some (.int a1), some (.int a2), none, none, none], [], H)) (b := (10, [some (.ref a0), some (.int a1), some (.int a2), none, none, none], [], H)) 1 rfl (fun c7 => ?_) (fun c7 => ?_)
  · replace h := qv_pos c7 h
    exact tb_X11_goes_19 hd hR a0 (some (.int a1)) rfl (some (.int a2)) rfl H h
  · replace h := qv_neg c7 h
    refine qv_run 3 (σ := (13, [some (.ref a0), some (.int a1), some (.int a2), none, none, none], [.int 1, .int 0, .int a2], H)) rfl ?_
    refine qv_call [.int a2, .int 0, .int 1] rfl rfl rfl (Nat.le_of_ble_eq_true rfl) (th_X11_in (by omega) rfl) rfl ?_
    refine qv_br (c := (fm_X11_in a2 0 1) = 0) (a := (19, [some (.ref a0), some (.int a1), some (.int a2), none, none, none], [], H)) (b := (25, [some (.ref a0), some (.int a1), some (.int a2), none, none, none], [], H)) 1 rfl (fun c16 => ?_) (fun c16 => ?_)
    · replace h := qv_pos c16 h
      exact tb_X11_goes_19 hd hR a0 (some (.int a1)) rfl (some (.int a2)) rfl H h
    · replace h := qv_neg c16 h
      refine qv_run 1 (σ := (26, [some (.ref a0), some (.int a1), some (.int a2), none, none, none], [.ref a0], H)) rfl ?_
      obtain ⟨g26, h⟩ := qv_guard h
      obtain ⟨v26, e26, h⟩ := qv_bind h
      refine qv_callV [] rfl rfl rfl (Nat.le_of_ble_eq_true rfl) g26 (th_X11_gone (by omega) e26) rfl ?_
      refine qv_run 2 (σ := (31, [some (.ref a0), some (.int a1), some (.int a2), some (.int v26), none, none], [.ref a0], H)) rfl ?_
      obtain ⟨H31, e31, h⟩ := qv_bind h
      refine qv_callV [] rfl rfl rfl (Nat.le_of_ble_eq_true rfl) g26 (th_X11_layDown (by omega) e31) (tl_X11_layDown e31) ?_
      refine qv_run 2 (σ := (37, [some (.ref a0), some (.int a1), some (.int a2), some (.int v26), some (.int 0), none], [], H31)) rfl ?_
      exact tb_X11_goes_37 hd hR 5000 a0 a1 a2 v26 0 H31 h
theorem tlb_X11_goes_0 {r : Int32} {H' : qx_H} (a0 : Nat) (a1 : Int32) (a2 : Int32) (H : qx_H) (h : fm_X11_goes a0 a1 a2 H = some (r, H')) : H'.length = H.length := by
  unfold fm_X11_goes at h
  by_cases c7 : (fm_X11_in a1 1 60) = 0
  · replace h := qv_pos c7 h
    exact tlb_X11_goes_19 a0 H h
  · replace h := qv_neg c7 h
    by_cases c16 : (fm_X11_in a2 0 1) = 0
    · replace h := qv_pos c16 h
      exact tlb_X11_goes_19 a0 H h
    · replace h := qv_neg c16 h
      obtain ⟨g26, h⟩ := qv_guard h
      obtain ⟨v26, e26, h⟩ := qv_bind h
      obtain ⟨H31, e31, h⟩ := qv_bind h
      have q_H31 := tl_X11_layDown e31
      have q_end := tlb_X11_goes_37 5000 a0 a1 a2 v26 0 H31 h
      omega
theorem th_X11_goes {st : xT} {d : Nat} (hd : 7 ≤ d) {a0 : Nat} {a1 : Int32} {a2 : Int32} {H : qx_H} {r : Int32} {H' : qx_H} (h : fm_X11_goes a0 a1 a2 H = some (r, H')) : xE st d 205 [.ref a0, .int a1, .int a2] H (some (.int r)) H' := by
  obtain ⟨d, rfl⟩ : ∃ d', d = d' + 1 := ⟨d - 1, by omega⟩
  exact xE_of (xe205 st) xl205 (Nat.le_of_ble_eq_true rfl) (ls := [some (.ref a0), some (.int a1), some (.int a2), none, none, none]) rfl (tb_X11_goes_0 (by omega) ⟨rfl, rfl⟩ a0 a1 a2 H h)
theorem tl_X11_goes {a0 : Nat} {a1 : Int32} {a2 : Int32} {H : qx_H} {r : Int32} {H' : qx_H} (h : fm_X11_goes a0 a1 a2 H = some (r, H')) : H'.length = H.length := tlb_X11_goes_0 a0 a1 a2 H h
def fm_X11_mendAhead_b19 (l0 : Nat) (H : qx_H) : Option (Int32 × qx_H) := if hp_is H l0 9 = true then (ob2 (fm_X11_error l0 1 H) fun v21 H21 => some (v21, H21)) else none
def fm_X11_mendAhead_b93 (k37 : Nat → Int32 → Int32 → Int32 → Int32 → Int32 → qx_H → Option (Int32 × qx_H)) (l0 : Nat) (l1 : Int32) (l2 : Int32) (l3 : Int32) (l4 : Int32) (l5 : Int32) (H : qx_H) : Option (Int32 × qx_H) := k37 l0 l1 l2 l3 l4 (l5 + 1) H
def fm_X11_mendAhead_b86 (k37 : Nat → Int32 → Int32 → Int32 → Int32 → Int32 → qx_H → Option (Int32 × qx_H)) (l0 : Nat) (l1 : Int32) (l2 : Int32) (l5 : Int32) (l6 : Int32) (H : qx_H) : Option (Int32 × qx_H) := fm_X11_mendAhead_b93 k37 l0 l1 l2 l5 l6 l5 H
def fm_X11_mendAhead_b37 : Nat → Nat → Int32 → Int32 → Int32 → Int32 → Int32 → qx_H → Option (Int32 × qx_H)
  | 0, _, _, _, _, _, _, _ => none
  | n + 1, l0, l1, l2, l3, l4, l5, H => if 31 ≤ l5 then (if l3 = (-1) then (if hp_is H l0 9 = true then (ob2 (fm_X11_error l0 2 H) fun v106 H106 => some (v106, H106)) else none) else (if l2 = 0 then (some (l3, H)) else (some (l4, H)))) else (if hp_is H l0 9 = true then ((fm_X11_isMissing l0 l5 H).bind fun v47 => if v47 = 0 then ((fm_X11_renews l0 l5 H).bind fun H56 => if hp_is H56 l0 9 = true then ((fm_X11_go l0 l1 H56).bind fun H61 => if hp_is H61 l0 9 = true then ((fm_X11_missing l0 H61).bind fun v65 => (fm_X11_layBack l0 H61).bind fun H71 => if l3 = (-1) then (fm_X11_mendAhead_b86 (fm_X11_mendAhead_b37 n) l0 l1 l2 l5 v65 H71) else (fm_X11_mendAhead_b93 (fm_X11_mendAhead_b37 n) l0 l1 l2 (if l4 ≤ v65 then l3 else l5) (if l4 ≤ v65 then l4 else v65) l5 H71)) else none) else none) else (fm_X11_mendAhead_b93 (fm_X11_mendAhead_b37 n) l0 l1 l2 l3 l4 l5 H)) else none)
def fm_X11_mendAhead (a0 : Nat) (a1 : Int32) (a2 : Int32) (H : qx_H) : Option (Int32 × qx_H) := if (fm_X11_in a1 1 60) = 0 then (fm_X11_mendAhead_b19 a0 H) else (if (fm_X11_in a2 0 1) = 0 then (fm_X11_mendAhead_b19 a0 H) else (if hp_is H a0 9 = true then ((fm_X11_layDown a0 H).bind fun H31 => fm_X11_mendAhead_b37 5000 a0 a1 a2 (-1) 0 0 H31) else none))
theorem tb_X11_mendAhead_19 {st : xT} {d : Nat} {R : Option Value → qx_H → Prop} (hd : 7 ≤ d) {r : Int32} {H' : qx_H} (hR : R (some (.int r)) H') (l0 : Nat) (z1 : Option Value) (hz1 : qx_ns z1 = true) (z2 : Option Value) (hz2 : qx_ns z2 = true) (H : qx_H) (h : fm_X11_mendAhead_b19 l0 H = some (r, H')) : qx_V (xE st d) R (xc206 st) (19, [some (.ref l0), z1, z2, none, none, none, none], [], H) := by
  unfold fm_X11_mendAhead_b19 at h
  refine qv_run 2 (σ := (21, [some (.ref l0), z1, z2, none, none, none, none], [.int 1, .ref l0], H)) rfl ?_
  obtain ⟨g21, h⟩ := qv_guard h
  obtain ⟨v21, H21, e21, h⟩ := qv_bind2 h
  refine qv_callV [.int 1] rfl rfl rfl (Nat.le_of_ble_eq_true rfl) g21 (th_X11_error (by omega) e21) (tl_X11_error e21) ?_
  obtain ⟨rfl, rfl⟩ := qv_pair h
  exact qv_reti rfl hR
theorem tlb_X11_mendAhead_19 {r : Int32} {H' : qx_H} (l0 : Nat) (H : qx_H) (h : fm_X11_mendAhead_b19 l0 H = some (r, H')) : H'.length = H.length := by
  unfold fm_X11_mendAhead_b19 at h
  obtain ⟨g21, h⟩ := qv_guard h
  obtain ⟨v21, H21, e21, h⟩ := qv_bind2 h
  have q_H21 := tl_X11_error e21
  obtain ⟨rfl, rfl⟩ := qv_pair h
  omega
theorem tb_X11_mendAhead_93 {st : xT} {d : Nat} {R : Option Value → qx_H → Prop} (hd : 7 ≤ d) {r : Int32} {H' : qx_H} (k37 : Nat → Int32 → Int32 → Int32 → Int32 → Int32 → qx_H → Option (Int32 × qx_H)) (hk37 : ∀ (l0 : Nat) (l1 : Int32) (l2 : Int32) (l3 : Int32) (l4 : Int32) (l5 : Int32) (z6 : Option Value) (hz6 : qx_ns z6 = true) (H : qx_H), k37 l0 l1 l2 l3 l4 l5 H = some (r, H') → qx_V (xE st d) R (xc206 st) (37, [some (.ref l0), some (.int l1), some (.int l2), some (.int l3), some (.int l4), some (.int l5), z6], [], H)) (hR : R (some (.int r)) H') (l0 : Nat) (l1 : Int32) (l2 : Int32) (l3 : Int32) (l4 : Int32) (l5 : Int32) (z6 : Option Value) (hz6 : qx_ns z6 = true) (H : qx_H) (h : fm_X11_mendAhead_b93 k37 l0 l1 l2 l3 l4 l5 H = some (r, H')) : qx_V (xE st d) R (xc206 st) (93, [some (.ref l0), some (.int l1), some (.int l2), some (.int l3), some (.int l4), some (.int l5), z6], [], H) := by
  unfold fm_X11_mendAhead_b93 at h
  refine qv_run 2 (σ := (37, [some (.ref l0), some (.int l1), some (.int l2), some (.int l3), some (.int l4), some (.int (l5 + 1)), z6], [], H)) rfl ?_
  exact hk37 l0 l1 l2 l3 l4 (l5 + 1) z6 hz6 H h
theorem tlb_X11_mendAhead_93 {r : Int32} {H' : qx_H} (k37 : Nat → Int32 → Int32 → Int32 → Int32 → Int32 → qx_H → Option (Int32 × qx_H)) (hk37 : ∀ (l0 : Nat) (l1 : Int32) (l2 : Int32) (l3 : Int32) (l4 : Int32) (l5 : Int32) (H : qx_H), k37 l0 l1 l2 l3 l4 l5 H = some (r, H') → H'.length = H.length) (l0 : Nat) (l1 : Int32) (l2 : Int32) (l3 : Int32) (l4 : Int32) (l5 : Int32) (H : qx_H) (h : fm_X11_mendAhead_b93 k37 l0 l1 l2 l3 l4 l5 H = some (r, H')) : H'.length = H.length := by
  unfold fm_X11_mendAhead_b93 at h
  exact hk37 l0 l1 l2 l3 l4 (l5 + 1) H h
theorem tb_X11_mendAhead_86 {st : xT} {d : Nat} {R : Option Value → qx_H → Prop} (hd : 7 ≤ d) {r : Int32} {H' : qx_H} (k37 : Nat → Int32 → Int32 → Int32 → Int32 → Int32 → qx_H → Option (Int32 × qx_H)) (hk37 : ∀ (l0 : Nat) (l1 : Int32) (l2 : Int32) (l3 : Int32) (l4 : Int32) (l5 : Int32) (z6 : Option Value) (hz6 : qx_ns z6 = true) (H : qx_H), k37 l0 l1 l2 l3 l4 l5 H = some (r, H') → qx_V (xE st d) R (xc206 st) (37, [some (.ref l0), some (.int l1), some (.int l2), some (.int l3), some (.int l4), some (.int l5), z6], [], H)) (hR : R (some (.int r)) H') (l0 : Nat) (l1 : Int32) (l2 : Int32) (l5 : Int32) (l6 : Int32) (z3 : Option Value) (hz3 : qx_ns z3 = true) (z4 : Option Value) (hz4 : qx_ns z4 = true) (H : qx_H) (h : fm_X11_mendAhead_b86 k37 l0 l1 l2 l5 l6 H = some (r, H')) : qx_V (xE st d) R (xc206 st) (86, [some (.ref l0), some (.int l1), some (.int l2), z3, z4, some (.int l5), some (.int l6)], [], H) := by
  unfold fm_X11_mendAhead_b86 at h
  refine qv_run 4 (σ := (93, [some (.ref l0), some (.int l1), some (.int l2), some (.int l5), some (.int l6), some (.int l5), some (.int l6)], [], H)) rfl ?_
  exact tb_X11_mendAhead_93 hd _ hk37 hR l0 l1 l2 l5 l6 l5 (some (.int l6)) rfl H h
theorem tlb_X11_mendAhead_86 {r : Int32} {H' : qx_H} (k37 : Nat → Int32 → Int32 → Int32 → Int32 → Int32 → qx_H → Option (Int32 × qx_H)) (hk37 : ∀ (l0 : Nat) (l1 : Int32) (l2 : Int32) (l3 : Int32) (l4 : Int32) (l5 : Int32) (H : qx_H), k37 l0 l1 l2 l3 l4 l5 H = some (r, H') → H'.length = H.length) (l0 : Nat) (l1 : Int32) (l2 : Int32) (l5 : Int32) (l6 : Int32) (H : qx_H) (h : fm_X11_mendAhead_b86 k37 l0 l1 l2 l5 l6 H = some (r, H')) : H'.length = H.length := by
  unfold fm_X11_mendAhead_b86 at h
  exact tlb_X11_mendAhead_93 _ hk37 l0 l1 l2 l5 l6 l5 H h
theorem tb_X11_mendAhead_37 {st : xT} {d : Nat} {R : Option Value → qx_H → Prop} (hd : 7 ≤ d) {r : Int32} {H' : qx_H} (hR : R (some (.int r)) H') : ∀ (n : Nat) (l0 : Nat) (l1 : Int32) (l2 : Int32) (l3 : Int32) (l4 : Int32) (l5 : Int32) (z6 : Option Value) (hz6 : qx_ns z6 = true) (H : qx_H) (h : fm_X11_mendAhead_b37 n l0 l1 l2 l3 l4 l5 H = some (r, H')), qx_V (xE st d) R (xc206 st) (37, [some (.ref l0), some (.int l1), some (.int l2), some (.int l3), some (.int l4), some (.int l5), z6], [], H) := by
  intro n
  induction n with
  | zero => intro l0 l1 l2 l3 l4 l5 z6 hz6 H h; exact nomatch (show (none : Option (Int32 × qx_H)) = some (r, H') from h)
  | succ n ih =>
    intro l0 l1 l2 l3 l4 l5 z6 hz6 H h
    unfold fm_X11_mendAhead_b37 at h
    refine qv_br (c := 31 ≤ l5) (a := (99, [some (.ref l0), some (.int l1), some (.int l2), some (.int l3), some (.int l4), some (.int l5), z6], [], H)) (b := (44, [some (.ref l0), some (.int l1), some (.int l2), some (.int l3), some (.int l4), some (.int l5), z6], [], H)) 3 rfl (fun c41 => ?_) (fun c41 => ?_)
    · replace h := qv_pos c41 h
      refine qv_br (c := l3 = (-1)) (a := (104, [some (.ref l0), some (.int l1), some (.int l2), some (.int l3), some (.int l4), some (.int l5), z6], [], H)) (b := (112, [some (.ref l0), some (.int l1), some (.int l2), some (.int l3), some (.int l4), some (.int l5), z6], [], H)) 3 rfl (fun c101 => ?_) (fun c101 => ?_)
      · replace h := qv_pos c101 h
        refine qv_run 2 (σ := (106, [some (.ref l0), some (.int l1), some (.int l2), some (.int l3), some (.int l4), some (.int l5), z6], [.int 2, .ref l0], H)) rfl ?_
        obtain ⟨g106, h⟩ := qv_guard h
        obtain ⟨v106, H106, e106, h⟩ := qv_bind2 h
        refine qv_callV [.int 2] rfl rfl rfl (Nat.le_of_ble_eq_true rfl) g106 (th_X11_error (by omega) e106) (tl_X11_error e106) ?_
        refine qv_run 1 (σ := (122, [some (.ref l0), some (.int l1), some (.int l2), some (.int l3), some (.int l4), some (.int l5), z6], [.int v106], H106)) rfl ?_
        obtain ⟨rfl, rfl⟩ := qv_pair h
        exact qv_reti rfl hR
      · replace h := qv_neg c101 h
        refine qv_br (c := l2 = 0) (a := (116, [some (.ref l0), some (.int l1), some (.int l2), some (.int l3), some (.int l4), some (.int l5), z6], [], H)) (b := (120, [some (.ref l0), some (.int l1), some (.int l2), some (.int l3), some (.int l4), some (.int l5), z6], [], H)) 2 rfl (fun c113 => ?_) (fun c113 => ?_)
        · replace h := qv_pos c113 h
          refine qv_run 2 (σ := (122, [some (.ref l0), some (.int l1), some (.int l2), some (.int l3), some (.int l4), some (.int l5), z6], [.int l3], H)) rfl ?_
          obtain ⟨rfl, rfl⟩ := qv_pair h
          exact qv_reti rfl hR
        · replace h := qv_neg c113 h
          refine qv_run 1 (σ := (122, [some (.ref l0), some (.int l1), some (.int l2), some (.int l3), some (.int l4), some (.int l5), z6], [.int l4], H)) rfl ?_
          obtain ⟨rfl, rfl⟩ := qv_pair h
          exact qv_reti rfl hR
    · replace h := qv_neg c41 h
      refine qv_run 2 (σ := (47, [some (.ref l0), some (.int l1), some (.int l2), some (.int l3), some (.int l4), some (.int l5), z6], [.int l5, .ref l0], H)) rfl ?_
      obtain ⟨g47, h⟩ := qv_guard h
      obtain ⟨v47, e47, h⟩ := qv_bind h
      refine qv_callV [.int l5] rfl rfl rfl (Nat.le_of_ble_eq_true rfl) g47 (th_X11_isMissing (by omega) e47) rfl ?_
      refine qv_br (c := v47 = 0) (a := (53, [some (.ref l0), some (.int l1), some (.int l2), some (.int l3), some (.int l4), some (.int l5), z6], [], H)) (b := (93, [some (.ref l0), some (.int l1), some (.int l2), some (.int l3), some (.int l4), some (.int l5), z6], [], H)) 1 rfl (fun c50 => ?_) (fun c50 => ?_)
      · replace h := qv_pos c50 h
        refine qv_run 2 (σ := (56, [some (.ref l0), some (.int l1), some (.int l2), some (.int l3), some (.int l4), some (.int l5), z6], [.int l5, .ref l0], H)) rfl ?_
        obtain ⟨H56, e56, h⟩ := qv_bind h
        refine qv_callV [.int l5] rfl rfl rfl (Nat.le_of_ble_eq_true rfl) g47 (th_X11_renews (by omega) e56) (tl_X11_renews e56) ?_
        refine qv_run 2 (σ := (61, [some (.ref l0), some (.int l1), some (.int l2), some (.int l3), some (.int l4), some (.int l5), z6], [.int l1, .ref l0], H56)) rfl ?_
        obtain ⟨g61, h⟩ := qv_guard h
        obtain ⟨H61, e61, h⟩ := qv_bind h
        refine qv_callV [.int l1] rfl rfl rfl (Nat.le_of_ble_eq_true rfl) g61 (th_X11_go (by omega) e61) (tl_X11_go e61) ?_
        refine qv_run 1 (σ := (65, [some (.ref l0), some (.int l1), some (.int l2), some (.int l3), some (.int l4), some (.int l5), z6], [.ref l0], H61)) rfl ?_
        obtain ⟨g65, h⟩ := qv_guard h
        obtain ⟨v65, e65, h⟩ := qv_bind h
        refine qv_callV [] rfl rfl rfl (Nat.le_of_ble_eq_true rfl) g65 (th_X11_missing (by omega) e65) rfl ?_
        refine qv_run 2 (σ := (71, [some (.ref l0), some (.int l1), some (.int l2), some (.int l3), some (.int l4), some (.int l5), some (.int v65)], [.ref l0], H61)) rfl ?_
        obtain ⟨H71, e71, h⟩ := qv_bind h
        refine qv_callV [] rfl rfl rfl (Nat.le_of_ble_eq_true rfl) g65 (th_X11_layBack (by omega) e71) (tl_X11_layBack e71) ?_
        refine qv_br (c := l3 = (-1)) (a := (86, [some (.ref l0), some (.int l1), some (.int l2), some (.int l3), some (.int l4), some (.int l5), some (.int v65)], [], H71)) (b := (79, [some (.ref l0), some (.int l1), some (.int l2), some (.int l3), some (.int l4), some (.int l5), some (.int v65)], [], H71)) 3 rfl (fun c76 => ?_) (fun c76 => ?_)
        · replace h := qv_pos c76 h
          exact tb_X11_mendAhead_86 hd _ ih hR l0 l1 l2 l5 v65 (some (.int l3)) rfl (some (.int l4)) rfl H71 h
        · replace h := qv_neg c76 h
          refine qv_dia (c := l4 ≤ v65) (a := (93, [some (.ref l0), some (.int l1), some (.int l2), some (.int l3), some (.int l4), some (.int l5), some (.int v65)], [], H71)) (b := (86, [some (.ref l0), some (.int l1), some (.int l2), some (.int l3), some (.int l4), some (.int l5), some (.int v65)], [], H71)) (σ' := (93, [some (.ref l0), some (.int l1), some (.int l2), some (.int (if l4 ≤ v65 then l3 else l5)), some (.int (if l4 ≤ v65 then l4 else v65)), some (.int l5), some (.int v65)], [], H71)) 3 rfl ?_ (fun c83 kk => qv_run 0 (σ := (93, [some (.ref l0), some (.int l1), some (.int l2), some (.int l3), some (.int l4), some (.int l5), some (.int v65)], [], H71)) rfl (qv_eq (by simp only [if_pos c83]) kk)) (fun c83 kk => qv_run 4 (σ := (93, [some (.ref l0), some (.int l1), some (.int l2), some (.int l5), some (.int v65), some (.int l5), some (.int v65)], [], H71)) rfl (qv_eq (by simp only [if_neg c83]) kk))
          exact tb_X11_mendAhead_93 hd _ ih hR l0 l1 l2 (if l4 ≤ v65 then l3 else l5) (if l4 ≤ v65 then l4 else v65) l5 (some (.int v65)) rfl H71 h
      · replace h := qv_neg c50 h
        exact tb_X11_mendAhead_93 hd _ ih hR l0 l1 l2 l3 l4 l5 z6 hz6 H h
theorem tlb_X11_mendAhead_37 {r : Int32} {H' : qx_H} : ∀ (n : Nat) (l0 : Nat) (l1 : Int32) (l2 : Int32) (l3 : Int32) (l4 : Int32) (l5 : Int32) (H : qx_H) (h : fm_X11_mendAhead_b37 n l0 l1 l2 l3 l4 l5 H = some (r, H')), H'.length = H.length := by
  intro n
  induction n with
  | zero => intro l0 l1 l2 l3 l4 l5 H h; exact nomatch (show (none : Option (Int32 × qx_H)) = some (r, H') from h)
  | succ n ih =>
    intro l0 l1 l2 l3 l4 l5 H h
    unfold fm_X11_mendAhead_b37 at h
    by_cases c41 : 31 ≤ l5
    · replace h := qv_pos c41 h
      by_cases c101 : l3 = (-1)
      · replace h := qv_pos c101 h
        obtain ⟨g106, h⟩ := qv_guard h
        obtain ⟨v106, H106, e106, h⟩ := qv_bind2 h
        have q_H106 := tl_X11_error e106
        obtain ⟨rfl, rfl⟩ := qv_pair h
        omega
      · replace h := qv_neg c101 h
        by_cases c113 : l2 = 0
        · replace h := qv_pos c113 h
          obtain ⟨rfl, rfl⟩ := qv_pair h
          rfl
        · replace h := qv_neg c113 h
          obtain ⟨rfl, rfl⟩ := qv_pair h
          rfl
    · replace h := qv_neg c41 h
      obtain ⟨g47, h⟩ := qv_guard h
      obtain ⟨v47, e47, h⟩ := qv_bind h
      by_cases c50 : v47 = 0
      · replace h := qv_pos c50 h
        obtain ⟨H56, e56, h⟩ := qv_bind h
        have q_H56 := tl_X11_renews e56
        obtain ⟨g61, h⟩ := qv_guard h
        obtain ⟨H61, e61, h⟩ := qv_bind h
        have q_H61 := tl_X11_go e61
        obtain ⟨g65, h⟩ := qv_guard h
        obtain ⟨v65, e65, h⟩ := qv_bind h
        obtain ⟨H71, e71, h⟩ := qv_bind h
        have q_H71 := tl_X11_layBack e71
        by_cases c76 : l3 = (-1)
        · replace h := qv_pos c76 h
          have q_end := tlb_X11_mendAhead_86 _ ih l0 l1 l2 l5 v65 H71 h
          omega
        · replace h := qv_neg c76 h
          have q_end := tlb_X11_mendAhead_93 _ ih l0 l1 l2 (if l4 ≤ v65 then l3 else l5) (if l4 ≤ v65 then l4 else v65) l5 H71 h
          omega
      · replace h := qv_neg c50 h
        exact tlb_X11_mendAhead_93 _ ih l0 l1 l2 l3 l4 l5 H h
theorem tb_X11_mendAhead_0 {st : xT} {d : Nat} {R : Option Value → qx_H → Prop} (hd : 7 ≤ d) {r : Int32} {H' : qx_H} (hR : R (some (.int r)) H') (a0 : Nat) (a1 : Int32) (a2 : Int32) (H : qx_H) (h : fm_X11_mendAhead a0 a1 a2 H = some (r, H')) : qx_V (xE st d) R (xc206 st) (0, [some (.ref a0), some (.int a1), some (.int a2), none, none, none, none], [], H) := by
  unfold fm_X11_mendAhead at h
  refine qv_run 3 (σ := (4, [some (.ref a0), some (.int a1), some (.int a2), none, none, none, none], [.int 60, .int 1, .int a1], H)) rfl ?_
  refine qv_call [.int a1, .int 1, .int 60] rfl rfl rfl (Nat.le_of_ble_eq_true rfl) (th_X11_in (by omega) rfl) rfl ?_
  refine qv_br (c := (fm_X11_in a1 1 60) = 0) (a := (19, [some (.ref a0), some (.int a1), some (.int a2), none, none, none, none], [], H)) (b := (10, [some (.ref a0), some (.int a1), some (.int a2), none, none, none, none], [], H)) 1 rfl (fun c7 => ?_) (fun c7 => ?_)
  · replace h := qv_pos c7 h
    exact tb_X11_mendAhead_19 hd hR a0 (some (.int a1)) rfl (some (.int a2)) rfl H h
  · replace h := qv_neg c7 h
    refine qv_run 3 (σ := (13, [some (.ref a0), some (.int a1), some (.int a2), none, none, none, none], [.int 1, .int 0, .int a2], H)) rfl ?_
    refine qv_call [.int a2, .int 0, .int 1] rfl rfl rfl (Nat.le_of_ble_eq_true rfl) (th_X11_in (by omega) rfl) rfl ?_
    refine qv_br (c := (fm_X11_in a2 0 1) = 0) (a := (19, [some (.ref a0), some (.int a1), some (.int a2), none, none, none, none], [], H)) (b := (25, [some (.ref a0), some (.int a1), some (.int a2), none, none, none, none], [], H)) 1 rfl (fun c16 => ?_) (fun c16 => ?_)
    · replace h := qv_pos c16 h
      exact tb_X11_mendAhead_19 hd hR a0 (some (.int a1)) rfl (some (.int a2)) rfl H h
    · replace h := qv_neg c16 h
      refine qv_run 5 (σ := (31, [some (.ref a0), some (.int a1), some (.int a2), some (.int (-1)), some (.int 0), none, none], [.ref a0], H)) rfl ?_
      obtain ⟨g31, h⟩ := qv_guard h
      obtain ⟨H31, e31, h⟩ := qv_bind h
      refine qv_callV [] rfl rfl rfl (Nat.le_of_ble_eq_true rfl) g31 (th_X11_layDown (by omega) e31) (tl_X11_layDown e31) ?_
      refine qv_run 2 (σ := (37, [some (.ref a0), some (.int a1), some (.int a2), some (.int (-1)), some (.int 0), some (.int 0), none], [], H31)) rfl ?_
      exact tb_X11_mendAhead_37 hd hR 5000 a0 a1 a2 (-1) 0 0 none rfl H31 h
theorem tlb_X11_mendAhead_0 {r : Int32} {H' : qx_H} (a0 : Nat) (a1 : Int32) (a2 : Int32) (H : qx_H) (h : fm_X11_mendAhead a0 a1 a2 H = some (r, H')) : H'.length = H.length := by
  unfold fm_X11_mendAhead at h
  by_cases c7 : (fm_X11_in a1 1 60) = 0
  · replace h := qv_pos c7 h
    exact tlb_X11_mendAhead_19 a0 H h
  · replace h := qv_neg c7 h
    by_cases c16 : (fm_X11_in a2 0 1) = 0
    · replace h := qv_pos c16 h
      exact tlb_X11_mendAhead_19 a0 H h
    · replace h := qv_neg c16 h
      obtain ⟨g31, h⟩ := qv_guard h
      obtain ⟨H31, e31, h⟩ := qv_bind h
      have q_H31 := tl_X11_layDown e31
      have q_end := tlb_X11_mendAhead_37 5000 a0 a1 a2 (-1) 0 0 H31 h
      omega
theorem th_X11_mendAhead {st : xT} {d : Nat} (hd : 8 ≤ d) {a0 : Nat} {a1 : Int32} {a2 : Int32} {H : qx_H} {r : Int32} {H' : qx_H} (h : fm_X11_mendAhead a0 a1 a2 H = some (r, H')) : xE st d 206 [.ref a0, .int a1, .int a2] H (some (.int r)) H' := by
  obtain ⟨d, rfl⟩ : ∃ d', d = d' + 1 := ⟨d - 1, by omega⟩
  exact xE_of (xe206 st) xl206 (Nat.le_of_ble_eq_true rfl) (ls := [some (.ref a0), some (.int a1), some (.int a2), none, none, none, none]) rfl (tb_X11_mendAhead_0 (by omega) ⟨rfl, rfl⟩ a0 a1 a2 H h)
theorem tl_X11_mendAhead {a0 : Nat} {a1 : Int32} {a2 : Int32} {H : qx_H} {r : Int32} {H' : qx_H} (h : fm_X11_mendAhead a0 a1 a2 H = some (r, H')) : H'.length = H.length := tlb_X11_mendAhead_0 a0 a1 a2 H h
def fm_X11_hands_b18 (l0 : Nat) (H : qx_H) : Option (Int32 × qx_H) := if hp_is H l0 9 = true then (ob2 (fm_X11_error l0 1 H) fun v20 H20 => some (v20, H20)) else none
def fm_X11_hands_b63 (k29 : Nat → Int32 → Int32 → Int32 → Int32 → qx_H → Option (Int32 × qx_H)) (l0 : Nat) (l1 : Int32) (l2 : Int32) (l4 : Int32) (t0 : Int32) (H : qx_H) : Option (Int32 × qx_H) := k29 l0 l1 l2 (t0 + 0) (l4 + 1) H
def fm_X11_hands_b29 : Nat → Nat → Int32 → Int32 → Int32 → Int32 → qx_H → Option (Int32 × qx_H)
  | 0, _, _, _, _, _, _ => none
  | n + 1, l0, l1, l2, l3, l4, H => if 20 ≤ l4 then (some (l3, H)) else (if hp_is H l0 9 = true then ((fm_X11_its l0 l4 2 H).bind fun v41 => if v41 = l1 then ((fm_X11_its l0 l4 3 H).bind fun v52 => fm_X11_hands_b29 n l0 l1 l2 (l3 + (if v52 < l2 then 0 else 1)) (l4 + 1) H) else (fm_X11_hands_b63 (fm_X11_hands_b29 n) l0 l1 l2 l4 l3 H)) else none)
def fm_X11_hands (a0 : Nat) (a1 : Int32) (a2 : Int32) (H : qx_H) : Option (Int32 × qx_H) := if (fm_X11_isHand a1) = 0 then (fm_X11_hands_b18 a0 H) else (if (fm_X11_in a2 0 9999) = 0 then (fm_X11_hands_b18 a0 H) else (fm_X11_hands_b29 5000 a0 a1 a2 0 0 H))
theorem tb_X11_hands_18 {st : xT} {d : Nat} {R : Option Value → qx_H → Prop} (hd : 2 ≤ d) {r : Int32} {H' : qx_H} (hR : R (some (.int r)) H') (l0 : Nat) (z1 : Option Value) (hz1 : qx_ns z1 = true) (z2 : Option Value) (hz2 : qx_ns z2 = true) (H : qx_H) (h : fm_X11_hands_b18 l0 H = some (r, H')) : qx_V (xE st d) R (xc207 st) (18, [some (.ref l0), z1, z2, none, none], [], H) := by
  unfold fm_X11_hands_b18 at h
  refine qv_run 2 (σ := (20, [some (.ref l0), z1, z2, none, none], [.int 1, .ref l0], H)) rfl ?_
  obtain ⟨g20, h⟩ := qv_guard h
  obtain ⟨v20, H20, e20, h⟩ := qv_bind2 h
  refine qv_callV [.int 1] rfl rfl rfl (Nat.le_of_ble_eq_true rfl) g20 (th_X11_error (by omega) e20) (tl_X11_error e20) ?_
  obtain ⟨rfl, rfl⟩ := qv_pair h
  exact qv_reti rfl hR
theorem tlb_X11_hands_18 {r : Int32} {H' : qx_H} (l0 : Nat) (H : qx_H) (h : fm_X11_hands_b18 l0 H = some (r, H')) : H'.length = H.length := by
  unfold fm_X11_hands_b18 at h
  obtain ⟨g20, h⟩ := qv_guard h
  obtain ⟨v20, H20, e20, h⟩ := qv_bind2 h
  have q_H20 := tl_X11_error e20
  obtain ⟨rfl, rfl⟩ := qv_pair h
  omega
theorem tb_X11_hands_63 {st : xT} {d : Nat} {R : Option Value → qx_H → Prop} (hd : 2 ≤ d) {r : Int32} {H' : qx_H} (k29 : Nat → Int32 → Int32 → Int32 → Int32 → qx_H → Option (Int32 × qx_H)) (hk29 : ∀ (l0 : Nat) (l1 : Int32) (l2 : Int32) (l3 : Int32) (l4 : Int32) (H : qx_H), k29 l0 l1 l2 l3 l4 H = some (r, H') → qx_V (xE st d) R (xc207 st) (29, [some (.ref l0), some (.int l1), some (.int l2), some (.int l3), some (.int l4)], [], H)) (hR : R (some (.int r)) H') (l0 : Nat) (l1 : Int32) (l2 : Int32) (l4 : Int32) (t0 : Int32) (z3 : Option Value) (hz3 : qx_ns z3 = true) (H : qx_H) (h : fm_X11_hands_b63 k29 l0 l1 l2 l4 t0 H = some (r, H')) : qx_V (xE st d) R (xc207 st) (63, [some (.ref l0), some (.int l1), some (.int l2), z3, some (.int l4)], [.int t0], H) := by
  unfold fm_X11_hands_b63 at h
  refine qv_run 5 (σ := (29, [some (.ref l0), some (.int l1), some (.int l2), some (.int (t0 + 0)), some (.int (l4 + 1))], [], H)) rfl ?_
  exact hk29 l0 l1 l2 (t0 + 0) (l4 + 1) H h
theorem tlb_X11_hands_63 {r : Int32} {H' : qx_H} (k29 : Nat → Int32 → Int32 → Int32 → Int32 → qx_H → Option (Int32 × qx_H)) (hk29 : ∀ (l0 : Nat) (l1 : Int32) (l2 : Int32) (l3 : Int32) (l4 : Int32) (H : qx_H), k29 l0 l1 l2 l3 l4 H = some (r, H') → H'.length = H.length) (l0 : Nat) (l1 : Int32) (l2 : Int32) (l4 : Int32) (t0 : Int32) (H : qx_H) (h : fm_X11_hands_b63 k29 l0 l1 l2 l4 t0 H = some (r, H')) : H'.length = H.length := by
  unfold fm_X11_hands_b63 at h
  exact hk29 l0 l1 l2 (t0 + 0) (l4 + 1) H h
theorem tb_X11_hands_29 {st : xT} {d : Nat} {R : Option Value → qx_H → Prop} (hd : 2 ≤ d) {r : Int32} {H' : qx_H} (hR : R (some (.int r)) H') : ∀ (n : Nat) (l0 : Nat) (l1 : Int32) (l2 : Int32) (l3 : Int32) (l4 : Int32) (H : qx_H) (h : fm_X11_hands_b29 n l0 l1 l2 l3 l4 H = some (r, H')), qx_V (xE st d) R (xc207 st) (29, [some (.ref l0), some (.int l1), some (.int l2), some (.int l3), some (.int l4)], [], H) := by
  intro n
  induction n with
  | zero => intro l0 l1 l2 l3 l4 H h; exact nomatch (show (none : Option (Int32 × qx_H)) = some (r, H') from h)
  | succ n ih =>
    intro l0 l1 l2 l3 l4 H h
    unfold fm_X11_hands_b29 at h
    refine qv_br (c := 20 ≤ l4) (a := (72, [some (.ref l0), some (.int l1), some (.int l2), some (.int l3), some (.int l4)], [], H)) (b := (36, [some (.ref l0), some (.int l1), some (.int l2), some (.int l3), some (.int l4)], [], H)) 3 rfl (fun c33 => ?_) (fun c33 => ?_)
    · replace h := qv_pos c33 h
      refine qv_run 1 (σ := (73, [some (.ref l0), some (.int l1), some (.int l2), some (.int l3), some (.int l4)], [.int l3], H)) rfl ?_
      obtain ⟨rfl, rfl⟩ := qv_pair h
      exact qv_reti rfl hR
    · replace h := qv_neg c33 h
      refine qv_run 4 (σ := (41, [some (.ref l0), some (.int l1), some (.int l2), some (.int l3), some (.int l4)], [.int 2, .int l4, .ref l0, .int l3], H)) rfl ?_
      obtain ⟨g41, h⟩ := qv_guard h
      obtain ⟨v41, e41, h⟩ := qv_bind h
      refine qv_callV [.int l4, .int 2] rfl rfl rfl (Nat.le_of_ble_eq_true rfl) g41 (th_X11_its (by omega) e41) rfl ?_
      refine qv_br (c := v41 = l1) (a := (48, [some (.ref l0), some (.int l1), some (.int l2), some (.int l3), some (.int l4)], [.int l3], H)) (b := (63, [some (.ref l0), some (.int l1), some (.int l2), some (.int l3), some (.int l4)], [.int l3], H)) 2 rfl (fun c45 => ?_) (fun c45 => ?_)
      · replace h := qv_pos c45 h
        refine qv_run 3 (σ := (52, [some (.ref l0), some (.int l1), some (.int l2), some (.int l3), some (.int l4)], [.int 3, .int l4, .ref l0, .int l3], H)) rfl ?_
        obtain ⟨v52, e52, h⟩ := qv_bind h
        refine qv_callV [.int l4, .int 3] rfl rfl rfl (Nat.le_of_ble_eq_true rfl) g41 (th_X11_its (by omega) e52) rfl ?_
        refine qv_dia (c := v52 < l2) (a := (63, [some (.ref l0), some (.int l1), some (.int l2), some (.int l3), some (.int l4)], [.int l3], H)) (b := (59, [some (.ref l0), some (.int l1), some (.int l2), some (.int l3), some (.int l4)], [.int l3], H)) (σ' := (64, [some (.ref l0), some (.int l1), some (.int l2), some (.int l3), some (.int l4)], [.int (if v52 < l2 then 0 else 1), .int l3], H)) 2 rfl ?_ (fun c56 kk => qv_run 1 (σ := (64, [some (.ref l0), some (.int l1), some (.int l2), some (.int l3), some (.int l4)], [.int 0, .int l3], H)) rfl (qv_eq (by simp only [if_pos c56]) kk)) (fun c56 kk => qv_run 2 (σ := (64, [some (.ref l0), some (.int l1), some (.int l2), some (.int l3), some (.int l4)], [.int 1, .int l3], H)) rfl (qv_eq (by simp only [if_neg c56]) kk))
        refine qv_run 4 (σ := (29, [some (.ref l0), some (.int l1), some (.int l2), some (.int (l3 + (if v52 < l2 then 0 else 1))), some (.int (l4 + 1))], [], H)) rfl ?_
        exact ih l0 l1 l2 (l3 + (if v52 < l2 then 0 else 1)) (l4 + 1) H h
      · replace h := qv_neg c45 h
        exact tb_X11_hands_63 hd _ ih hR l0 l1 l2 l4 l3 (some (.int l3)) rfl H h
theorem tlb_X11_hands_29 {r : Int32} {H' : qx_H} : ∀ (n : Nat) (l0 : Nat) (l1 : Int32) (l2 : Int32) (l3 : Int32) (l4 : Int32) (H : qx_H) (h : fm_X11_hands_b29 n l0 l1 l2 l3 l4 H = some (r, H')), H'.length = H.length := by
  intro n
  induction n with
  | zero => intro l0 l1 l2 l3 l4 H h; exact nomatch (show (none : Option (Int32 × qx_H)) = some (r, H') from h)
  | succ n ih =>
    intro l0 l1 l2 l3 l4 H h
    unfold fm_X11_hands_b29 at h
    by_cases c33 : 20 ≤ l4
    · replace h := qv_pos c33 h
      obtain ⟨rfl, rfl⟩ := qv_pair h
      rfl
    · replace h := qv_neg c33 h
      obtain ⟨g41, h⟩ := qv_guard h
      obtain ⟨v41, e41, h⟩ := qv_bind h
      by_cases c45 : v41 = l1
      · replace h := qv_pos c45 h
        obtain ⟨v52, e52, h⟩ := qv_bind h
        exact ih l0 l1 l2 (l3 + (if v52 < l2 then 0 else 1)) (l4 + 1) H h
      · replace h := qv_neg c45 h
        exact tlb_X11_hands_63 _ ih l0 l1 l2 l4 l3 H h
theorem tb_X11_hands_0 {st : xT} {d : Nat} {R : Option Value → qx_H → Prop} (hd : 2 ≤ d) {r : Int32} {H' : qx_H} (hR : R (some (.int r)) H') (a0 : Nat) (a1 : Int32) (a2 : Int32) (H : qx_H) (h : fm_X11_hands a0 a1 a2 H = some (r, H')) : qx_V (xE st d) R (xc207 st) (0, [some (.ref a0), some (.int a1), some (.int a2), none, none], [], H) := by
  unfold fm_X11_hands at h
  refine qv_run 1 (σ := (1, [some (.ref a0), some (.int a1), some (.int a2), none, none], [.int a1], H)) rfl ?_
  refine qv_call [.int a1] rfl rfl rfl (Nat.le_of_ble_eq_true rfl) (th_X11_isHand (by omega) rfl) rfl ?_
  refine qv_br (c := (fm_X11_isHand a1) = 0) (a := (18, [some (.ref a0), some (.int a1), some (.int a2), none, none], [], H)) (b := (7, [some (.ref a0), some (.int a1), some (.int a2), none, none], [], H)) 1 rfl (fun c4 => ?_) (fun c4 => ?_)
  · replace h := qv_pos c4 h
    exact tb_X11_hands_18 hd hR a0 (some (.int a1)) rfl (some (.int a2)) rfl H h
  · replace h := qv_neg c4 h
    refine qv_run 3 (σ := (12, [some (.ref a0), some (.int a1), some (.int a2), none, none], [.int 9999, .int 0, .int a2], H)) rfl ?_
    refine qv_call [.int a2, .int 0, .int 9999] rfl rfl rfl (Nat.le_of_ble_eq_true rfl) (th_X11_in (by omega) rfl) rfl ?_
    refine qv_br (c := (fm_X11_in a2 0 9999) = 0) (a := (18, [some (.ref a0), some (.int a1), some (.int a2), none, none], [], H)) (b := (24, [some (.ref a0), some (.int a1), some (.int a2), none, none], [], H)) 1 rfl (fun c15 => ?_) (fun c15 => ?_)
    · replace h := qv_pos c15 h
      exact tb_X11_hands_18 hd hR a0 (some (.int a1)) rfl (some (.int a2)) rfl H h
    · replace h := qv_neg c15 h
      refine qv_run 4 (σ := (29, [some (.ref a0), some (.int a1), some (.int a2), some (.int 0), some (.int 0)], [], H)) rfl ?_
      exact tb_X11_hands_29 hd hR 5000 a0 a1 a2 0 0 H h
theorem tlb_X11_hands_0 {r : Int32} {H' : qx_H} (a0 : Nat) (a1 : Int32) (a2 : Int32) (H : qx_H) (h : fm_X11_hands a0 a1 a2 H = some (r, H')) : H'.length = H.length := by
  unfold fm_X11_hands at h
  by_cases c4 : (fm_X11_isHand a1) = 0
  · replace h := qv_pos c4 h
    exact tlb_X11_hands_18 a0 H h
  · replace h := qv_neg c4 h
    by_cases c15 : (fm_X11_in a2 0 9999) = 0
    · replace h := qv_pos c15 h
      exact tlb_X11_hands_18 a0 H h
    · replace h := qv_neg c15 h
      exact tlb_X11_hands_29 5000 a0 a1 a2 0 0 H h
theorem th_X11_hands {st : xT} {d : Nat} (hd : 3 ≤ d) {a0 : Nat} {a1 : Int32} {a2 : Int32} {H : qx_H} {r : Int32} {H' : qx_H} (h : fm_X11_hands a0 a1 a2 H = some (r, H')) : xE st d 207 [.ref a0, .int a1, .int a2] H (some (.int r)) H' := by
  obtain ⟨d, rfl⟩ : ∃ d', d = d' + 1 := ⟨d - 1, by omega⟩
  exact xE_of (xe207 st) xl207 (Nat.le_of_ble_eq_true rfl) (ls := [some (.ref a0), some (.int a1), some (.int a2), none, none]) rfl (tb_X11_hands_0 (by omega) ⟨rfl, rfl⟩ a0 a1 a2 H h)
theorem tl_X11_hands {a0 : Nat} {a1 : Int32} {a2 : Int32} {H : qx_H} {r : Int32} {H' : qx_H} (h : fm_X11_hands a0 a1 a2 H = some (r, H')) : H'.length = H.length := tlb_X11_hands_0 a0 a1 a2 H h
def fm_X11_swimsOut_b51 (l1 : Int32) (l3 : Int64) (t0 : Int64) (H : qx_H) : Option (Int64 × qx_H) := if l1 = 0 then (some (t0, H)) else (some (l3, H))
def fm_X11_swimsOut_b38 (l1 : Int32) (l2 : Int32) (t0 : Int64) (H : qx_H) : Option (Int64 × qx_H) := if l2 = 31 then (fm_X11_swimsOut_b51 l1 t0 1 H) else (fm_X11_swimsOut_b51 l1 t0 (Int32.toInt64 l2) H)
def fm_X11_swimsOut_b31 (l1 : Int32) (l2 : Int32) (H : qx_H) : Option (Int64 × qx_H) := fm_X11_swimsOut_b38 l1 l2 1 H
def fm_X11_swimsOut (a0 : Nat) (a1 : Int32) (H : qx_H) : Option (Int64 × qx_H) := if (fm_X11_in a1 0 1) = 0 then (if hp_is H a0 9 = true then (ob2 (fm_X11_error a0 1 H) fun v11 H11 => some (Int32.toInt64 v11, H11)) else none) else (if hp_is H a0 9 = true then ((fm_X11_missing a0 H).bind fun v17 => if v17 = 0 then (fm_X11_swimsOut_b31 a1 v17 H) else (if v17 = 31 then (fm_X11_swimsOut_b31 a1 v17 H) else (fm_X11_swimsOut_b38 a1 v17 31 H))) else none)
theorem tb_X11_swimsOut_51 {st : xT} {d : Nat} {R : Option Value → qx_H → Prop} (hd : 3 ≤ d) {r : Int64} {H' : qx_H} (hR : R (some (.long r)) H') (l1 : Int32) (l3 : Int64) (t0 : Int64) (z0 : Option Value) (hz0 : qx_ns z0 = true) (z2 : Option Value) (hz2 : qx_ns z2 = true) (H : qx_H) (h : fm_X11_swimsOut_b51 l1 l3 t0 H = some (r, H')) : qx_V (xE st d) R (xc208 st) (51, [z0, some (.int l1), z2, some (.long l3), none, none, none], [.long t0], H) := by
  unfold fm_X11_swimsOut_b51 at h
  refine qv_br (c := l1 = 0) (a := (57, [z0, some (.int l1), z2, some (.long l3), none, some (.long t0), none], [], H)) (b := (62, [z0, some (.int l1), z2, some (.long l3), none, some (.long t0), none], [], H)) 3 rfl (fun c54 => ?_) (fun c54 => ?_)
  · replace h := qv_pos c54 h
    refine qv_run 2 (σ := (63, [z0, some (.int l1), z2, some (.long l3), none, some (.long t0), none], [.long t0], H)) rfl ?_
    obtain ⟨rfl, rfl⟩ := qv_pair h
    exact qv_retl rfl hR
  · replace h := qv_neg c54 h
    refine qv_run 1 (σ := (63, [z0, some (.int l1), z2, some (.long l3), none, some (.long t0), none], [.long l3], H)) rfl ?_
    obtain ⟨rfl, rfl⟩ := qv_pair h
    exact qv_retl rfl hR
theorem tlb_X11_swimsOut_51 {r : Int64} {H' : qx_H} (l1 : Int32) (l3 : Int64) (t0 : Int64) (H : qx_H) (h : fm_X11_swimsOut_b51 l1 l3 t0 H = some (r, H')) : H'.length = H.length := by
  unfold fm_X11_swimsOut_b51 at h
  by_cases c54 : l1 = 0
  · replace h := qv_pos c54 h
    obtain ⟨rfl, rfl⟩ := qv_pair h
    rfl
  · replace h := qv_neg c54 h
    obtain ⟨rfl, rfl⟩ := qv_pair h
    rfl
theorem tb_X11_swimsOut_38 {st : xT} {d : Nat} {R : Option Value → qx_H → Prop} (hd : 3 ≤ d) {r : Int64} {H' : qx_H} (hR : R (some (.long r)) H') (l1 : Int32) (l2 : Int32) (t0 : Int64) (z0 : Option Value) (hz0 : qx_ns z0 = true) (H : qx_H) (h : fm_X11_swimsOut_b38 l1 l2 t0 H = some (r, H')) : qx_V (xE st d) R (xc208 st) (38, [z0, some (.int l1), some (.int l2), none, none, none, none], [.long t0], H) := by
  unfold fm_X11_swimsOut_b38 at h
  refine qv_br (c := l2 = 31) (a := (45, [z0, some (.int l1), some (.int l2), some (.long t0), none, none, none], [], H)) (b := (49, [z0, some (.int l1), some (.int l2), some (.long t0), none, none, none], [], H)) 4 rfl (fun c42 => ?_) (fun c42 => ?_)
  · replace h := qv_pos c42 h
    refine qv_run 2 (σ := (51, [z0, some (.int l1), some (.int l2), some (.long t0), none, none, none], [.long 1], H)) rfl ?_
    exact tb_X11_swimsOut_51 hd hR l1 t0 1 z0 hz0 (some (.int l2)) rfl H h
  · replace h := qv_neg c42 h
    refine qv_run 2 (σ := (51, [z0, some (.int l1), some (.int l2), some (.long t0), none, none, none], [.long (Int32.toInt64 l2)], H)) rfl ?_
    exact tb_X11_swimsOut_51 hd hR l1 t0 (Int32.toInt64 l2) z0 hz0 (some (.int l2)) rfl H h
theorem tlb_X11_swimsOut_38 {r : Int64} {H' : qx_H} (l1 : Int32) (l2 : Int32) (t0 : Int64) (H : qx_H) (h : fm_X11_swimsOut_b38 l1 l2 t0 H = some (r, H')) : H'.length = H.length := by
  unfold fm_X11_swimsOut_b38 at h
  by_cases c42 : l2 = 31
  · replace h := qv_pos c42 h
    exact tlb_X11_swimsOut_51 l1 t0 1 H h
  · replace h := qv_neg c42 h
    exact tlb_X11_swimsOut_51 l1 t0 (Int32.toInt64 l2) H h
theorem tb_X11_swimsOut_31 {st : xT} {d : Nat} {R : Option Value → qx_H → Prop} (hd : 3 ≤ d) {r : Int64} {H' : qx_H} (hR : R (some (.long r)) H') (l1 : Int32) (l2 : Int32) (z0 : Option Value) (hz0 : qx_ns z0 = true) (H : qx_H) (h : fm_X11_swimsOut_b31 l1 l2 H = some (r, H')) : qx_V (xE st d) R (xc208 st) (31, [z0, some (.int l1), some (.int l2), none, none, none, none], [], H) := by
  unfold fm_X11_swimsOut_b31 at h
  refine qv_run 2 (σ := (38, [z0, some (.int l1), some (.int l2), none, none, none, none], [.long 1], H)) rfl ?_
  exact tb_X11_swimsOut_38 hd hR l1 l2 1 z0 hz0 H h
theorem tlb_X11_swimsOut_31 {r : Int64} {H' : qx_H} (l1 : Int32) (l2 : Int32) (H : qx_H) (h : fm_X11_swimsOut_b31 l1 l2 H = some (r, H')) : H'.length = H.length := by
  unfold fm_X11_swimsOut_b31 at h
  exact tlb_X11_swimsOut_38 l1 l2 1 H h
theorem tb_X11_swimsOut_0 {st : xT} {d : Nat} {R : Option Value → qx_H → Prop} (hd : 3 ≤ d) {r : Int64} {H' : qx_H} (hR : R (some (.long r)) H') (a0 : Nat) (a1 : Int32) (H : qx_H) (h : fm_X11_swimsOut a0 a1 H = some (r, H')) : qx_V (xE st d) R (xc208 st) (0, [some (.ref a0), some (.int a1), none, none, none, none, none], [], H) := by
  unfold fm_X11_swimsOut at h
  refine qv_run 3 (σ := (3, [some (.ref a0), some (.int a1), none, none, none, none, none], [.int 1, .int 0, .int a1], H)) rfl ?_
  refine qv_call [.int a1, .int 0, .int 1] rfl rfl rfl (Nat.le_of_ble_eq_true rfl) (th_X11_in (by omega) rfl) rfl ?_
  refine qv_br (c := (fm_X11_in a1 0 1) = 0) (a := (9, [some (.ref a0), some (.int a1), none, none, none, none, none], [], H)) (b := (16, [some (.ref a0), some (.int a1), none, none, none, none, none], [], H)) 1 rfl (fun c6 => ?_) (fun c6 => ?_)
  · replace h := qv_pos c6 h
    refine qv_run 2 (σ := (11, [some (.ref a0), some (.int a1), none, none, none, none, none], [.int 1, .ref a0], H)) rfl ?_
    obtain ⟨g11, h⟩ := qv_guard h
    obtain ⟨v11, H11, e11, h⟩ := qv_bind2 h
    refine qv_callV [.int 1] rfl rfl rfl (Nat.le_of_ble_eq_true rfl) g11 (th_X11_error (by omega) e11) (tl_X11_error e11) ?_
    refine qv_run 1 (σ := (15, [some (.ref a0), some (.int a1), none, none, none, none, none], [.long (Int32.toInt64 v11)], H11)) rfl ?_
    obtain ⟨rfl, rfl⟩ := qv_pair h
    exact qv_retl rfl hR
  · replace h := qv_neg c6 h
    refine qv_run 1 (σ := (17, [some (.ref a0), some (.int a1), none, none, none, none, none], [.ref a0], H)) rfl ?_
    obtain ⟨g17, h⟩ := qv_guard h
    obtain ⟨v17, e17, h⟩ := qv_bind h
    refine qv_callV [] rfl rfl rfl (Nat.le_of_ble_eq_true rfl) g17 (th_X11_missing (by omega) e17) rfl ?_
    refine qv_br (c := v17 = 0) (a := (31, [some (.ref a0), some (.int a1), some (.int v17), none, none, none, none], [], H)) (b := (25, [some (.ref a0), some (.int a1), some (.int v17), none, none, none, none], [], H)) 3 rfl (fun c22 => ?_) (fun c22 => ?_)
    · replace h := qv_pos c22 h
      exact tb_X11_swimsOut_31 hd hR a1 v17 (some (.ref a0)) rfl H h
    · replace h := qv_neg c22 h
      refine qv_br (c := v17 = 31) (a := (31, [some (.ref a0), some (.int a1), some (.int v17), none, none, none, none], [], H)) (b := (35, [some (.ref a0), some (.int a1), some (.int v17), none, none, none, none], [], H)) 3 rfl (fun c28 => ?_) (fun c28 => ?_)
      · replace h := qv_pos c28 h
        exact tb_X11_swimsOut_31 hd hR a1 v17 (some (.ref a0)) rfl H h
      · replace h := qv_neg c28 h
        refine qv_run 1 (σ := (38, [some (.ref a0), some (.int a1), some (.int v17), none, none, none, none], [.long 31], H)) rfl ?_
        exact tb_X11_swimsOut_38 hd hR a1 v17 31 (some (.ref a0)) rfl H h
theorem tlb_X11_swimsOut_0 {r : Int64} {H' : qx_H} (a0 : Nat) (a1 : Int32) (H : qx_H) (h : fm_X11_swimsOut a0 a1 H = some (r, H')) : H'.length = H.length := by
  unfold fm_X11_swimsOut at h
  by_cases c6 : (fm_X11_in a1 0 1) = 0
  · replace h := qv_pos c6 h
    obtain ⟨g11, h⟩ := qv_guard h
    obtain ⟨v11, H11, e11, h⟩ := qv_bind2 h
    have q_H11 := tl_X11_error e11
    obtain ⟨rfl, rfl⟩ := qv_pair h
    omega
  · replace h := qv_neg c6 h
    obtain ⟨g17, h⟩ := qv_guard h
    obtain ⟨v17, e17, h⟩ := qv_bind h
    by_cases c22 : v17 = 0
    · replace h := qv_pos c22 h
      exact tlb_X11_swimsOut_31 a1 v17 H h
    · replace h := qv_neg c22 h
      by_cases c28 : v17 = 31
      · replace h := qv_pos c28 h
        exact tlb_X11_swimsOut_31 a1 v17 H h
      · replace h := qv_neg c28 h
        exact tlb_X11_swimsOut_38 a1 v17 31 H h
theorem th_X11_swimsOut {st : xT} {d : Nat} (hd : 4 ≤ d) {a0 : Nat} {a1 : Int32} {H : qx_H} {r : Int64} {H' : qx_H} (h : fm_X11_swimsOut a0 a1 H = some (r, H')) : xE st d 208 [.ref a0, .int a1] H (some (.long r)) H' := by
  obtain ⟨d, rfl⟩ : ∃ d', d = d' + 1 := ⟨d - 1, by omega⟩
  exact xE_of (xe208 st) xl208 (Nat.le_of_ble_eq_true rfl) (ls := [some (.ref a0), some (.int a1), none, none, none, none, none]) rfl (tb_X11_swimsOut_0 (by omega) ⟨rfl, rfl⟩ a0 a1 H h)
theorem tl_X11_swimsOut {a0 : Nat} {a1 : Int32} {H : qx_H} {r : Int64} {H' : qx_H} (h : fm_X11_swimsOut a0 a1 H = some (r, H')) : H'.length = H.length := tlb_X11_swimsOut_0 a0 a1 H h
def fm_X11_begins (a0 : Nat) (a1 : Int32) (H : qx_H) : Option qx_H := (hp_gI H a0 9 16).bind fun v1 => if 30 ≤ v1 then (some H) else ((hp_gR H a0 9 15).bind fun v10 => (hp_gI H a0 9 16).bind fun v14 => (hp_ast H v10 v14 a1).bind fun H18 => (hp_gI H18 a0 9 16).bind fun v21 => (hp_put H18 a0 9 16 (.int (v21 + 1))).bind fun H26 => some H26)
theorem tb_X11_begins_0 {st : xT} {d : Nat} {R : Option Value → qx_H → Prop} (hd : 0 ≤ d) {H' : qx_H} (hR : R (none) H') (a0 : Nat) (a1 : Int32) (H : qx_H) (h : fm_X11_begins a0 a1 H = some H') : qx_V (xE st d) R (xc209 st) (0, [some (.ref a0), some (.int a1)], [], H) := by
  unfold fm_X11_begins at h
  refine qv_run 1 (σ := (1, [some (.ref a0), some (.int a1)], [.ref a0], H)) rfl ?_
  obtain ⟨v1, e1, h⟩ := qv_bind h
  refine qv_getI rfl e1 ?_
  refine qv_br (c := 30 ≤ v1) (a := (29, [some (.ref a0), some (.int a1)], [], H)) (b := (9, [some (.ref a0), some (.int a1)], [], H)) 2 rfl (fun c6 => ?_) (fun c6 => ?_)
  · replace h := qv_pos c6 h
    cases h
    exact qv_ret0 rfl hR
  · replace h := qv_neg c6 h
    refine qv_run 1 (σ := (10, [some (.ref a0), some (.int a1)], [.ref a0], H)) rfl ?_
    obtain ⟨v10, e10, h⟩ := qv_bind h
    refine qv_getR rfl e10 ?_
    refine qv_run 1 (σ := (14, [some (.ref a0), some (.int a1)], [.ref a0, .ref v10], H)) rfl ?_
    obtain ⟨v14, e14, h⟩ := qv_bind h
    refine qv_getI rfl e14 ?_
    refine qv_run 1 (σ := (18, [some (.ref a0), some (.int a1)], [.int a1, .int v14, .ref v10], H)) rfl ?_
    obtain ⟨H18, e18, h⟩ := qv_bind h
    refine qv_ast rfl e18 ?_
    refine qv_run 2 (σ := (21, [some (.ref a0), some (.int a1)], [.ref a0, .ref a0], H18)) rfl ?_
    obtain ⟨v21, e21, h⟩ := qv_bind h
    refine qv_getI rfl e21 ?_
    refine qv_run 2 (σ := (26, [some (.ref a0), some (.int a1)], [.int (v21 + 1), .ref a0], H18)) rfl ?_
    obtain ⟨H26, e26, h⟩ := qv_bind h
    refine qv_putI rfl e26 ?_
    cases h
    exact qv_ret0 rfl hR
theorem tlb_X11_begins_0 {H' : qx_H} (a0 : Nat) (a1 : Int32) (H : qx_H) (h : fm_X11_begins a0 a1 H = some H') : H'.length = H.length := by
  unfold fm_X11_begins at h
  obtain ⟨v1, e1, h⟩ := qv_bind h
  by_cases c6 : 30 ≤ v1
  · replace h := qv_pos c6 h
    cases h
    rfl
  · replace h := qv_neg c6 h
    obtain ⟨v10, e10, h⟩ := qv_bind h
    obtain ⟨v14, e14, h⟩ := qv_bind h
    obtain ⟨H18, e18, h⟩ := qv_bind h
    have q_H18 := hp_ast_len e18
    obtain ⟨v21, e21, h⟩ := qv_bind h
    obtain ⟨H26, e26, h⟩ := qv_bind h
    have q_H26 := hp_put_len e26
    cases h
    omega
theorem th_X11_begins {st : xT} {d : Nat} (hd : 1 ≤ d) {a0 : Nat} {a1 : Int32} {H : qx_H} {H' : qx_H} (h : fm_X11_begins a0 a1 H = some H') : xE st d 209 [.ref a0, .int a1] H (none) H' := by
  obtain ⟨d, rfl⟩ : ∃ d', d = d' + 1 := ⟨d - 1, by omega⟩
  exact xE_of (xe209 st) xl209 (Nat.le_of_ble_eq_true rfl) (ls := [some (.ref a0), some (.int a1)]) rfl (tb_X11_begins_0 (by omega) ⟨rfl, rfl⟩ a0 a1 H h)
theorem tl_X11_begins {a0 : Nat} {a1 : Int32} {H : qx_H} {H' : qx_H} (h : fm_X11_begins a0 a1 H = some H') : H'.length = H.length := tlb_X11_begins_0 a0 a1 H h
def fm_X11_above (a0 : Int32) : Int32 := if a0 = 4 then (1) else (if a0 = 5 then (2) else (0))
theorem tb_X11_above_0 {st : xT} {d : Nat} {R : Option Value → qx_H → Prop} (hd : 0 ≤ d) {r : Int32} {H : qx_H} (hR : R (some (.int r)) H) (a0 : Int32) (h : fm_X11_above a0 = r) : qx_V (xE st d) R (xc210 st) (0, [some (.int a0)], [], H) := by
  unfold fm_X11_above at h
  refine qv_br (c := a0 = 4) (a := (5, [some (.int a0)], [], H)) (b := (9, [some (.int a0)], [], H)) 3 rfl (fun c2 => ?_) (fun c2 => ?_)
  · replace h := qv_pos c2 h
    refine qv_run 2 (σ := (19, [some (.int a0)], [.int 1], H)) rfl ?_
    subst h
    exact qv_reti rfl hR
  · replace h := qv_neg c2 h
    refine qv_br (c := a0 = 5) (a := (14, [some (.int a0)], [], H)) (b := (18, [some (.int a0)], [], H)) 3 rfl (fun c11 => ?_) (fun c11 => ?_)
    · replace h := qv_pos c11 h
      refine qv_run 2 (σ := (19, [some (.int a0)], [.int 2], H)) rfl ?_
      subst h
      exact qv_reti rfl hR
    · replace h := qv_neg c11 h
      refine qv_run 1 (σ := (19, [some (.int a0)], [.int 0], H)) rfl ?_
      subst h
      exact qv_reti rfl hR
theorem th_X11_above {st : xT} {d : Nat} (hd : 1 ≤ d) {a0 : Int32} {r : Int32} {H : qx_H} (h : fm_X11_above a0 = r) : xE st d 210 [.int a0] H (some (.int r)) H := by
  obtain ⟨d, rfl⟩ : ∃ d', d = d' + 1 := ⟨d - 1, by omega⟩
  exact xE_of (xe210 st) xl210 (Nat.le_of_ble_eq_true rfl) (ls := [some (.int a0)]) rfl (tb_X11_above_0 (by omega) ⟨rfl, rfl⟩ a0 h)
def fm_X11_kindNow (a0 : Nat) (H : qx_H) : Option Int32 := (hp_gI H a0 9 17).bind fun v2 => if hp_is H a0 9 = true then ((fm_X11_its a0 v2 0 H).bind fun v6 => some v6) else none
theorem tb_X11_kindNow_0 {st : xT} {d : Nat} {R : Option Value → qx_H → Prop} (hd : 1 ≤ d) {r : Int32} {H : qx_H} (hR : R (some (.int r)) H) (a0 : Nat) (h : fm_X11_kindNow a0 H = some r) : qx_V (xE st d) R (xc211 st) (0, [some (.ref a0)], [], H) := by
  unfold fm_X11_kindNow at h
  refine qv_run 2 (σ := (2, [some (.ref a0)], [.ref a0, .ref a0], H)) rfl ?_
  obtain ⟨v2, e2, h⟩ := qv_bind h
  refine qv_getI rfl e2 ?_
  refine qv_run 1 (σ := (6, [some (.ref a0)], [.int 0, .int v2, .ref a0], H)) rfl ?_
  obtain ⟨g6, h⟩ := qv_guard h
  obtain ⟨v6, e6, h⟩ := qv_bind h
  refine qv_callV [.int v2, .int 0] rfl rfl rfl (Nat.le_of_ble_eq_true rfl) g6 (th_X11_its (by omega) e6) rfl ?_
  cases h
  exact qv_reti rfl hR
theorem th_X11_kindNow {st : xT} {d : Nat} (hd : 2 ≤ d) {a0 : Nat} {r : Int32} {H : qx_H} (h : fm_X11_kindNow a0 H = some r) : xE st d 211 [.ref a0] H (some (.int r)) H := by
  obtain ⟨d, rfl⟩ : ∃ d', d = d' + 1 := ⟨d - 1, by omega⟩
  exact xE_of (xe211 st) xl211 (Nat.le_of_ble_eq_true rfl) (ls := [some (.ref a0)]) rfl (tb_X11_kindNow_0 (by omega) ⟨rfl, rfl⟩ a0 h)
def fm_X11_mNow (a0 : Nat) (H : qx_H) : Option Int32 := (hp_gI H a0 9 17).bind fun v2 => if hp_is H a0 9 = true then ((fm_X11_its a0 v2 1 H).bind fun v6 => some v6) else none
theorem tb_X11_mNow_0 {st : xT} {d : Nat} {R : Option Value → qx_H → Prop} (hd : 1 ≤ d) {r : Int32} {H : qx_H} (hR : R (some (.int r)) H) (a0 : Nat) (h : fm_X11_mNow a0 H = some r) : qx_V (xE st d) R (xc212 st) (0, [some (.ref a0)], [], H) := by
  unfold fm_X11_mNow at h
  refine qv_run 2 (σ := (2, [some (.ref a0)], [.ref a0, .ref a0], H)) rfl ?_
  obtain ⟨v2, e2, h⟩ := qv_bind h
  refine qv_getI rfl e2 ?_
  refine qv_run 1 (σ := (6, [some (.ref a0)], [.int 1, .int v2, .ref a0], H)) rfl ?_
  obtain ⟨g6, h⟩ := qv_guard h
  obtain ⟨v6, e6, h⟩ := qv_bind h
  refine qv_callV [.int v2, .int 1] rfl rfl rfl (Nat.le_of_ble_eq_true rfl) g6 (th_X11_its (by omega) e6) rfl ?_
  cases h
  exact qv_reti rfl hR
theorem th_X11_mNow {st : xT} {d : Nat} (hd : 2 ≤ d) {a0 : Nat} {r : Int32} {H : qx_H} (h : fm_X11_mNow a0 H = some r) : xE st d 212 [.ref a0] H (some (.int r)) H := by
  obtain ⟨d, rfl⟩ : ∃ d', d = d' + 1 := ⟨d - 1, by omega⟩
  exact xE_of (xe212 st) xl212 (Nat.le_of_ble_eq_true rfl) (ls := [some (.ref a0)]) rfl (tb_X11_mNow_0 (by omega) ⟨rfl, rfl⟩ a0 h)
def fm_X11_holdsAs_e (rc : Nat → Int32 → Int32 → qx_H → Option (Int32 × qx_H)) (a0 : Nat) (a1 : Int32) (a2 : Int32) (H : qx_H) : Option (Int32 × qx_H) := if a1 = 0 then (if hp_is H a0 9 = true then ((fm_X11_begins a0 10 H).bind fun H47 => (hp_gI H47 a0 9 17).bind fun v52 => some (a2 + v52, H47)) else none) else if a1 = 1 then (if hp_is H a0 9 = true then ((fm_X11_begins a0 20 H).bind fun H60 => if hp_is H60 a0 9 = true then (ob2 (rc a0 (fm_X11_above 1) a2 H60) fun v69 H69 => some (v69 - 8, H69)) else none) else none) else if a1 = 2 then (if hp_is H a0 9 = true then (ob2 (rc a0 (fm_X11_above a1) a2 H) fun v108 H108 => some (v108, H108)) else none) else if a1 = 3 then (if hp_is H a0 9 = true then (ob2 (rc a0 (fm_X11_above a1) a2 H) fun v108 H108 => some (v108, H108)) else none) else if a1 = 4 then (if hp_is H a0 9 = true then ((fm_X11_begins a0 50 H).bind fun H79 => if hp_is H79 a0 9 = true then (ob2 (rc a0 (fm_X11_above 4) a2 H79) fun v88 H88 => some (v88 * 3, H88)) else none) else none) else if a1 = 5 then (if hp_is H a0 9 = true then (ob2 (rc a0 (fm_X11_above a1) a2 H) fun v108 H108 => some (v108, H108)) else none) else if a1 = 6 then (if hp_is H a0 9 = true then ((fm_X11_begins a0 70 H).bind fun H97 => some (4, H97)) else none) else (if hp_is H a0 9 = true then (ob2 (rc a0 (fm_X11_above a1) a2 H) fun v108 H108 => some (v108, H108)) else none)
def fm_X11_holdsAs : Nat → Nat → Int32 → Int32 → qx_H → Option (Int32 × qx_H)
  | 0, _, _, _, _ => none
  | n + 1, a0, a1, a2, H => fm_X11_holdsAs_e (fm_X11_holdsAs n) a0 a1 a2 H
theorem tb_X11_holdsAs_0 {st : xT} {e : Nat} {d : Nat} {R : Option Value → qx_H → Prop} (rc : Nat → Int32 → Int32 → qx_H → Option (Int32 × qx_H)) (hB : 1 ≤ e) (hrc : ∀ {b0 : Nat} {b1 : Int32} {b2 : Int32} {H1 H2 : qx_H} {r1 : Int32}, rc b0 b1 b2 H1 = some (r1, H2) → xE st e 213 [.ref b0, .int b1, .int b2] H1 (some (.int r1)) H2) (hrl : ∀ {b0 : Nat} {b1 : Int32} {b2 : Int32} {H1 H2 : qx_H} {r1 : Int32}, rc b0 b1 b2 H1 = some (r1, H2) → H2.length = H1.length) (hd : e + 0 ≤ d) {r : Int32} {H' : qx_H} (hR : R (some (.int r)) H') (a0 : Nat) (a1 : Int32) (a2 : Int32) (H : qx_H) (h : fm_X11_holdsAs_e rc a0 a1 a2 H = some (r, H')) : qx_V (xE st d) R (xc213 st) (0, [some (.ref a0), some (.int a1), some (.int a2)], [], H) := by
  unfold fm_X11_holdsAs_e at h
  refine qv_run 2 (σ := (qx_swt a1 102 [(0, 44), (1, 57), (2, 102), (3, 102), (4, 76), (5, 102), (6, 94)], [some (.ref a0), some (.int a1), some (.int a2)], [], H)) rfl ?_
  refine qv_swt (fun c1_0 => ?_) (fun c1_0 => ?_)
  · replace h := qv_pos c1_0 h
    refine qv_run 2 (σ := (47, [some (.ref a0), some (.int a1), some (.int a2)], [.int 10, .ref a0], H)) rfl ?_
    obtain ⟨g47, h⟩ := qv_guard h
    obtain ⟨H47, e47, h⟩ := qv_bind h
    refine qv_callV [.int 10] rfl rfl rfl (Nat.le_of_ble_eq_true rfl) g47 (th_X11_begins (by omega) e47) (tl_X11_begins e47) ?_
    refine qv_run 2 (σ := (52, [some (.ref a0), some (.int a1), some (.int a2)], [.ref a0, .int a2], H47)) rfl ?_
    obtain ⟨v52, e52, h⟩ := qv_bind h
    refine qv_getI rfl e52 ?_
    refine qv_run 1 (σ := (56, [some (.ref a0), some (.int a1), some (.int a2)], [.int (a2 + v52)], H47)) rfl ?_
    obtain ⟨rfl, rfl⟩ := qv_pair h
    exact qv_reti rfl hR
  · replace h := qv_neg c1_0 h
    refine qv_swt (fun c1_1 => ?_) (fun c1_1 => ?_)
    · replace h := qv_pos c1_1 h
      refine qv_run 2 (σ := (60, [some (.ref a0), some (.int a1), some (.int a2)], [.int 20, .ref a0], H)) rfl ?_
      obtain ⟨g60, h⟩ := qv_guard h
      obtain ⟨H60, e60, h⟩ := qv_bind h
      refine qv_callV [.int 20] rfl rfl rfl (Nat.le_of_ble_eq_true rfl) g60 (th_X11_begins (by omega) e60) (tl_X11_begins e60) ?_
      refine qv_run 2 (σ := (65, [some (.ref a0), some (.int a1), some (.int a2)], [.int 1, .ref a0], H60)) rfl ?_
      refine qv_call [.int 1] rfl rfl rfl (Nat.le_of_ble_eq_true rfl) (th_X11_above (by omega) rfl) rfl ?_
      refine qv_run 1 (σ := (69, [some (.ref a0), some (.int a1), some (.int a2)], [.int a2, .int (fm_X11_above 1), .ref a0], H60)) rfl ?_
      obtain ⟨g69, h⟩ := qv_guard h
      obtain ⟨v69, H69, e69, h⟩ := qv_bind2 h
      refine qv_callV [.int (fm_X11_above 1), .int a2] rfl rfl rfl (Nat.le_of_ble_eq_true rfl) g69 (xE_le (by omega) (hrc e69)) (hrl e69) ?_
      refine qv_run 2 (σ := (75, [some (.ref a0), some (.int a1), some (.int a2)], [.int (v69 - 8)], H69)) rfl ?_
      obtain ⟨rfl, rfl⟩ := qv_pair h
      exact qv_reti rfl hR
    · replace h := qv_neg c1_1 h
      refine qv_swt (fun c1_2 => ?_) (fun c1_2 => ?_)
      · replace h := qv_pos c1_2 h
        refine qv_run 2 (σ := (104, [some (.ref a0), some (.int a1), some (.int a2)], [.int a1, .ref a0], H)) rfl ?_
        refine qv_call [.int a1] rfl rfl rfl (Nat.le_of_ble_eq_true rfl) (th_X11_above (by omega) rfl) rfl ?_
        refine qv_run 1 (σ := (108, [some (.ref a0), some (.int a1), some (.int a2)], [.int a2, .int (fm_X11_above a1), .ref a0], H)) rfl ?_
        obtain ⟨g108, h⟩ := qv_guard h
        obtain ⟨v108, H108, e108, h⟩ := qv_bind2 h
        refine qv_callV [.int (fm_X11_above a1), .int a2] rfl rfl rfl (Nat.le_of_ble_eq_true rfl) g108 (xE_le (by omega) (hrc e108)) (hrl e108) ?_
        obtain ⟨rfl, rfl⟩ := qv_pair h
        exact qv_reti rfl hR
      · replace h := qv_neg c1_2 h
        refine qv_swt (fun c1_3 => ?_) (fun c1_3 => ?_)
        · replace h := qv_pos c1_3 h
          refine qv_run 2 (σ := (104, [some (.ref a0), some (.int a1), some (.int a2)], [.int a1, .ref a0], H)) rfl ?_
          refine qv_call [.int a1] rfl rfl rfl (Nat.le_of_ble_eq_true rfl) (th_X11_above (by omega) rfl) rfl ?_
          refine qv_run 1 (σ := (108, [some (.ref a0), some (.int a1), some (.int a2)], [.int a2, .int (fm_X11_above a1), .ref a0], H)) rfl ?_
          obtain ⟨g108, h⟩ := qv_guard h
          obtain ⟨v108, H108, e108, h⟩ := qv_bind2 h
          refine qv_callV [.int (fm_X11_above a1), .int a2] rfl rfl rfl (Nat.le_of_ble_eq_true rfl) g108 (xE_le (by omega) (hrc e108)) (hrl e108) ?_
          obtain ⟨rfl, rfl⟩ := qv_pair h
          exact qv_reti rfl hR
        · replace h := qv_neg c1_3 h
          refine qv_swt (fun c1_4 => ?_) (fun c1_4 => ?_)
          · replace h := qv_pos c1_4 h
            refine qv_run 2 (σ := (79, [some (.ref a0), some (.int a1), some (.int a2)], [.int 50, .ref a0], H)) rfl ?_
            obtain ⟨g79, h⟩ := qv_guard h
            obtain ⟨H79, e79, h⟩ := qv_bind h
            refine qv_callV [.int 50] rfl rfl rfl (Nat.le_of_ble_eq_true rfl) g79 (th_X11_begins (by omega) e79) (tl_X11_begins e79) ?_
            refine qv_run 2 (σ := (84, [some (.ref a0), some (.int a1), some (.int a2)], [.int 4, .ref a0], H79)) rfl ?_
            refine qv_call [.int 4] rfl rfl rfl (Nat.le_of_ble_eq_true rfl) (th_X11_above (by omega) rfl) rfl ?_
            refine qv_run 1 (σ := (88, [some (.ref a0), some (.int a1), some (.int a2)], [.int a2, .int (fm_X11_above 4), .ref a0], H79)) rfl ?_
            obtain ⟨g88, h⟩ := qv_guard h
            obtain ⟨v88, H88, e88, h⟩ := qv_bind2 h
            refine qv_callV [.int (fm_X11_above 4), .int a2] rfl rfl rfl (Nat.le_of_ble_eq_true rfl) g88 (xE_le (by omega) (hrc e88)) (hrl e88) ?_
            refine qv_run 2 (σ := (93, [some (.ref a0), some (.int a1), some (.int a2)], [.int (v88 * 3)], H88)) rfl ?_
            obtain ⟨rfl, rfl⟩ := qv_pair h
            exact qv_reti rfl hR
          · replace h := qv_neg c1_4 h
            refine qv_swt (fun c1_5 => ?_) (fun c1_5 => ?_)
            · replace h := qv_pos c1_5 h
              refine qv_run 2 (σ := (104, [some (.ref a0), some (.int a1), some (.int a2)], [.int a1, .ref a0], H)) rfl ?_
              refine qv_call [.int a1] rfl rfl rfl (Nat.le_of_ble_eq_true rfl) (th_X11_above (by omega) rfl) rfl ?_
              refine qv_run 1 (σ := (108, [some (.ref a0), some (.int a1), some (.int a2)], [.int a2, .int (fm_X11_above a1), .ref a0], H)) rfl ?_
              obtain ⟨g108, h⟩ := qv_guard h
              obtain ⟨v108, H108, e108, h⟩ := qv_bind2 h
              refine qv_callV [.int (fm_X11_above a1), .int a2] rfl rfl rfl (Nat.le_of_ble_eq_true rfl) g108 (xE_le (by omega) (hrc e108)) (hrl e108) ?_
              obtain ⟨rfl, rfl⟩ := qv_pair h
              exact qv_reti rfl hR
            · replace h := qv_neg c1_5 h
              refine qv_swt (fun c1_6 => ?_) (fun c1_6 => ?_)
              · replace h := qv_pos c1_6 h
                refine qv_run 2 (σ := (97, [some (.ref a0), some (.int a1), some (.int a2)], [.int 70, .ref a0], H)) rfl ?_
                obtain ⟨g97, h⟩ := qv_guard h
                obtain ⟨H97, e97, h⟩ := qv_bind h
                refine qv_callV [.int 70] rfl rfl rfl (Nat.le_of_ble_eq_true rfl) g97 (th_X11_begins (by omega) e97) (tl_X11_begins e97) ?_
                refine qv_run 1 (σ := (101, [some (.ref a0), some (.int a1), some (.int a2)], [.int 4], H97)) rfl ?_
                obtain ⟨rfl, rfl⟩ := qv_pair h
                exact qv_reti rfl hR
              · replace h := qv_neg c1_6 h
                refine qv_sw0 ?_
                refine qv_run 2 (σ := (104, [some (.ref a0), some (.int a1), some (.int a2)], [.int a1, .ref a0], H)) rfl ?_
                refine qv_call [.int a1] rfl rfl rfl (Nat.le_of_ble_eq_true rfl) (th_X11_above (by omega) rfl) rfl ?_
                refine qv_run 1 (σ := (108, [some (.ref a0), some (.int a1), some (.int a2)], [.int a2, .int (fm_X11_above a1), .ref a0], H)) rfl ?_
                obtain ⟨g108, h⟩ := qv_guard h
                obtain ⟨v108, H108, e108, h⟩ := qv_bind2 h
                refine qv_callV [.int (fm_X11_above a1), .int a2] rfl rfl rfl (Nat.le_of_ble_eq_true rfl) g108 (xE_le (by omega) (hrc e108)) (hrl e108) ?_
                obtain ⟨rfl, rfl⟩ := qv_pair h
                exact qv_reti rfl hR
theorem tlb_X11_holdsAs_0 (rc : Nat → Int32 → Int32 → qx_H → Option (Int32 × qx_H)) (hrl : ∀ {b0 : Nat} {b1 : Int32} {b2 : Int32} {H1 H2 : qx_H} {r1 : Int32}, rc b0 b1 b2 H1 = some (r1, H2) → H2.length = H1.length) {r : Int32} {H' : qx_H} (a0 : Nat) (a1 : Int32) (a2 : Int32) (H : qx_H) (h : fm_X11_holdsAs_e rc a0 a1 a2 H = some (r, H')) : H'.length = H.length := by
  unfold fm_X11_holdsAs_e at h
  by_cases c1_0 : a1 = 0
  · replace h := qv_pos c1_0 h
    obtain ⟨g47, h⟩ := qv_guard h
    obtain ⟨H47, e47, h⟩ := qv_bind h
    have q_H47 := tl_X11_begins e47
    obtain ⟨v52, e52, h⟩ := qv_bind h
    obtain ⟨rfl, rfl⟩ := qv_pair h
    omega
  · replace h := qv_neg c1_0 h
    by_cases c1_1 : a1 = 1
    · replace h := qv_pos c1_1 h
      obtain ⟨g60, h⟩ := qv_guard h
      obtain ⟨H60, e60, h⟩ := qv_bind h
      have q_H60 := tl_X11_begins e60
      obtain ⟨g69, h⟩ := qv_guard h
      obtain ⟨v69, H69, e69, h⟩ := qv_bind2 h
      have q_H69 := hrl e69
      obtain ⟨rfl, rfl⟩ := qv_pair h
      omega
    · replace h := qv_neg c1_1 h
      by_cases c1_2 : a1 = 2
      · replace h := qv_pos c1_2 h
        obtain ⟨g108, h⟩ := qv_guard h
        obtain ⟨v108, H108, e108, h⟩ := qv_bind2 h
        have q_H108 := hrl e108
        obtain ⟨rfl, rfl⟩ := qv_pair h
        omega
      · replace h := qv_neg c1_2 h
        by_cases c1_3 : a1 = 3
        · replace h := qv_pos c1_3 h
          obtain ⟨g108, h⟩ := qv_guard h
          obtain ⟨v108, H108, e108, h⟩ := qv_bind2 h
          have q_H108 := hrl e108
          obtain ⟨rfl, rfl⟩ := qv_pair h
          omega
        · replace h := qv_neg c1_3 h
          by_cases c1_4 : a1 = 4
          · replace h := qv_pos c1_4 h
            obtain ⟨g79, h⟩ := qv_guard h
            obtain ⟨H79, e79, h⟩ := qv_bind h
            have q_H79 := tl_X11_begins e79
            obtain ⟨g88, h⟩ := qv_guard h
            obtain ⟨v88, H88, e88, h⟩ := qv_bind2 h
            have q_H88 := hrl e88
            obtain ⟨rfl, rfl⟩ := qv_pair h
            omega
          · replace h := qv_neg c1_4 h
            by_cases c1_5 : a1 = 5
            · replace h := qv_pos c1_5 h
              obtain ⟨g108, h⟩ := qv_guard h
              obtain ⟨v108, H108, e108, h⟩ := qv_bind2 h
              have q_H108 := hrl e108
              obtain ⟨rfl, rfl⟩ := qv_pair h
              omega
            · replace h := qv_neg c1_5 h
              by_cases c1_6 : a1 = 6
              · replace h := qv_pos c1_6 h
                obtain ⟨g97, h⟩ := qv_guard h
                obtain ⟨H97, e97, h⟩ := qv_bind h
                have q_H97 := tl_X11_begins e97
                obtain ⟨rfl, rfl⟩ := qv_pair h
                omega
              · replace h := qv_neg c1_6 h
                obtain ⟨g108, h⟩ := qv_guard h
                obtain ⟨v108, H108, e108, h⟩ := qv_bind2 h
                have q_H108 := hrl e108
                obtain ⟨rfl, rfl⟩ := qv_pair h
                omega
theorem tln_X11_holdsAs : ∀ (n : Nat) {a0 : Nat} {a1 : Int32} {a2 : Int32} {H : qx_H} {r : Int32} {H' : qx_H}, fm_X11_holdsAs n a0 a1 a2 H = some (r, H') → H'.length = H.length := by
  intro n
  induction n with
  | zero => intro a0 a1 a2 H r H' h; exact nomatch (show (none : Option (Int32 × qx_H)) = some (r, H') from h)
  | succ n ih =>
    intro a0 a1 a2 H r H' h
    exact tlb_X11_holdsAs_0 (fm_X11_holdsAs n) (fun h => ih h) a0 a1 a2 H h
theorem tl_X11_holdsAs {a0 : Nat} {a1 : Int32} {a2 : Int32} {H : qx_H} {r : Int32} {H' : qx_H} (h : fm_X11_holdsAs 6 a0 a1 a2 H = some (r, H')) : H'.length = H.length := tln_X11_holdsAs _ h
theorem thn_X11_holdsAs {st : xT} : ∀ (n : Nat) {a0 : Nat} {a1 : Int32} {a2 : Int32} {H : qx_H} {r : Int32} {H' : qx_H}, fm_X11_holdsAs n a0 a1 a2 H = some (r, H') → xE st (1 + 1 * n) 213 [.ref a0, .int a1, .int a2] H (some (.int r)) H' := by
  intro n
  induction n with
  | zero => intro a0 a1 a2 H r H' h; exact nomatch (show (none : Option (Int32 × qx_H)) = some (r, H') from h)
  | succ n ih =>
    intro a0 a1 a2 H r H' h
    have hx : xE st (1 + 1 * n + 1) 213 [.ref a0, .int a1, .int a2] H (some (.int r)) H' := by
      exact xE_of (xe213 st) xl213 (Nat.le_of_ble_eq_true rfl) (ls := [some (.ref a0), some (.int a1), some (.int a2)]) rfl (tb_X11_holdsAs_0 (e := 1 + 1 * n) (fm_X11_holdsAs n) (by omega) (fun h => ih h) (fun h => tln_X11_holdsAs n h) (Nat.le_refl _) ⟨rfl, rfl⟩ a0 a1 a2 H h)
    exact xE_le (by omega) hx
theorem th_X11_holdsAs {st : xT} {d : Nat} (hd : 7 ≤ d) {a0 : Nat} {a1 : Int32} {a2 : Int32} {H : qx_H} {r : Int32} {H' : qx_H} (h : fm_X11_holdsAs 6 a0 a1 a2 H = some (r, H')) : xE st d 213 [.ref a0, .int a1, .int a2] H (some (.int r)) H' := xE_le (by omega) (thn_X11_holdsAs 6 h)
def fm_X11_slipsAs_e (rc : Nat → Int32 → Int32 → qx_H → Option (Int32 × qx_H)) (a0 : Nat) (a1 : Int32) (a2 : Int32) (H : qx_H) : Option (Int32 × qx_H) := if a1 = 0 then (if hp_is H a0 9 = true then ((fm_X11_begins a0 11 H).bind fun H47 => if hp_is H47 a0 9 = true then ((fm_X11_kindNow a0 H47).bind fun v52 => ob2 (fm_X11_holdsAs 6 a0 v52 a2 H47) fun v56 H56 => some (v56 * 2, H56)) else none) else none) else if a1 = 1 then (if hp_is H a0 9 = true then (ob2 (rc a0 (fm_X11_above a1) a2 H) fun v126 H126 => some (v126, H126)) else none) else if a1 = 2 then (if hp_is H a0 9 = true then ((fm_X11_begins a0 30 H).bind fun H65 => if hp_is H65 a0 9 = true then (ob2 (rc a0 (fm_X11_above 2) a2 H65) fun v75 H75 => some (0 - v75, H75)) else none) else none) else if a1 = 3 then (if hp_is H a0 9 = true then (ob2 (rc a0 (fm_X11_above a1) a2 H) fun v126 H126 => some (v126, H126)) else none) else if a1 = 4 then (if hp_is H a0 9 = true then (ob2 (rc a0 (fm_X11_above a1) a2 H) fun v126 H126 => some (v126, H126)) else none) else if a1 = 5 then (if hp_is H a0 9 = true then ((fm_X11_begins a0 60 H).bind fun H83 => if hp_is H83 a0 9 = true then (ob2 (rc a0 (fm_X11_above 5) (a2 + 1) H83) fun v94 H94 => some (v94, H94)) else none) else none) else if a1 = 6 then (if hp_is H a0 9 = true then ((fm_X11_begins a0 71 H).bind fun H101 => if hp_is H101 a0 9 = true then (ob2 (rc a0 (fm_X11_above 6) a2 H101) fun v111 H111 => if hp_is H111 a0 9 = true then ((fm_X11_mNow a0 H111).bind fun v115 => some (v111 + v115, H111)) else none) else none) else none) else (if hp_is H a0 9 = true then (ob2 (rc a0 (fm_X11_above a1) a2 H) fun v126 H126 => some (v126, H126)) else none)
def fm_X11_slipsAs : Nat → Nat → Int32 → Int32 → qx_H → Option (Int32 × qx_H)
  | 0, _, _, _, _ => none
  | n + 1, a0, a1, a2, H => fm_X11_slipsAs_e (fm_X11_slipsAs n) a0 a1 a2 H
theorem tb_X11_slipsAs_0 {st : xT} {e : Nat} {d : Nat} {R : Option Value → qx_H → Prop} (rc : Nat → Int32 → Int32 → qx_H → Option (Int32 × qx_H)) (hB : 7 ≤ e) (hrc : ∀ {b0 : Nat} {b1 : Int32} {b2 : Int32} {H1 H2 : qx_H} {r1 : Int32}, rc b0 b1 b2 H1 = some (r1, H2) → xE st e 214 [.ref b0, .int b1, .int b2] H1 (some (.int r1)) H2) (hrl : ∀ {b0 : Nat} {b1 : Int32} {b2 : Int32} {H1 H2 : qx_H} {r1 : Int32}, rc b0 b1 b2 H1 = some (r1, H2) → H2.length = H1.length) (hd : e + 0 ≤ d) {r : Int32} {H' : qx_H} (hR : R (some (.int r)) H') (a0 : Nat) (a1 : Int32) (a2 : Int32) (H : qx_H) (h : fm_X11_slipsAs_e rc a0 a1 a2 H = some (r, H')) : qx_V (xE st d) R (xc214 st) (0, [some (.ref a0), some (.int a1), some (.int a2)], [], H) := by
  unfold fm_X11_slipsAs_e at h
  refine qv_run 2 (σ := (qx_swt a1 120 [(0, 44), (1, 120), (2, 62), (3, 120), (4, 120), (5, 80), (6, 98)], [some (.ref a0), some (.int a1), some (.int a2)], [], H)) rfl ?_
  refine qv_swt (fun c1_0 => ?_) (fun c1_0 => ?_)
  · replace h := qv_pos c1_0 h
    refine qv_run 2 (σ := (47, [some (.ref a0), some (.int a1), some (.int a2)], [.int 11, .ref a0], H)) rfl ?_
    obtain ⟨g47, h⟩ := qv_guard h
    obtain ⟨H47, e47, h⟩ := qv_bind h
    refine qv_callV [.int 11] rfl rfl rfl (Nat.le_of_ble_eq_true rfl) g47 (th_X11_begins (by omega) e47) (tl_X11_begins e47) ?_
    refine qv_run 2 (σ := (52, [some (.ref a0), some (.int a1), some (.int a2)], [.ref a0, .ref a0], H47)) rfl ?_
    obtain ⟨g52, h⟩ := qv_guard h
    obtain ⟨v52, e52, h⟩ := qv_bind h
    refine qv_callV [] rfl rfl rfl (Nat.le_of_ble_eq_true rfl) g52 (th_X11_kindNow (by omega) e52) rfl ?_
    refine qv_run 1 (σ := (56, [some (.ref a0), some (.int a1), some (.int a2)], [.int a2, .int v52, .ref a0], H47)) rfl ?_
    obtain ⟨v56, H56, e56, h⟩ := qv_bind2 h
    refine qv_callV [.int v52, .int a2] rfl rfl rfl (Nat.le_of_ble_eq_true rfl) g52 (th_X11_holdsAs (by omega) e56) (tl_X11_holdsAs e56) ?_
    refine qv_run 2 (σ := (61, [some (.ref a0), some (.int a1), some (.int a2)], [.int (v56 * 2)], H56)) rfl ?_
    obtain ⟨rfl, rfl⟩ := qv_pair h
    exact qv_reti rfl hR
  · replace h := qv_neg c1_0 h
    refine qv_swt (fun c1_1 => ?_) (fun c1_1 => ?_)
    · replace h := qv_pos c1_1 h
      refine qv_run 2 (σ := (122, [some (.ref a0), some (.int a1), some (.int a2)], [.int a1, .ref a0], H)) rfl ?_
      refine qv_call [.int a1] rfl rfl rfl (Nat.le_of_ble_eq_true rfl) (th_X11_above (by omega) rfl) rfl ?_
      refine qv_run 1 (σ := (126, [some (.ref a0), some (.int a1), some (.int a2)], [.int a2, .int (fm_X11_above a1), .ref a0], H)) rfl ?_
      obtain ⟨g126, h⟩ := qv_guard h
      obtain ⟨v126, H126, e126, h⟩ := qv_bind2 h
      refine qv_callV [.int (fm_X11_above a1), .int a2] rfl rfl rfl (Nat.le_of_ble_eq_true rfl) g126 (xE_le (by omega) (hrc e126)) (hrl e126) ?_
      obtain ⟨rfl, rfl⟩ := qv_pair h
      exact qv_reti rfl hR
    · replace h := qv_neg c1_1 h
      refine qv_swt (fun c1_2 => ?_) (fun c1_2 => ?_)
      · replace h := qv_pos c1_2 h
        refine qv_run 2 (σ := (65, [some (.ref a0), some (.int a1), some (.int a2)], [.int 30, .ref a0], H)) rfl ?_
        obtain ⟨g65, h⟩ := qv_guard h
        obtain ⟨H65, e65, h⟩ := qv_bind h
        refine qv_callV [.int 30] rfl rfl rfl (Nat.le_of_ble_eq_true rfl) g65 (th_X11_begins (by omega) e65) (tl_X11_begins e65) ?_
        refine qv_run 3 (σ := (71, [some (.ref a0), some (.int a1), some (.int a2)], [.int 2, .ref a0, .int 0], H65)) rfl ?_
        refine qv_call [.int 2] rfl rfl rfl (Nat.le_of_ble_eq_true rfl) (th_X11_above (by omega) rfl) rfl ?_
        refine qv_run 1 (σ := (75, [some (.ref a0), some (.int a1), some (.int a2)], [.int a2, .int (fm_X11_above 2), .ref a0, .int 0], H65)) rfl ?_
        obtain ⟨g75, h⟩ := qv_guard h
        obtain ⟨v75, H75, e75, h⟩ := qv_bind2 h
        refine qv_callV [.int (fm_X11_above 2), .int a2] rfl rfl rfl (Nat.le_of_ble_eq_true rfl) g75 (xE_le (by omega) (hrc e75)) (hrl e75) ?_
        refine qv_run 1 (σ := (79, [some (.ref a0), some (.int a1), some (.int a2)], [.int (0 - v75)], H75)) rfl ?_
        obtain ⟨rfl, rfl⟩ := qv_pair h
        exact qv_reti rfl hR
      · replace h := qv_neg c1_2 h
        refine qv_swt (fun c1_3 => ?_) (fun c1_3 => ?_)
        · replace h := qv_pos c1_3 h
          refine qv_run 2 (σ := (122, [some (.ref a0), some (.int a1), some (.int a2)], [.int a1, .ref a0], H)) rfl ?_
          refine qv_call [.int a1] rfl rfl rfl (Nat.le_of_ble_eq_true rfl) (th_X11_above (by omega) rfl) rfl ?_
          refine qv_run 1 (σ := (126, [some (.ref a0), some (.int a1), some (.int a2)], [.int a2, .int (fm_X11_above a1), .ref a0], H)) rfl ?_
          obtain ⟨g126, h⟩ := qv_guard h
          obtain ⟨v126, H126, e126, h⟩ := qv_bind2 h
          refine qv_callV [.int (fm_X11_above a1), .int a2] rfl rfl rfl (Nat.le_of_ble_eq_true rfl) g126 (xE_le (by omega) (hrc e126)) (hrl e126) ?_
          obtain ⟨rfl, rfl⟩ := qv_pair h
          exact qv_reti rfl hR
        · replace h := qv_neg c1_3 h
          refine qv_swt (fun c1_4 => ?_) (fun c1_4 => ?_)
          · replace h := qv_pos c1_4 h
            refine qv_run 2 (σ := (122, [some (.ref a0), some (.int a1), some (.int a2)], [.int a1, .ref a0], H)) rfl ?_
            refine qv_call [.int a1] rfl rfl rfl (Nat.le_of_ble_eq_true rfl) (th_X11_above (by omega) rfl) rfl ?_
            refine qv_run 1 (σ := (126, [some (.ref a0), some (.int a1), some (.int a2)], [.int a2, .int (fm_X11_above a1), .ref a0], H)) rfl ?_
            obtain ⟨g126, h⟩ := qv_guard h
            obtain ⟨v126, H126, e126, h⟩ := qv_bind2 h
            refine qv_callV [.int (fm_X11_above a1), .int a2] rfl rfl rfl (Nat.le_of_ble_eq_true rfl) g126 (xE_le (by omega) (hrc e126)) (hrl e126) ?_
            obtain ⟨rfl, rfl⟩ := qv_pair h
            exact qv_reti rfl hR
          · replace h := qv_neg c1_4 h
            refine qv_swt (fun c1_5 => ?_) (fun c1_5 => ?_)
            · replace h := qv_pos c1_5 h
              refine qv_run 2 (σ := (83, [some (.ref a0), some (.int a1), some (.int a2)], [.int 60, .ref a0], H)) rfl ?_
              obtain ⟨g83, h⟩ := qv_guard h
              obtain ⟨H83, e83, h⟩ := qv_bind h
              refine qv_callV [.int 60] rfl rfl rfl (Nat.le_of_ble_eq_true rfl) g83 (th_X11_begins (by omega) e83) (tl_X11_begins e83) ?_
              refine qv_run 2 (σ := (88, [some (.ref a0), some (.int a1), some (.int a2)], [.int 5, .ref a0], H83)) rfl ?_
              refine qv_call [.int 5] rfl rfl rfl (Nat.le_of_ble_eq_true rfl) (th_X11_above (by omega) rfl) rfl ?_
              refine qv_run 3 (σ := (94, [some (.ref a0), some (.int a1), some (.int a2)], [.int (a2 + 1), .int (fm_X11_above 5), .ref a0], H83)) rfl ?_
              obtain ⟨g94, h⟩ := qv_guard h
              obtain ⟨v94, H94, e94, h⟩ := qv_bind2 h
              refine qv_callV [.int (fm_X11_above 5), .int (a2 + 1)] rfl rfl rfl (Nat.le_of_ble_eq_true rfl) g94 (xE_le (by omega) (hrc e94)) (hrl e94) ?_
              obtain ⟨rfl, rfl⟩ := qv_pair h
              exact qv_reti rfl hR
            · replace h := qv_neg c1_5 h
              refine qv_swt (fun c1_6 => ?_) (fun c1_6 => ?_)
              · replace h := qv_pos c1_6 h
                refine qv_run 2 (σ := (101, [some (.ref a0), some (.int a1), some (.int a2)], [.int 71, .ref a0], H)) rfl ?_
                obtain ⟨g101, h⟩ := qv_guard h
                obtain ⟨H101, e101, h⟩ := qv_bind h
                refine qv_callV [.int 71] rfl rfl rfl (Nat.le_of_ble_eq_true rfl) g101 (th_X11_begins (by omega) e101) (tl_X11_begins e101) ?_
                refine qv_run 2 (σ := (107, [some (.ref a0), some (.int a1), some (.int a2)], [.int 6, .ref a0], H101)) rfl ?_
                refine qv_call [.int 6] rfl rfl rfl (Nat.le_of_ble_eq_true rfl) (th_X11_above (by omega) rfl) rfl ?_
                refine qv_run 1 (σ := (111, [some (.ref a0), some (.int a1), some (.int a2)], [.int a2, .int (fm_X11_above 6), .ref a0], H101)) rfl ?_
                obtain ⟨g111, h⟩ := qv_guard h
                obtain ⟨v111, H111, e111, h⟩ := qv_bind2 h
                refine qv_callV [.int (fm_X11_above 6), .int a2] rfl rfl rfl (Nat.le_of_ble_eq_true rfl) g111 (xE_le (by omega) (hrc e111)) (hrl e111) ?_
                refine qv_run 1 (σ := (115, [some (.ref a0), some (.int a1), some (.int a2)], [.ref a0, .int v111], H111)) rfl ?_
                obtain ⟨g115, h⟩ := qv_guard h
                obtain ⟨v115, e115, h⟩ := qv_bind h
                refine qv_callV [] rfl rfl rfl (Nat.le_of_ble_eq_true rfl) g115 (th_X11_mNow (by omega) e115) rfl ?_
                refine qv_run 1 (σ := (119, [some (.ref a0), some (.int a1), some (.int a2)], [.int (v111 + v115)], H111)) rfl ?_
                obtain ⟨rfl, rfl⟩ := qv_pair h
                exact qv_reti rfl hR
              · replace h := qv_neg c1_6 h
                refine qv_sw0 ?_
                refine qv_run 2 (σ := (122, [some (.ref a0), some (.int a1), some (.int a2)], [.int a1, .ref a0], H)) rfl ?_
                refine qv_call [.int a1] rfl rfl rfl (Nat.le_of_ble_eq_true rfl) (th_X11_above (by omega) rfl) rfl ?_
                refine qv_run 1 (σ := (126, [some (.ref a0), some (.int a1), some (.int a2)], [.int a2, .int (fm_X11_above a1), .ref a0], H)) rfl ?_
                obtain ⟨g126, h⟩ := qv_guard h
                obtain ⟨v126, H126, e126, h⟩ := qv_bind2 h
                refine qv_callV [.int (fm_X11_above a1), .int a2] rfl rfl rfl (Nat.le_of_ble_eq_true rfl) g126 (xE_le (by omega) (hrc e126)) (hrl e126) ?_
                obtain ⟨rfl, rfl⟩ := qv_pair h
                exact qv_reti rfl hR
theorem tlb_X11_slipsAs_0 (rc : Nat → Int32 → Int32 → qx_H → Option (Int32 × qx_H)) (hrl : ∀ {b0 : Nat} {b1 : Int32} {b2 : Int32} {H1 H2 : qx_H} {r1 : Int32}, rc b0 b1 b2 H1 = some (r1, H2) → H2.length = H1.length) {r : Int32} {H' : qx_H} (a0 : Nat) (a1 : Int32) (a2 : Int32) (H : qx_H) (h : fm_X11_slipsAs_e rc a0 a1 a2 H = some (r, H')) : H'.length = H.length := by
  unfold fm_X11_slipsAs_e at h
  by_cases c1_0 : a1 = 0
  · replace h := qv_pos c1_0 h
    obtain ⟨g47, h⟩ := qv_guard h
    obtain ⟨H47, e47, h⟩ := qv_bind h
    have q_H47 := tl_X11_begins e47
    obtain ⟨g52, h⟩ := qv_guard h
    obtain ⟨v52, e52, h⟩ := qv_bind h
    obtain ⟨v56, H56, e56, h⟩ := qv_bind2 h
    have q_H56 := tl_X11_holdsAs e56
    obtain ⟨rfl, rfl⟩ := qv_pair h
    omega
  · replace h := qv_neg c1_0 h
    by_cases c1_1 : a1 = 1
    · replace h := qv_pos c1_1 h
      obtain ⟨g126, h⟩ := qv_guard h
      obtain ⟨v126, H126, e126, h⟩ := qv_bind2 h
      have q_H126 := hrl e126
      obtain ⟨rfl, rfl⟩ := qv_pair h
      omega
    · replace h := qv_neg c1_1 h
      by_cases c1_2 : a1 = 2
      · replace h := qv_pos c1_2 h
        obtain ⟨g65, h⟩ := qv_guard h
        obtain ⟨H65, e65, h⟩ := qv_bind h
        have q_H65 := tl_X11_begins e65
        obtain ⟨g75, h⟩ := qv_guard h
        obtain ⟨v75, H75, e75, h⟩ := qv_bind2 h
        have q_H75 := hrl e75
        obtain ⟨rfl, rfl⟩ := qv_pair h
        omega
      · replace h := qv_neg c1_2 h
        by_cases c1_3 : a1 = 3
        · replace h := qv_pos c1_3 h
          obtain ⟨g126, h⟩ := qv_guard h
          obtain ⟨v126, H126, e126, h⟩ := qv_bind2 h
          have q_H126 := hrl e126
          obtain ⟨rfl, rfl⟩ := qv_pair h
          omega
        · replace h := qv_neg c1_3 h
          by_cases c1_4 : a1 = 4
          · replace h := qv_pos c1_4 h
            obtain ⟨g126, h⟩ := qv_guard h
            obtain ⟨v126, H126, e126, h⟩ := qv_bind2 h
            have q_H126 := hrl e126
            obtain ⟨rfl, rfl⟩ := qv_pair h
            omega
          · replace h := qv_neg c1_4 h
            by_cases c1_5 : a1 = 5
            · replace h := qv_pos c1_5 h
              obtain ⟨g83, h⟩ := qv_guard h
              obtain ⟨H83, e83, h⟩ := qv_bind h
              have q_H83 := tl_X11_begins e83
              obtain ⟨g94, h⟩ := qv_guard h
              obtain ⟨v94, H94, e94, h⟩ := qv_bind2 h
              have q_H94 := hrl e94
              obtain ⟨rfl, rfl⟩ := qv_pair h
              omega
            · replace h := qv_neg c1_5 h
              by_cases c1_6 : a1 = 6
              · replace h := qv_pos c1_6 h
                obtain ⟨g101, h⟩ := qv_guard h
                obtain ⟨H101, e101, h⟩ := qv_bind h
                have q_H101 := tl_X11_begins e101
                obtain ⟨g111, h⟩ := qv_guard h
                obtain ⟨v111, H111, e111, h⟩ := qv_bind2 h
                have q_H111 := hrl e111
                obtain ⟨g115, h⟩ := qv_guard h
                obtain ⟨v115, e115, h⟩ := qv_bind h
                obtain ⟨rfl, rfl⟩ := qv_pair h
                omega
              · replace h := qv_neg c1_6 h
                obtain ⟨g126, h⟩ := qv_guard h
                obtain ⟨v126, H126, e126, h⟩ := qv_bind2 h
                have q_H126 := hrl e126
                obtain ⟨rfl, rfl⟩ := qv_pair h
                omega
theorem tln_X11_slipsAs : ∀ (n : Nat) {a0 : Nat} {a1 : Int32} {a2 : Int32} {H : qx_H} {r : Int32} {H' : qx_H}, fm_X11_slipsAs n a0 a1 a2 H = some (r, H') → H'.length = H.length := by
  intro n
  induction n with
  | zero => intro a0 a1 a2 H r H' h; exact nomatch (show (none : Option (Int32 × qx_H)) = some (r, H') from h)
  | succ n ih =>
    intro a0 a1 a2 H r H' h
    exact tlb_X11_slipsAs_0 (fm_X11_slipsAs n) (fun h => ih h) a0 a1 a2 H h
theorem tl_X11_slipsAs {a0 : Nat} {a1 : Int32} {a2 : Int32} {H : qx_H} {r : Int32} {H' : qx_H} (h : fm_X11_slipsAs 6 a0 a1 a2 H = some (r, H')) : H'.length = H.length := tln_X11_slipsAs _ h
theorem thn_X11_slipsAs {st : xT} : ∀ (n : Nat) {a0 : Nat} {a1 : Int32} {a2 : Int32} {H : qx_H} {r : Int32} {H' : qx_H}, fm_X11_slipsAs n a0 a1 a2 H = some (r, H') → xE st (7 + 1 * n) 214 [.ref a0, .int a1, .int a2] H (some (.int r)) H' := by
  intro n
  induction n with
  | zero => intro a0 a1 a2 H r H' h; exact nomatch (show (none : Option (Int32 × qx_H)) = some (r, H') from h)
  | succ n ih =>
    intro a0 a1 a2 H r H' h
    have hx : xE st (7 + 1 * n + 1) 214 [.ref a0, .int a1, .int a2] H (some (.int r)) H' := by
      exact xE_of (xe214 st) xl214 (Nat.le_of_ble_eq_true rfl) (ls := [some (.ref a0), some (.int a1), some (.int a2)]) rfl (tb_X11_slipsAs_0 (e := 7 + 1 * n) (fm_X11_slipsAs n) (by omega) (fun h => ih h) (fun h => tln_X11_slipsAs n h) (Nat.le_refl _) ⟨rfl, rfl⟩ a0 a1 a2 H h)
    exact xE_le (by omega) hx
theorem th_X11_slipsAs {st : xT} {d : Nat} (hd : 13 ≤ d) {a0 : Nat} {a1 : Int32} {a2 : Int32} {H : qx_H} {r : Int32} {H' : qx_H} (h : fm_X11_slipsAs 6 a0 a1 a2 H = some (r, H')) : xE st d 214 [.ref a0, .int a1, .int a2] H (some (.int r)) H' := xE_le (by omega) (thn_X11_slipsAs 6 h)
def fm_X11_tiesAs_e (rc : Nat → Int32 → Int32 → qx_H → Option (Int32 × qx_H)) (a0 : Nat) (a1 : Int32) (a2 : Int32) (H : qx_H) : Option (Int32 × qx_H) := if a1 = 0 then (if hp_is H a0 9 = true then ((fm_X11_begins a0 12 H).bind fun H39 => if hp_is H39 a0 9 = true then ((fm_X11_kindNow a0 H39).bind fun v44 => ob2 (fm_X11_slipsAs 6 a0 v44 a2 H39) fun v48 H48 => if hp_is H48 a0 9 = true then ((fm_X11_mNow a0 H48).bind fun v52 => some (v48 - v52, H48)) else none) else none) else none) else if a1 = 1 then (if hp_is H a0 9 = true then (ob2 (rc a0 (fm_X11_above a1) a2 H) fun v102 H102 => some (v102, H102)) else none) else if a1 = 2 then (if hp_is H a0 9 = true then (ob2 (rc a0 (fm_X11_above a1) a2 H) fun v102 H102 => some (v102, H102)) else none) else if a1 = 3 then (if hp_is H a0 9 = true then ((fm_X11_begins a0 40 H).bind fun H60 => if hp_is H60 a0 9 = true then (ob2 (rc a0 (fm_X11_above 3) (a2 / 2) H60) fun v71 H71 => some (v71, H71)) else none) else none) else if a1 = 4 then (if hp_is H a0 9 = true then ((fm_X11_begins a0 51 H).bind fun H78 => if hp_is H78 a0 9 = true then (ob2 (rc a0 (fm_X11_above 4) a2 H78) fun v87 H87 => (hp_gI H87 a0 9 17).bind fun v91 => some (v87 ^^^ v91, H87)) else none) else none) else (if hp_is H a0 9 = true then (ob2 (rc a0 (fm_X11_above a1) a2 H) fun v102 H102 => some (v102, H102)) else none)
def fm_X11_tiesAs : Nat → Nat → Int32 → Int32 → qx_H → Option (Int32 × qx_H)
  | 0, _, _, _, _ => none
  | n + 1, a0, a1, a2, H => fm_X11_tiesAs_e (fm_X11_tiesAs n) a0 a1 a2 H
theorem tb_X11_tiesAs_0 {st : xT} {e : Nat} {d : Nat} {R : Option Value → qx_H → Prop} (rc : Nat → Int32 → Int32 → qx_H → Option (Int32 × qx_H)) (hB : 13 ≤ e) (hrc : ∀ {b0 : Nat} {b1 : Int32} {b2 : Int32} {H1 H2 : qx_H} {r1 : Int32}, rc b0 b1 b2 H1 = some (r1, H2) → xE st e 215 [.ref b0, .int b1, .int b2] H1 (some (.int r1)) H2) (hrl : ∀ {b0 : Nat} {b1 : Int32} {b2 : Int32} {H1 H2 : qx_H} {r1 : Int32}, rc b0 b1 b2 H1 = some (r1, H2) → H2.length = H1.length) (hd : e + 0 ≤ d) {r : Int32} {H' : qx_H} (hR : R (some (.int r)) H') (a0 : Nat) (a1 : Int32) (a2 : Int32) (H : qx_H) (h : fm_X11_tiesAs_e rc a0 a1 a2 H = some (r, H')) : qx_V (xE st d) R (xc215 st) (0, [some (.ref a0), some (.int a1), some (.int a2)], [], H) := by
  unfold fm_X11_tiesAs_e at h
  refine qv_run 2 (σ := (qx_swt a1 96 [(0, 36), (1, 96), (2, 96), (3, 57), (4, 75)], [some (.ref a0), some (.int a1), some (.int a2)], [], H)) rfl ?_
  refine qv_swt (fun c1_0 => ?_) (fun c1_0 => ?_)
  · replace h := qv_pos c1_0 h
    refine qv_run 2 (σ := (39, [some (.ref a0), some (.int a1), some (.int a2)], [.int 12, .ref a0], H)) rfl ?_
    obtain ⟨g39, h⟩ := qv_guard h
    obtain ⟨H39, e39, h⟩ := qv_bind h
    refine qv_callV [.int 12] rfl rfl rfl (Nat.le_of_ble_eq_true rfl) g39 (th_X11_begins (by omega) e39) (tl_X11_begins e39) ?_
    refine qv_run 2 (σ := (44, [some (.ref a0), some (.int a1), some (.int a2)], [.ref a0, .ref a0], H39)) rfl ?_
    obtain ⟨g44, h⟩ := qv_guard h
    obtain ⟨v44, e44, h⟩ := qv_bind h
    refine qv_callV [] rfl rfl rfl (Nat.le_of_ble_eq_true rfl) g44 (th_X11_kindNow (by omega) e44) rfl ?_
    refine qv_run 1 (σ := (48, [some (.ref a0), some (.int a1), some (.int a2)], [.int a2, .int v44, .ref a0], H39)) rfl ?_
    obtain ⟨v48, H48, e48, h⟩ := qv_bind2 h
    refine qv_callV [.int v44, .int a2] rfl rfl rfl (Nat.le_of_ble_eq_true rfl) g44 (th_X11_slipsAs (by omega) e48) (tl_X11_slipsAs e48) ?_
    refine qv_run 1 (σ := (52, [some (.ref a0), some (.int a1), some (.int a2)], [.ref a0, .int v48], H48)) rfl ?_
    obtain ⟨g52, h⟩ := qv_guard h
    obtain ⟨v52, e52, h⟩ := qv_bind h
    refine qv_callV [] rfl rfl rfl (Nat.le_of_ble_eq_true rfl) g52 (th_X11_mNow (by omega) e52) rfl ?_
    refine qv_run 1 (σ := (56, [some (.ref a0), some (.int a1), some (.int a2)], [.int (v48 - v52)], H48)) rfl ?_
    obtain ⟨rfl, rfl⟩ := qv_pair h
    exact qv_reti rfl hR
  · replace h := qv_neg c1_0 h
    refine qv_swt (fun c1_1 => ?_) (fun c1_1 => ?_)
    · replace h := qv_pos c1_1 h
      refine qv_run 2 (σ := (98, [some (.ref a0), some (.int a1), some (.int a2)], [.int a1, .ref a0], H)) rfl ?_
      refine qv_call [.int a1] rfl rfl rfl (Nat.le_of_ble_eq_true rfl) (th_X11_above (by omega) rfl) rfl ?_
      refine qv_run 1 (σ := (102, [some (.ref a0), some (.int a1), some (.int a2)], [.int a2, .int (fm_X11_above a1), .ref a0], H)) rfl ?_
      obtain ⟨g102, h⟩ := qv_guard h
      obtain ⟨v102, H102, e102, h⟩ := qv_bind2 h
      refine qv_callV [.int (fm_X11_above a1), .int a2] rfl rfl rfl (Nat.le_of_ble_eq_true rfl) g102 (xE_le (by omega) (hrc e102)) (hrl e102) ?_
      obtain ⟨rfl, rfl⟩ := qv_pair h
      exact qv_reti rfl hR
    · replace h := qv_neg c1_1 h
      refine qv_swt (fun c1_2 => ?_) (fun c1_2 => ?_)
      · replace h := qv_pos c1_2 h
        refine qv_run 2 (σ := (98, [some (.ref a0), some (.int a1), some (.int a2)], [.int a1, .ref a0], H)) rfl ?_
        refine qv_call [.int a1] rfl rfl rfl (Nat.le_of_ble_eq_true rfl) (th_X11_above (by omega) rfl) rfl ?_
        refine qv_run 1 (σ := (102, [some (.ref a0), some (.int a1), some (.int a2)], [.int a2, .int (fm_X11_above a1), .ref a0], H)) rfl ?_
        obtain ⟨g102, h⟩ := qv_guard h
        obtain ⟨v102, H102, e102, h⟩ := qv_bind2 h
        refine qv_callV [.int (fm_X11_above a1), .int a2] rfl rfl rfl (Nat.le_of_ble_eq_true rfl) g102 (xE_le (by omega) (hrc e102)) (hrl e102) ?_
        obtain ⟨rfl, rfl⟩ := qv_pair h
        exact qv_reti rfl hR
      · replace h := qv_neg c1_2 h
        refine qv_swt (fun c1_3 => ?_) (fun c1_3 => ?_)
        · replace h := qv_pos c1_3 h
          refine qv_run 2 (σ := (60, [some (.ref a0), some (.int a1), some (.int a2)], [.int 40, .ref a0], H)) rfl ?_
          obtain ⟨g60, h⟩ := qv_guard h
          obtain ⟨H60, e60, h⟩ := qv_bind h
          refine qv_callV [.int 40] rfl rfl rfl (Nat.le_of_ble_eq_true rfl) g60 (th_X11_begins (by omega) e60) (tl_X11_begins e60) ?_
          refine qv_run 2 (σ := (65, [some (.ref a0), some (.int a1), some (.int a2)], [.int 3, .ref a0], H60)) rfl ?_
          refine qv_call [.int 3] rfl rfl rfl (Nat.le_of_ble_eq_true rfl) (th_X11_above (by omega) rfl) rfl ?_
          refine qv_run 2 (σ := (70, [some (.ref a0), some (.int a1), some (.int a2)], [.int 2, .int a2, .int (fm_X11_above 3), .ref a0], H60)) rfl ?_
          refine qv_div rfl (by decide) ?_
          obtain ⟨g71, h⟩ := qv_guard h
          obtain ⟨v71, H71, e71, h⟩ := qv_bind2 h
          refine qv_callV [.int (fm_X11_above 3), .int (a2 / 2)] rfl rfl rfl (Nat.le_of_ble_eq_true rfl) g71 (xE_le (by omega) (hrc e71)) (hrl e71) ?_
          obtain ⟨rfl, rfl⟩ := qv_pair h
          exact qv_reti rfl hR
        · replace h := qv_neg c1_3 h
          refine qv_swt (fun c1_4 => ?_) (fun c1_4 => ?_)
          · replace h := qv_pos c1_4 h
            refine qv_run 2 (σ := (78, [some (.ref a0), some (.int a1), some (.int a2)], [.int 51, .ref a0], H)) rfl ?_
            obtain ⟨g78, h⟩ := qv_guard h
            obtain ⟨H78, e78, h⟩ := qv_bind h
            refine qv_callV [.int 51] rfl rfl rfl (Nat.le_of_ble_eq_true rfl) g78 (th_X11_begins (by omega) e78) (tl_X11_begins e78) ?_
            refine qv_run 2 (σ := (83, [some (.ref a0), some (.int a1), some (.int a2)], [.int 4, .ref a0], H78)) rfl ?_
            refine qv_call [.int 4] rfl rfl rfl (Nat.le_of_ble_eq_true rfl) (th_X11_above (by omega) rfl) rfl ?_
            refine qv_run 1 (σ := (87, [some (.ref a0), some (.int a1), some (.int a2)], [.int a2, .int (fm_X11_above 4), .ref a0], H78)) rfl ?_
            obtain ⟨g87, h⟩ := qv_guard h
            obtain ⟨v87, H87, e87, h⟩ := qv_bind2 h
            refine qv_callV [.int (fm_X11_above 4), .int a2] rfl rfl rfl (Nat.le_of_ble_eq_true rfl) g87 (xE_le (by omega) (hrc e87)) (hrl e87) ?_
            refine qv_run 1 (σ := (91, [some (.ref a0), some (.int a1), some (.int a2)], [.ref a0, .int v87], H87)) rfl ?_
            obtain ⟨v91, e91, h⟩ := qv_bind h
            refine qv_getI rfl e91 ?_
            refine qv_run 1 (σ := (95, [some (.ref a0), some (.int a1), some (.int a2)], [.int (v87 ^^^ v91)], H87)) rfl ?_
            obtain ⟨rfl, rfl⟩ := qv_pair h
            exact qv_reti rfl hR
          · replace h := qv_neg c1_4 h
            refine qv_sw0 ?_
            refine qv_run 2 (σ := (98, [some (.ref a0), some (.int a1), some (.int a2)], [.int a1, .ref a0], H)) rfl ?_
            refine qv_call [.int a1] rfl rfl rfl (Nat.le_of_ble_eq_true rfl) (th_X11_above (by omega) rfl) rfl ?_
            refine qv_run 1 (σ := (102, [some (.ref a0), some (.int a1), some (.int a2)], [.int a2, .int (fm_X11_above a1), .ref a0], H)) rfl ?_
            obtain ⟨g102, h⟩ := qv_guard h
            obtain ⟨v102, H102, e102, h⟩ := qv_bind2 h
            refine qv_callV [.int (fm_X11_above a1), .int a2] rfl rfl rfl (Nat.le_of_ble_eq_true rfl) g102 (xE_le (by omega) (hrc e102)) (hrl e102) ?_
            obtain ⟨rfl, rfl⟩ := qv_pair h
            exact qv_reti rfl hR
theorem tlb_X11_tiesAs_0 (rc : Nat → Int32 → Int32 → qx_H → Option (Int32 × qx_H)) (hrl : ∀ {b0 : Nat} {b1 : Int32} {b2 : Int32} {H1 H2 : qx_H} {r1 : Int32}, rc b0 b1 b2 H1 = some (r1, H2) → H2.length = H1.length) {r : Int32} {H' : qx_H} (a0 : Nat) (a1 : Int32) (a2 : Int32) (H : qx_H) (h : fm_X11_tiesAs_e rc a0 a1 a2 H = some (r, H')) : H'.length = H.length := by
  unfold fm_X11_tiesAs_e at h
  by_cases c1_0 : a1 = 0
  · replace h := qv_pos c1_0 h
    obtain ⟨g39, h⟩ := qv_guard h
    obtain ⟨H39, e39, h⟩ := qv_bind h
    have q_H39 := tl_X11_begins e39
    obtain ⟨g44, h⟩ := qv_guard h
    obtain ⟨v44, e44, h⟩ := qv_bind h
    obtain ⟨v48, H48, e48, h⟩ := qv_bind2 h
    have q_H48 := tl_X11_slipsAs e48
    obtain ⟨g52, h⟩ := qv_guard h
    obtain ⟨v52, e52, h⟩ := qv_bind h
    obtain ⟨rfl, rfl⟩ := qv_pair h
    omega
  · replace h := qv_neg c1_0 h
    by_cases c1_1 : a1 = 1
    · replace h := qv_pos c1_1 h
      obtain ⟨g102, h⟩ := qv_guard h
      obtain ⟨v102, H102, e102, h⟩ := qv_bind2 h
      have q_H102 := hrl e102
      obtain ⟨rfl, rfl⟩ := qv_pair h
      omega
    · replace h := qv_neg c1_1 h
      by_cases c1_2 : a1 = 2
      · replace h := qv_pos c1_2 h
        obtain ⟨g102, h⟩ := qv_guard h
        obtain ⟨v102, H102, e102, h⟩ := qv_bind2 h
        have q_H102 := hrl e102
        obtain ⟨rfl, rfl⟩ := qv_pair h
        omega
      · replace h := qv_neg c1_2 h
        by_cases c1_3 : a1 = 3
        · replace h := qv_pos c1_3 h
          obtain ⟨g60, h⟩ := qv_guard h
          obtain ⟨H60, e60, h⟩ := qv_bind h
          have q_H60 := tl_X11_begins e60
          obtain ⟨g71, h⟩ := qv_guard h
          obtain ⟨v71, H71, e71, h⟩ := qv_bind2 h
          have q_H71 := hrl e71
          obtain ⟨rfl, rfl⟩ := qv_pair h
          omega
        · replace h := qv_neg c1_3 h
          by_cases c1_4 : a1 = 4
          · replace h := qv_pos c1_4 h
            obtain ⟨g78, h⟩ := qv_guard h
            obtain ⟨H78, e78, h⟩ := qv_bind h
            have q_H78 := tl_X11_begins e78
            obtain ⟨g87, h⟩ := qv_guard h
            obtain ⟨v87, H87, e87, h⟩ := qv_bind2 h
            have q_H87 := hrl e87
            obtain ⟨v91, e91, h⟩ := qv_bind h
            obtain ⟨rfl, rfl⟩ := qv_pair h
            omega
          · replace h := qv_neg c1_4 h
            obtain ⟨g102, h⟩ := qv_guard h
            obtain ⟨v102, H102, e102, h⟩ := qv_bind2 h
            have q_H102 := hrl e102
            obtain ⟨rfl, rfl⟩ := qv_pair h
            omega
theorem tln_X11_tiesAs : ∀ (n : Nat) {a0 : Nat} {a1 : Int32} {a2 : Int32} {H : qx_H} {r : Int32} {H' : qx_H}, fm_X11_tiesAs n a0 a1 a2 H = some (r, H') → H'.length = H.length := by
  intro n
  induction n with
  | zero => intro a0 a1 a2 H r H' h; exact nomatch (show (none : Option (Int32 × qx_H)) = some (r, H') from h)
  | succ n ih =>
    intro a0 a1 a2 H r H' h
    exact tlb_X11_tiesAs_0 (fm_X11_tiesAs n) (fun h => ih h) a0 a1 a2 H h
theorem tl_X11_tiesAs {a0 : Nat} {a1 : Int32} {a2 : Int32} {H : qx_H} {r : Int32} {H' : qx_H} (h : fm_X11_tiesAs 6 a0 a1 a2 H = some (r, H')) : H'.length = H.length := tln_X11_tiesAs _ h
theorem thn_X11_tiesAs {st : xT} : ∀ (n : Nat) {a0 : Nat} {a1 : Int32} {a2 : Int32} {H : qx_H} {r : Int32} {H' : qx_H}, fm_X11_tiesAs n a0 a1 a2 H = some (r, H') → xE st (13 + 1 * n) 215 [.ref a0, .int a1, .int a2] H (some (.int r)) H' := by
  intro n
  induction n with
  | zero => intro a0 a1 a2 H r H' h; exact nomatch (show (none : Option (Int32 × qx_H)) = some (r, H') from h)
  | succ n ih =>
    intro a0 a1 a2 H r H' h
    have hx : xE st (13 + 1 * n + 1) 215 [.ref a0, .int a1, .int a2] H (some (.int r)) H' := by
      exact xE_of (xe215 st) xl215 (Nat.le_of_ble_eq_true rfl) (ls := [some (.ref a0), some (.int a1), some (.int a2)]) rfl (tb_X11_tiesAs_0 (e := 13 + 1 * n) (fm_X11_tiesAs n) (by omega) (fun h => ih h) (fun h => tln_X11_tiesAs n h) (Nat.le_refl _) ⟨rfl, rfl⟩ a0 a1 a2 H h)
    exact xE_le (by omega) hx
theorem th_X11_tiesAs {st : xT} {d : Nat} (hd : 19 ≤ d) {a0 : Nat} {a1 : Int32} {a2 : Int32} {H : qx_H} {r : Int32} {H' : qx_H} (h : fm_X11_tiesAs 6 a0 a1 a2 H = some (r, H')) : xE st d 215 [.ref a0, .int a1, .int a2] H (some (.int r)) H' := xE_le (by omega) (thn_X11_tiesAs 6 h)
def fm_X11_partsAs_e (rc : Nat → Int32 → Int32 → qx_H → Option (Int32 × qx_H)) (a0 : Nat) (a1 : Int32) (a2 : Int32) (H : qx_H) : Option (Int32 × qx_H) := if a1 = 0 then (if hp_is H a0 9 = true then ((fm_X11_begins a0 13 H).bind fun H31 => if hp_is H31 a0 9 = true then ((fm_X11_mNow a0 H31).bind fun v35 => (hp_gI H31 a0 9 17).bind fun v39 => if ((if (v35 - v39) = 0 then 1 else 0) : Int32) = 0 ∨ ((if (v35 - v39) = 0 then 1 else 0) : Int32) = 1 then ((hp_put H31 a0 9 18 (.int (if (v35 - v39) = 0 then 1 else 0))).bind fun H54 => if (v35 - v39) = 0 then (some (0, H54)) else (if (v35 - v39) = (-1) then (some (-a2, H54)) else (some (a2 / (v35 - v39), H54)))) else none) else none) else none) else if a1 = 1 then (if hp_is H a0 9 = true then ((fm_X11_begins a0 21 H).bind fun H82 => if hp_is H82 a0 9 = true then (ob2 (rc a0 (fm_X11_above 1) a2 H82) fun v91 H91 => (hp_gI H91 a0 9 18).bind fun v97 => if v97 = 0 then (if hp_is H91 a0 9 = true then ((fm_X11_kindNow a0 H91).bind fun v111 => ob2 (fm_X11_slipsAs 6 a0 v111 1 H91) fun v115 H115 => some (v91 + v115, H115)) else none) else (some (0, H91))) else none) else none) else (if hp_is H a0 9 = true then (ob2 (rc a0 (fm_X11_above a1) a2 H) fun v126 H126 => some (v126, H126)) else none)
def fm_X11_partsAs : Nat → Nat → Int32 → Int32 → qx_H → Option (Int32 × qx_H)
  | 0, _, _, _, _ => none
  | n + 1, a0, a1, a2, H => fm_X11_partsAs_e (fm_X11_partsAs n) a0 a1 a2 H
theorem tb_X11_partsAs_0 {st : xT} {e : Nat} {d : Nat} {R : Option Value → qx_H → Prop} (rc : Nat → Int32 → Int32 → qx_H → Option (Int32 × qx_H)) (hB : 13 ≤ e) (hrc : ∀ {b0 : Nat} {b1 : Int32} {b2 : Int32} {H1 H2 : qx_H} {r1 : Int32}, rc b0 b1 b2 H1 = some (r1, H2) → xE st e 216 [.ref b0, .int b1, .int b2] H1 (some (.int r1)) H2) (hrl : ∀ {b0 : Nat} {b1 : Int32} {b2 : Int32} {H1 H2 : qx_H} {r1 : Int32}, rc b0 b1 b2 H1 = some (r1, H2) → H2.length = H1.length) (hd : e + 0 ≤ d) {r : Int32} {H' : qx_H} (hR : R (some (.int r)) H') (a0 : Nat) (a1 : Int32) (a2 : Int32) (H : qx_H) (h : fm_X11_partsAs_e rc a0 a1 a2 H = some (r, H')) : qx_V (xE st d) R (xc216 st) (0, [some (.ref a0), some (.int a1), some (.int a2), none, none], [], H) := by
  unfold fm_X11_partsAs_e at h
  refine qv_run 2 (σ := (qx_swt a1 120 [(0, 28), (1, 79)], [some (.ref a0), some (.int a1), some (.int a2), none, none], [], H)) rfl ?_
  refine qv_swt (fun c1_0 => ?_) (fun c1_0 => ?_)
  · replace h := qv_pos c1_0 h
    refine qv_run 2 (σ := (31, [some (.ref a0), some (.int a1), some (.int a2), none, none], [.int 13, .ref a0], H)) rfl ?_
    obtain ⟨g31, h⟩ := qv_guard h
    obtain ⟨H31, e31, h⟩ := qv_bind h
    refine qv_callV [.int 13] rfl rfl rfl (Nat.le_of_ble_eq_true rfl) g31 (th_X11_begins (by omega) e31) (tl_X11_begins e31) ?_
    refine qv_run 1 (σ := (35, [some (.ref a0), some (.int a1), some (.int a2), none, none], [.ref a0], H31)) rfl ?_
    obtain ⟨g35, h⟩ := qv_guard h
    obtain ⟨v35, e35, h⟩ := qv_bind h
    refine qv_callV [] rfl rfl rfl (Nat.le_of_ble_eq_true rfl) g35 (th_X11_mNow (by omega) e35) rfl ?_
    refine qv_run 1 (σ := (39, [some (.ref a0), some (.int a1), some (.int a2), none, none], [.ref a0, .int v35], H31)) rfl ?_
    obtain ⟨v39, e39, h⟩ := qv_bind h
    refine qv_getI rfl e39 ?_
    refine qv_dia (c := (v35 - v39) = 0) (a := (49, [some (.ref a0), some (.int a1), some (.int a2), some (.int (v35 - v39)), none], [.ref a0], H31)) (b := (53, [some (.ref a0), some (.int a1), some (.int a2), some (.int (v35 - v39)), none], [.ref a0], H31)) (σ' := (54, [some (.ref a0), some (.int a1), some (.int a2), some (.int (v35 - v39)), none], [.int (if (v35 - v39) = 0 then 1 else 0), .ref a0], H31)) 5 rfl ?_ (fun c46 kk => qv_run 2 (σ := (54, [some (.ref a0), some (.int a1), some (.int a2), some (.int (v35 - v39)), none], [.int 1, .ref a0], H31)) rfl (qv_eq (by simp only [if_pos c46]) kk)) (fun c46 kk => qv_run 1 (σ := (54, [some (.ref a0), some (.int a1), some (.int a2), some (.int (v35 - v39)), none], [.int 0, .ref a0], H31)) rfl (qv_eq (by simp only [if_neg c46]) kk))
    obtain ⟨g54, h⟩ := qv_guard h
    obtain ⟨H54, e54, h⟩ := qv_bind h
    refine qv_putZ rfl g54 e54 ?_
    refine qv_br (c := (v35 - v39) = 0) (a := (61, [some (.ref a0), some (.int a1), some (.int a2), some (.int (v35 - v39)), none], [], H54)) (b := (65, [some (.ref a0), some (.int a1), some (.int a2), some (.int (v35 - v39)), none], [], H54)) 2 rfl (fun c58 => ?_) (fun c58 => ?_)
    · replace h := qv_pos c58 h
      refine qv_run 2 (σ := (78, [some (.ref a0), some (.int a1), some (.int a2), some (.int (v35 - v39)), none], [.int 0], H54)) rfl ?_
      obtain ⟨rfl, rfl⟩ := qv_pair h
      exact qv_reti rfl hR
    · replace h := qv_neg c58 h
      refine qv_br (c := (v35 - v39) = (-1)) (a := (70, [some (.ref a0), some (.int a1), some (.int a2), some (.int (v35 - v39)), none], [], H54)) (b := (75, [some (.ref a0), some (.int a1), some (.int a2), some (.int (v35 - v39)), none], [], H54)) 3 rfl (fun c67 => ?_) (fun c67 => ?_)
      · replace h := qv_pos c67 h
        refine qv_run 3 (σ := (78, [some (.ref a0), some (.int a1), some (.int a2), some (.int (v35 - v39)), none], [.int (-a2)], H54)) rfl ?_
        obtain ⟨rfl, rfl⟩ := qv_pair h
        exact qv_reti rfl hR
      · replace h := qv_neg c67 h
        refine qv_run 2 (σ := (77, [some (.ref a0), some (.int a1), some (.int a2), some (.int (v35 - v39)), none], [.int (v35 - v39), .int a2], H54)) rfl ?_
        refine qv_div rfl c58 ?_
        obtain ⟨rfl, rfl⟩ := qv_pair h
        exact qv_reti rfl hR
  · replace h := qv_neg c1_0 h
    refine qv_swt (fun c1_1 => ?_) (fun c1_1 => ?_)
    · replace h := qv_pos c1_1 h
      refine qv_run 2 (σ := (82, [some (.ref a0), some (.int a1), some (.int a2), none, none], [.int 21, .ref a0], H)) rfl ?_
      obtain ⟨g82, h⟩ := qv_guard h
      obtain ⟨H82, e82, h⟩ := qv_bind h
      refine qv_callV [.int 21] rfl rfl rfl (Nat.le_of_ble_eq_true rfl) g82 (th_X11_begins (by omega) e82) (tl_X11_begins e82) ?_
      refine qv_run 2 (σ := (87, [some (.ref a0), some (.int a1), some (.int a2), none, none], [.int 1, .ref a0], H82)) rfl ?_
      refine qv_call [.int 1] rfl rfl rfl (Nat.le_of_ble_eq_true rfl) (th_X11_above (by omega) rfl) rfl ?_
      refine qv_run 1 (σ := (91, [some (.ref a0), some (.int a1), some (.int a2), none, none], [.int a2, .int (fm_X11_above 1), .ref a0], H82)) rfl ?_
      obtain ⟨g91, h⟩ := qv_guard h
      obtain ⟨v91, H91, e91, h⟩ := qv_bind2 h
      refine qv_callV [.int (fm_X11_above 1), .int a2] rfl rfl rfl (Nat.le_of_ble_eq_true rfl) g91 (xE_le (by omega) (hrc e91)) (hrl e91) ?_
      refine qv_run 2 (σ := (97, [some (.ref a0), some (.int a1), some (.int a2), none, some (.int v91)], [.ref a0], H91)) rfl ?_
      obtain ⟨v97, e97, h⟩ := qv_bind h
      refine qv_getI rfl e97 ?_
      refine qv_br (c := v97 = 0) (a := (107, [some (.ref a0), some (.int a1), some (.int a2), none, some (.int v91)], [], H91)) (b := (103, [some (.ref a0), some (.int a1), some (.int a2), none, some (.int v91)], [], H91)) 1 rfl (fun c100 => ?_) (fun c100 => ?_)
      · replace h := qv_pos c100 h
        refine qv_run 3 (σ := (111, [some (.ref a0), some (.int a1), some (.int a2), none, some (.int v91)], [.ref a0, .ref a0, .int v91], H91)) rfl ?_
        obtain ⟨g111, h⟩ := qv_guard h
        obtain ⟨v111, e111, h⟩ := qv_bind h
        refine qv_callV [] rfl rfl rfl (Nat.le_of_ble_eq_true rfl) g111 (th_X11_kindNow (by omega) e111) rfl ?_
        refine qv_run 1 (σ := (115, [some (.ref a0), some (.int a1), some (.int a2), none, some (.int v91)], [.int 1, .int v111, .ref a0, .int v91], H91)) rfl ?_
        obtain ⟨v115, H115, e115, h⟩ := qv_bind2 h
        refine qv_callV [.int v111, .int 1] rfl rfl rfl (Nat.le_of_ble_eq_true rfl) g111 (th_X11_slipsAs (by omega) e115) (tl_X11_slipsAs e115) ?_
        refine qv_run 1 (σ := (119, [some (.ref a0), some (.int a1), some (.int a2), none, some (.int v91)], [.int (v91 + v115)], H115)) rfl ?_
        obtain ⟨rfl, rfl⟩ := qv_pair h
        exact qv_reti rfl hR
      · replace h := qv_neg c100 h
        refine qv_run 2 (σ := (119, [some (.ref a0), some (.int a1), some (.int a2), none, some (.int v91)], [.int 0], H91)) rfl ?_
        obtain ⟨rfl, rfl⟩ := qv_pair h
        exact qv_reti rfl hR
    · replace h := qv_neg c1_1 h
      refine qv_sw0 ?_
      refine qv_run 2 (σ := (122, [some (.ref a0), some (.int a1), some (.int a2), none, none], [.int a1, .ref a0], H)) rfl ?_
      refine qv_call [.int a1] rfl rfl rfl (Nat.le_of_ble_eq_true rfl) (th_X11_above (by omega) rfl) rfl ?_
      refine qv_run 1 (σ := (126, [some (.ref a0), some (.int a1), some (.int a2), none, none], [.int a2, .int (fm_X11_above a1), .ref a0], H)) rfl ?_
      obtain ⟨g126, h⟩ := qv_guard h
      obtain ⟨v126, H126, e126, h⟩ := qv_bind2 h
      refine qv_callV [.int (fm_X11_above a1), .int a2] rfl rfl rfl (Nat.le_of_ble_eq_true rfl) g126 (xE_le (by omega) (hrc e126)) (hrl e126) ?_
      obtain ⟨rfl, rfl⟩ := qv_pair h
      exact qv_reti rfl hR
theorem tlb_X11_partsAs_0 (rc : Nat → Int32 → Int32 → qx_H → Option (Int32 × qx_H)) (hrl : ∀ {b0 : Nat} {b1 : Int32} {b2 : Int32} {H1 H2 : qx_H} {r1 : Int32}, rc b0 b1 b2 H1 = some (r1, H2) → H2.length = H1.length) {r : Int32} {H' : qx_H} (a0 : Nat) (a1 : Int32) (a2 : Int32) (H : qx_H) (h : fm_X11_partsAs_e rc a0 a1 a2 H = some (r, H')) : H'.length = H.length := by
  unfold fm_X11_partsAs_e at h
  by_cases c1_0 : a1 = 0
  · replace h := qv_pos c1_0 h
    obtain ⟨g31, h⟩ := qv_guard h
    obtain ⟨H31, e31, h⟩ := qv_bind h
    have q_H31 := tl_X11_begins e31
    obtain ⟨g35, h⟩ := qv_guard h
    obtain ⟨v35, e35, h⟩ := qv_bind h
    obtain ⟨v39, e39, h⟩ := qv_bind h
    obtain ⟨g54, h⟩ := qv_guard h
    obtain ⟨H54, e54, h⟩ := qv_bind h
    have q_H54 := hp_put_len e54
    by_cases c58 : (v35 - v39) = 0
    · replace h := qv_pos c58 h
      obtain ⟨rfl, rfl⟩ := qv_pair h
      omega
    · replace h := qv_neg c58 h
      by_cases c67 : (v35 - v39) = (-1)
      · replace h := qv_pos c67 h
        obtain ⟨rfl, rfl⟩ := qv_pair h
        omega
      · replace h := qv_neg c67 h
        obtain ⟨rfl, rfl⟩ := qv_pair h
        omega
  · replace h := qv_neg c1_0 h
    by_cases c1_1 : a1 = 1
    · replace h := qv_pos c1_1 h
      obtain ⟨g82, h⟩ := qv_guard h
      obtain ⟨H82, e82, h⟩ := qv_bind h
      have q_H82 := tl_X11_begins e82
      obtain ⟨g91, h⟩ := qv_guard h
      obtain ⟨v91, H91, e91, h⟩ := qv_bind2 h
      have q_H91 := hrl e91
      obtain ⟨v97, e97, h⟩ := qv_bind h
      by_cases c100 : v97 = 0
      · replace h := qv_pos c100 h
        obtain ⟨g111, h⟩ := qv_guard h
        obtain ⟨v111, e111, h⟩ := qv_bind h
        obtain ⟨v115, H115, e115, h⟩ := qv_bind2 h
        have q_H115 := tl_X11_slipsAs e115
        obtain ⟨rfl, rfl⟩ := qv_pair h
        omega
      · replace h := qv_neg c100 h
        obtain ⟨rfl, rfl⟩ := qv_pair h
        omega
    · replace h := qv_neg c1_1 h
      obtain ⟨g126, h⟩ := qv_guard h
      obtain ⟨v126, H126, e126, h⟩ := qv_bind2 h
      have q_H126 := hrl e126
      obtain ⟨rfl, rfl⟩ := qv_pair h
      omega
theorem tln_X11_partsAs : ∀ (n : Nat) {a0 : Nat} {a1 : Int32} {a2 : Int32} {H : qx_H} {r : Int32} {H' : qx_H}, fm_X11_partsAs n a0 a1 a2 H = some (r, H') → H'.length = H.length := by
  intro n
  induction n with
  | zero => intro a0 a1 a2 H r H' h; exact nomatch (show (none : Option (Int32 × qx_H)) = some (r, H') from h)
  | succ n ih =>
    intro a0 a1 a2 H r H' h
    exact tlb_X11_partsAs_0 (fm_X11_partsAs n) (fun h => ih h) a0 a1 a2 H h
theorem tl_X11_partsAs {a0 : Nat} {a1 : Int32} {a2 : Int32} {H : qx_H} {r : Int32} {H' : qx_H} (h : fm_X11_partsAs 6 a0 a1 a2 H = some (r, H')) : H'.length = H.length := tln_X11_partsAs _ h
theorem thn_X11_partsAs {st : xT} : ∀ (n : Nat) {a0 : Nat} {a1 : Int32} {a2 : Int32} {H : qx_H} {r : Int32} {H' : qx_H}, fm_X11_partsAs n a0 a1 a2 H = some (r, H') → xE st (13 + 1 * n) 216 [.ref a0, .int a1, .int a2] H (some (.int r)) H' := by
  intro n
  induction n with
  | zero => intro a0 a1 a2 H r H' h; exact nomatch (show (none : Option (Int32 × qx_H)) = some (r, H') from h)
  | succ n ih =>
    intro a0 a1 a2 H r H' h
    have hx : xE st (13 + 1 * n + 1) 216 [.ref a0, .int a1, .int a2] H (some (.int r)) H' := by
      exact xE_of (xe216 st) xl216 (Nat.le_of_ble_eq_true rfl) (ls := [some (.ref a0), some (.int a1), some (.int a2), none, none]) rfl (tb_X11_partsAs_0 (e := 13 + 1 * n) (fm_X11_partsAs n) (by omega) (fun h => ih h) (fun h => tln_X11_partsAs n h) (Nat.le_refl _) ⟨rfl, rfl⟩ a0 a1 a2 H h)
    exact xE_le (by omega) hx
theorem th_X11_partsAs {st : xT} {d : Nat} (hd : 19 ≤ d) {a0 : Nat} {a1 : Int32} {a2 : Int32} {H : qx_H} {r : Int32} {H' : qx_H} (h : fm_X11_partsAs 6 a0 a1 a2 H = some (r, H')) : xE st d 216 [.ref a0, .int a1, .int a2] H (some (.int r)) H' := xE_le (by omega) (thn_X11_partsAs 6 h)
def fm_X11_voice_b16 (l0 : Nat) (H : qx_H) : Option (Int32 × qx_H) := if hp_is H l0 9 = true then (ob2 (fm_X11_error l0 1 H) fun v18 H18 => some (v18, H18)) else none
def fm_X11_voice_b94 (l0 : Nat) (t0 : Int32) (H : qx_H) : Option (Int32 × qx_H) := (hp_gI H l0 9 18).bind fun v97 => if v97 = 0 then (some (t0, H)) else (if hp_is H l0 9 = true then (ob2 (fm_X11_error l0 6 H) fun v106 H106 => some (v106, H106)) else none)
def fm_X11_voice (a0 : Nat) (a1 : Int32) (a2 : Int32) (a3 : Int32) (H : qx_H) : Option (Int32 × qx_H) := if (fm_X11_isKnot a1) = 0 then (fm_X11_voice_b16 a0 H) else (if (fm_X11_in a2 0 3) = 0 then (fm_X11_voice_b16 a0 H) else ((hp_put H a0 9 16 (.int 0)).bind fun H24 => (hp_put H24 a0 9 17 (.int a1)).bind fun H29 => (hp_put H29 a0 9 18 (.int 0)).bind fun H34 => if hp_is H34 a0 9 = true then ((fm_X11_kindNow a0 H34).bind fun v38 => if a2 = 0 then (ob2 (fm_X11_holdsAs 6 a0 v38 a3 H34) fun v51 H51 => fm_X11_voice_b94 a0 v51 H51) else (if a2 = 1 then (ob2 (fm_X11_slipsAs 6 a0 v38 a3 H34) fun v66 H66 => fm_X11_voice_b94 a0 v66 H66) else (if a2 = 2 then (ob2 (fm_X11_tiesAs 6 a0 v38 a3 H34) fun v81 H81 => fm_X11_voice_b94 a0 v81 H81) else (ob2 (fm_X11_partsAs 6 a0 v38 a3 H34) fun v91 H91 => fm_X11_voice_b94 a0 v91 H91)))) else none))
theorem tb_X11_voice_16 {st : xT} {d : Nat} {R : Option Value → qx_H → Prop} (hd : 19 ≤ d) {r : Int32} {H' : qx_H} (hR : R (some (.int r)) H') (l0 : Nat) (z1 : Option Value) (hz1 : qx_ns z1 = true) (z2 : Option Value) (hz2 : qx_ns z2 = true) (z3 : Option Value) (hz3 : qx_ns z3 = true) (H : qx_H) (h : fm_X11_voice_b16 l0 H = some (r, H')) : qx_V (xE st d) R (xc217 st) (16, [some (.ref l0), z1, z2, z3, none, none], [], H) := by
  unfold fm_X11_voice_b16 at h
  refine qv_run 2 (σ := (18, [some (.ref l0), z1, z2, z3, none, none], [.int 1, .ref l0], H)) rfl ?_
  obtain ⟨g18, h⟩ := qv_guard h
  obtain ⟨v18, H18, e18, h⟩ := qv_bind2 h
  refine qv_callV [.int 1] rfl rfl rfl (Nat.le_of_ble_eq_true rfl) g18 (th_X11_error (by omega) e18) (tl_X11_error e18) ?_
  obtain ⟨rfl, rfl⟩ := qv_pair h
  exact qv_reti rfl hR
theorem tlb_X11_voice_16 {r : Int32} {H' : qx_H} (l0 : Nat) (H : qx_H) (h : fm_X11_voice_b16 l0 H = some (r, H')) : H'.length = H.length := by
  unfold fm_X11_voice_b16 at h
  obtain ⟨g18, h⟩ := qv_guard h
  obtain ⟨v18, H18, e18, h⟩ := qv_bind2 h
  have q_H18 := tl_X11_error e18
  obtain ⟨rfl, rfl⟩ := qv_pair h
  omega
theorem tb_X11_voice_94 {st : xT} {d : Nat} {R : Option Value → qx_H → Prop} (hd : 19 ≤ d) {r : Int32} {H' : qx_H} (hR : R (some (.int r)) H') (l0 : Nat) (t0 : Int32) (z1 : Option Value) (hz1 : qx_ns z1 = true) (z2 : Option Value) (hz2 : qx_ns z2 = true) (z3 : Option Value) (hz3 : qx_ns z3 = true) (z4 : Option Value) (hz4 : qx_ns z4 = true) (H : qx_H) (h : fm_X11_voice_b94 l0 t0 H = some (r, H')) : qx_V (xE st d) R (xc217 st) (94, [some (.ref l0), z1, z2, z3, z4, none], [.int t0], H) := by
  unfold fm_X11_voice_b94 at h
  refine qv_istN (ls' := [some (.ref l0), z1, z2, z3, z4, some (.int t0)]) rfl rfl (qx_kl_ns rfl hz4) rfl ?_
  refine qv_run 1 (σ := (97, [some (.ref l0), z1, z2, z3, z4, some (.int t0)], [.ref l0], H)) rfl ?_
  obtain ⟨v97, e97, h⟩ := qv_bind h
  refine qv_getI rfl e97 ?_
  refine qv_br (c := v97 = 0) (a := (112, [some (.ref l0), z1, z2, z3, z4, some (.int t0)], [], H)) (b := (103, [some (.ref l0), z1, z2, z3, z4, some (.int t0)], [], H)) 1 rfl (fun c100 => ?_) (fun c100 => ?_)
  · replace h := qv_pos c100 h
    refine qv_run 1 (σ := (114, [some (.ref l0), z1, z2, z3, z4, some (.int t0)], [.int t0], H)) rfl ?_
    obtain ⟨rfl, rfl⟩ := qv_pair h
    exact qv_reti rfl hR
  · replace h := qv_neg c100 h
    refine qv_run 2 (σ := (106, [some (.ref l0), z1, z2, z3, z4, some (.int t0)], [.int 6, .ref l0], H)) rfl ?_
    obtain ⟨g106, h⟩ := qv_guard h
    obtain ⟨v106, H106, e106, h⟩ := qv_bind2 h
    refine qv_callV [.int 6] rfl rfl rfl (Nat.le_of_ble_eq_true rfl) g106 (th_X11_error (by omega) e106) (tl_X11_error e106) ?_
    refine qv_run 1 (σ := (114, [some (.ref l0), z1, z2, z3, z4, some (.int t0)], [.int v106], H106)) rfl ?_
    obtain ⟨rfl, rfl⟩ := qv_pair h
    exact qv_reti rfl hR
theorem tlb_X11_voice_94 {r : Int32} {H' : qx_H} (l0 : Nat) (t0 : Int32) (H : qx_H) (h : fm_X11_voice_b94 l0 t0 H = some (r, H')) : H'.length = H.length := by
  unfold fm_X11_voice_b94 at h
  obtain ⟨v97, e97, h⟩ := qv_bind h
  by_cases c100 : v97 = 0
  · replace h := qv_pos c100 h
    obtain ⟨rfl, rfl⟩ := qv_pair h
    rfl
  · replace h := qv_neg c100 h
    obtain ⟨g106, h⟩ := qv_guard h
    obtain ⟨v106, H106, e106, h⟩ := qv_bind2 h
    have q_H106 := tl_X11_error e106
    obtain ⟨rfl, rfl⟩ := qv_pair h
    omega
theorem tb_X11_voice_0 {st : xT} {d : Nat} {R : Option Value → qx_H → Prop} (hd : 19 ≤ d) {r : Int32} {H' : qx_H} (hR : R (some (.int r)) H') (a0 : Nat) (a1 : Int32) (a2 : Int32) (a3 : Int32) (H : qx_H) (h : fm_X11_voice a0 a1 a2 a3 H = some (r, H')) : qx_V (xE st d) R (xc217 st) (0, [some (.ref a0), some (.int a1), some (.int a2), some (.int a3), none, none], [], H) := by
  unfold fm_X11_voice at h
  refine qv_run 1 (σ := (1, [some (.ref a0), some (.int a1), some (.int a2), some (.int a3), none, none], [.int a1], H)) rfl ?_
  refine qv_call [.int a1] rfl rfl rfl (Nat.le_of_ble_eq_true rfl) (th_X11_isKnot (by omega) rfl) rfl ?_
  refine qv_br (c := (fm_X11_isKnot a1) = 0) (a := (16, [some (.ref a0), some (.int a1), some (.int a2), some (.int a3), none, none], [], H)) (b := (7, [some (.ref a0), some (.int a1), some (.int a2), some (.int a3), none, none], [], H)) 1 rfl (fun c4 => ?_) (fun c4 => ?_)
  · replace h := qv_pos c4 h
    exact tb_X11_voice_16 hd hR a0 (some (.int a1)) rfl (some (.int a2)) rfl (some (.int a3)) rfl H h
  · replace h := qv_neg c4 h
    refine qv_run 3 (σ := (10, [some (.ref a0), some (.int a1), some (.int a2), some (.int a3), none, none], [.int 3, .int 0, .int a2], H)) rfl ?_
    refine qv_call [.int a2, .int 0, .int 3] rfl rfl rfl (Nat.le_of_ble_eq_true rfl) (th_X11_in (by omega) rfl) rfl ?_
    refine qv_br (c := (fm_X11_in a2 0 3) = 0) (a := (16, [some (.ref a0), some (.int a1), some (.int a2), some (.int a3), none, none], [], H)) (b := (22, [some (.ref a0), some (.int a1), some (.int a2), some (.int a3), none, none], [], H)) 1 rfl (fun c13 => ?_) (fun c13 => ?_)
    · replace h := qv_pos c13 h
      exact tb_X11_voice_16 hd hR a0 (some (.int a1)) rfl (some (.int a2)) rfl (some (.int a3)) rfl H h
    · replace h := qv_neg c13 h
      refine qv_run 2 (σ := (24, [some (.ref a0), some (.int a1), some (.int a2), some (.int a3), none, none], [.int 0, .ref a0], H)) rfl ?_
      obtain ⟨H24, e24, h⟩ := qv_bind h
      refine qv_putI rfl e24 ?_
      refine qv_run 2 (σ := (29, [some (.ref a0), some (.int a1), some (.int a2), some (.int a3), none, none], [.int a1, .ref a0], H24)) rfl ?_
      obtain ⟨H29, e29, h⟩ := qv_bind h
      refine qv_putI rfl e29 ?_
      refine qv_run 2 (σ := (34, [some (.ref a0), some (.int a1), some (.int a2), some (.int a3), none, none], [.int 0, .ref a0], H29)) rfl ?_
      obtain ⟨H34, e34, h⟩ := qv_bind h
      refine qv_putZ rfl (Or.inl rfl) e34 ?_
      refine qv_run 1 (σ := (38, [some (.ref a0), some (.int a1), some (.int a2), some (.int a3), none, none], [.ref a0], H34)) rfl ?_
      obtain ⟨g38, h⟩ := qv_guard h
      obtain ⟨v38, e38, h⟩ := qv_bind h
      refine qv_callV [] rfl rfl rfl (Nat.le_of_ble_eq_true rfl) g38 (th_X11_kindNow (by omega) e38) rfl ?_
      refine qv_br (c := a2 = 0) (a := (47, [some (.ref a0), some (.int a1), some (.int a2), some (.int a3), some (.int v38), none], [], H34)) (b := (57, [some (.ref a0), some (.int a1), some (.int a2), some (.int a3), some (.int v38), none], [], H34)) 3 rfl (fun c44 => ?_) (fun c44 => ?_)
      · replace h := qv_pos c44 h
        refine qv_run 3 (σ := (51, [some (.ref a0), some (.int a1), some (.int a2), some (.int a3), some (.int v38), none], [.int a3, .int v38, .ref a0], H34)) rfl ?_
        obtain ⟨v51, H51, e51, h⟩ := qv_bind2 h
        refine qv_callV [.int v38, .int a3] rfl rfl rfl (Nat.le_of_ble_eq_true rfl) g38 (th_X11_holdsAs (by omega) e51) (tl_X11_holdsAs e51) ?_
        refine qv_run 1 (σ := (94, [some (.ref a0), some (.int a1), some (.int a2), some (.int a3), some (.int v38), none], [.int v51], H51)) rfl ?_
        exact tb_X11_voice_94 hd hR a0 v51 (some (.int a1)) rfl (some (.int a2)) rfl (some (.int a3)) rfl (some (.int v38)) rfl H51 h
      · replace h := qv_neg c44 h
        refine qv_br (c := a2 = 1) (a := (62, [some (.ref a0), some (.int a1), some (.int a2), some (.int a3), some (.int v38), none], [], H34)) (b := (72, [some (.ref a0), some (.int a1), some (.int a2), some (.int a3), some (.int v38), none], [], H34)) 3 rfl (fun c59 => ?_) (fun c59 => ?_)
        · replace h := qv_pos c59 h
          refine qv_run 3 (σ := (66, [some (.ref a0), some (.int a1), some (.int a2), some (.int a3), some (.int v38), none], [.int a3, .int v38, .ref a0], H34)) rfl ?_
          obtain ⟨v66, H66, e66, h⟩ := qv_bind2 h
          refine qv_callV [.int v38, .int a3] rfl rfl rfl (Nat.le_of_ble_eq_true rfl) g38 (th_X11_slipsAs (by omega) e66) (tl_X11_slipsAs e66) ?_
          refine qv_run 1 (σ := (94, [some (.ref a0), some (.int a1), some (.int a2), some (.int a3), some (.int v38), none], [.int v66], H66)) rfl ?_
          exact tb_X11_voice_94 hd hR a0 v66 (some (.int a1)) rfl (some (.int a2)) rfl (some (.int a3)) rfl (some (.int v38)) rfl H66 h
        · replace h := qv_neg c59 h
          refine qv_br (c := a2 = 2) (a := (77, [some (.ref a0), some (.int a1), some (.int a2), some (.int a3), some (.int v38), none], [], H34)) (b := (87, [some (.ref a0), some (.int a1), some (.int a2), some (.int a3), some (.int v38), none], [], H34)) 3 rfl (fun c74 => ?_) (fun c74 => ?_)
          · replace h := qv_pos c74 h
            refine qv_run 3 (σ := (81, [some (.ref a0), some (.int a1), some (.int a2), some (.int a3), some (.int v38), none], [.int a3, .int v38, .ref a0], H34)) rfl ?_
            obtain ⟨v81, H81, e81, h⟩ := qv_bind2 h
            refine qv_callV [.int v38, .int a3] rfl rfl rfl (Nat.le_of_ble_eq_true rfl) g38 (th_X11_tiesAs (by omega) e81) (tl_X11_tiesAs e81) ?_
            refine qv_run 1 (σ := (94, [some (.ref a0), some (.int a1), some (.int a2), some (.int a3), some (.int v38), none], [.int v81], H81)) rfl ?_
            exact tb_X11_voice_94 hd hR a0 v81 (some (.int a1)) rfl (some (.int a2)) rfl (some (.int a3)) rfl (some (.int v38)) rfl H81 h
          · replace h := qv_neg c74 h
            refine qv_run 3 (σ := (91, [some (.ref a0), some (.int a1), some (.int a2), some (.int a3), some (.int v38), none], [.int a3, .int v38, .ref a0], H34)) rfl ?_
            obtain ⟨v91, H91, e91, h⟩ := qv_bind2 h
            refine qv_callV [.int v38, .int a3] rfl rfl rfl (Nat.le_of_ble_eq_true rfl) g38 (th_X11_partsAs (by omega) e91) (tl_X11_partsAs e91) ?_
            exact tb_X11_voice_94 hd hR a0 v91 (some (.int a1)) rfl (some (.int a2)) rfl (some (.int a3)) rfl (some (.int v38)) rfl H91 h
theorem tlb_X11_voice_0 {r : Int32} {H' : qx_H} (a0 : Nat) (a1 : Int32) (a2 : Int32) (a3 : Int32) (H : qx_H) (h : fm_X11_voice a0 a1 a2 a3 H = some (r, H')) : H'.length = H.length := by
  unfold fm_X11_voice at h
  by_cases c4 : (fm_X11_isKnot a1) = 0
  · replace h := qv_pos c4 h
    exact tlb_X11_voice_16 a0 H h
  · replace h := qv_neg c4 h
    by_cases c13 : (fm_X11_in a2 0 3) = 0
    · replace h := qv_pos c13 h
      exact tlb_X11_voice_16 a0 H h
    · replace h := qv_neg c13 h
      obtain ⟨H24, e24, h⟩ := qv_bind h
      have q_H24 := hp_put_len e24
      obtain ⟨H29, e29, h⟩ := qv_bind h
      have q_H29 := hp_put_len e29
      obtain ⟨H34, e34, h⟩ := qv_bind h
      have q_H34 := hp_put_len e34
      obtain ⟨g38, h⟩ := qv_guard h
      obtain ⟨v38, e38, h⟩ := qv_bind h
      by_cases c44 : a2 = 0
      · replace h := qv_pos c44 h
        obtain ⟨v51, H51, e51, h⟩ := qv_bind2 h
        have q_H51 := tl_X11_holdsAs e51
        have q_end := tlb_X11_voice_94 a0 v51 H51 h
        omega
      · replace h := qv_neg c44 h
        by_cases c59 : a2 = 1
        · replace h := qv_pos c59 h
          obtain ⟨v66, H66, e66, h⟩ := qv_bind2 h
          have q_H66 := tl_X11_slipsAs e66
          have q_end := tlb_X11_voice_94 a0 v66 H66 h
          omega
        · replace h := qv_neg c59 h
          by_cases c74 : a2 = 2
          · replace h := qv_pos c74 h
            obtain ⟨v81, H81, e81, h⟩ := qv_bind2 h
            have q_H81 := tl_X11_tiesAs e81
            have q_end := tlb_X11_voice_94 a0 v81 H81 h
            omega
          · replace h := qv_neg c74 h
            obtain ⟨v91, H91, e91, h⟩ := qv_bind2 h
            have q_H91 := tl_X11_partsAs e91
            have q_end := tlb_X11_voice_94 a0 v91 H91 h
            omega
theorem th_X11_voice {st : xT} {d : Nat} (hd : 20 ≤ d) {a0 : Nat} {a1 : Int32} {a2 : Int32} {a3 : Int32} {H : qx_H} {r : Int32} {H' : qx_H} (h : fm_X11_voice a0 a1 a2 a3 H = some (r, H')) : xE st d 217 [.ref a0, .int a1, .int a2, .int a3] H (some (.int r)) H' := by
  obtain ⟨d, rfl⟩ : ∃ d', d = d' + 1 := ⟨d - 1, by omega⟩
  exact xE_of (xe217 st) xl217 (Nat.le_of_ble_eq_true rfl) (ls := [some (.ref a0), some (.int a1), some (.int a2), some (.int a3), none, none]) rfl (tb_X11_voice_0 (by omega) ⟨rfl, rfl⟩ a0 a1 a2 a3 H h)
theorem tl_X11_voice {a0 : Nat} {a1 : Int32} {a2 : Int32} {a3 : Int32} {H : qx_H} {r : Int32} {H' : qx_H} (h : fm_X11_voice a0 a1 a2 a3 H = some (r, H')) : H'.length = H.length := tlb_X11_voice_0 a0 a1 a2 a3 H h
def fm_X11_body (a0 : Nat) (a1 : Int32) (H : qx_H) : Option (Int32 × qx_H) := (hp_gI H a0 9 16).bind fun v3 => if (fm_X11_in a1 0 (v3 - 1)) = 0 then (if hp_is H a0 9 = true then (ob2 (fm_X11_error a0 2 H) fun v25 H25 => some (v25, H25)) else none) else ((hp_gR H a0 9 15).bind fun v15 => (hp_ald H v15 a1).bind fun v19 => some (v19, H))
theorem tb_X11_body_0 {st : xT} {d : Nat} {R : Option Value → qx_H → Prop} (hd : 1 ≤ d) {r : Int32} {H' : qx_H} (hR : R (some (.int r)) H') (a0 : Nat) (a1 : Int32) (H : qx_H) (h : fm_X11_body a0 a1 H = some (r, H')) : qx_V (xE st d) R (xc218 st) (0, [some (.ref a0), some (.int a1)], [], H) := by
  unfold fm_X11_body at h
  refine qv_run 3 (σ := (3, [some (.ref a0), some (.int a1)], [.ref a0, .int 0, .int a1], H)) rfl ?_
  obtain ⟨v3, e3, h⟩ := qv_bind h
  refine qv_getI rfl e3 ?_
  refine qv_run 2 (σ := (8, [some (.ref a0), some (.int a1)], [.int (v3 - 1), .int 0, .int a1], H)) rfl ?_
  refine qv_call [.int a1, .int 0, .int (v3 - 1)] rfl rfl rfl (Nat.le_of_ble_eq_true rfl) (th_X11_in (by omega) rfl) rfl ?_
  refine qv_br (c := (fm_X11_in a1 0 (v3 - 1)) = 0) (a := (23, [some (.ref a0), some (.int a1)], [], H)) (b := (14, [some (.ref a0), some (.int a1)], [], H)) 1 rfl (fun c11 => ?_) (fun c11 => ?_)
  · replace h := qv_pos c11 h
    refine qv_run 2 (σ := (25, [some (.ref a0), some (.int a1)], [.int 2, .ref a0], H)) rfl ?_
    obtain ⟨g25, h⟩ := qv_guard h
    obtain ⟨v25, H25, e25, h⟩ := qv_bind2 h
    refine qv_callV [.int 2] rfl rfl rfl (Nat.le_of_ble_eq_true rfl) g25 (th_X11_error (by omega) e25) (tl_X11_error e25) ?_
    obtain ⟨rfl, rfl⟩ := qv_pair h
    exact qv_reti rfl hR
  · replace h := qv_neg c11 h
    refine qv_run 1 (σ := (15, [some (.ref a0), some (.int a1)], [.ref a0], H)) rfl ?_
    obtain ⟨v15, e15, h⟩ := qv_bind h
    refine qv_getR rfl e15 ?_
    refine qv_run 1 (σ := (19, [some (.ref a0), some (.int a1)], [.int a1, .ref v15], H)) rfl ?_
    obtain ⟨v19, e19, h⟩ := qv_bind h
    refine qv_ald rfl e19 ?_
    refine qv_run 1 (σ := (28, [some (.ref a0), some (.int a1)], [.int v19], H)) rfl ?_
    obtain ⟨rfl, rfl⟩ := qv_pair h
    exact qv_reti rfl hR
theorem tlb_X11_body_0 {r : Int32} {H' : qx_H} (a0 : Nat) (a1 : Int32) (H : qx_H) (h : fm_X11_body a0 a1 H = some (r, H')) : H'.length = H.length := by
  unfold fm_X11_body at h
  obtain ⟨v3, e3, h⟩ := qv_bind h
  by_cases c11 : (fm_X11_in a1 0 (v3 - 1)) = 0
  · replace h := qv_pos c11 h
    obtain ⟨g25, h⟩ := qv_guard h
    obtain ⟨v25, H25, e25, h⟩ := qv_bind2 h
    have q_H25 := tl_X11_error e25
    obtain ⟨rfl, rfl⟩ := qv_pair h
    omega
  · replace h := qv_neg c11 h
    obtain ⟨v15, e15, h⟩ := qv_bind h
    obtain ⟨v19, e19, h⟩ := qv_bind h
    obtain ⟨rfl, rfl⟩ := qv_pair h
    rfl
theorem th_X11_body {st : xT} {d : Nat} (hd : 2 ≤ d) {a0 : Nat} {a1 : Int32} {H : qx_H} {r : Int32} {H' : qx_H} (h : fm_X11_body a0 a1 H = some (r, H')) : xE st d 218 [.ref a0, .int a1] H (some (.int r)) H' := by
  obtain ⟨d, rfl⟩ : ∃ d', d = d' + 1 := ⟨d - 1, by omega⟩
  exact xE_of (xe218 st) xl218 (Nat.le_of_ble_eq_true rfl) (ls := [some (.ref a0), some (.int a1)]) rfl (tb_X11_body_0 (by omega) ⟨rfl, rfl⟩ a0 a1 H h)
theorem tl_X11_body {a0 : Nat} {a1 : Int32} {H : qx_H} {r : Int32} {H' : qx_H} (h : fm_X11_body a0 a1 H = some (r, H')) : H'.length = H.length := tlb_X11_body_0 a0 a1 H h
