def fm_X4_fewestCuts_b13 : Nat → Nat → Int32 → Int32 → Int32 → qx_H → Option (Int32 × qx_H)
  | 0, _, _, _, _, _ => none
  | n + 1, l0, l1, l2, l3, H => if 3 < l3 then (some ((-1), H)) else ((hp_gR H l0 2 0).bind fun v19 => ob2 (fm_X4_choose 8 v19 0 l3 0 l1 l2 H) fun v27 H27 => if v27 = 0 then (fm_X4_fewestCuts_b13 n l0 l1 l2 (l3 + 1) H27) else (some (l3, H27)))
def fm_X4_fewestCuts (a0 : Nat) (a1 : Int32) (H : qx_H) : Option (Int32 × qx_H) := if a1 = 0 then (some ((-1), H)) else ((fm_X0_oddKnots a1 H).bind fun v7 => fm_X4_fewestCuts_b13 5000 a0 a1 v7 0 H)
theorem tb_X4_fewestCuts_13 {st : xT} {d : Nat} {R : Option Value → qx_H → Prop} (hd : 13 ≤ d) {r : Int32} {H' : qx_H} (hR : R (some (.int r)) H') : ∀ (n : Nat) (l0 : Nat) (l1 : Int32) (l2 : Int32) (l3 : Int32) (H : qx_H) (h : fm_X4_fewestCuts_b13 n l0 l1 l2 l3 H = some (r, H')), qx_V (xE st d) R (xc31 st) (13, [some (.ref l0), some (.int l1), some (.int l2), some (.int l3)], [], H) := by
  intro n
  induction n with
  | zero => intro l0 l1 l2 l3 H h; exact nomatch (show (none : Option (Int32 × qx_H)) = some (r, H') from h)
  | succ n ih =>
    intro l0 l1 l2 l3 H h
    unfold fm_X4_fewestCuts_b13 at h
    refine qv_br (c := 3 < l3) (a := (41, [some (.ref l0), some (.int l1), some (.int l2), some (.int l3)], [], H)) (b := (18, [some (.ref l0), some (.int l1), some (.int l2), some (.int l3)], [], H)) 3 rfl (fun c15 => ?_) (fun c15 => ?_)
    · replace h := qv_pos c15 h
      refine qv_run 1 (σ := (42, [some (.ref l0), some (.int l1), some (.int l2), some (.int l3)], [.int (-1)], H)) rfl ?_
      obtain ⟨rfl, rfl⟩ := qv_pair h
      exact qv_reti rfl hR
    · replace h := qv_neg c15 h
      refine qv_run 1 (σ := (19, [some (.ref l0), some (.int l1), some (.int l2), some (.int l3)], [.ref l0], H)) rfl ?_
      obtain ⟨v19, e19, h⟩ := qv_bind h
      refine qv_getR rfl e19 ?_
      refine qv_run 5 (σ := (27, [some (.ref l0), some (.int l1), some (.int l2), some (.int l3)], [.int l2, .int l1, .int 0, .int l3, .int 0, .ref v19], H)) rfl ?_
      obtain ⟨v27, H27, e27, h⟩ := qv_bind2 h
      refine qv_call [.ref v19, .int 0, .int l3, .int 0, .int l1, .int l2] rfl rfl rfl (Nat.le_of_ble_eq_true rfl) (th_X4_choose (by omega) e27) (tl_X4_choose e27) ?_
      refine qv_br (c := v27 = 0) (a := (35, [some (.ref l0), some (.int l1), some (.int l2), some (.int l3)], [], H27)) (b := (33, [some (.ref l0), some (.int l1), some (.int l2), some (.int l3)], [], H27)) 1 rfl (fun c30 => ?_) (fun c30 => ?_)
      · replace h := qv_pos c30 h
        refine qv_run 2 (σ := (13, [some (.ref l0), some (.int l1), some (.int l2), some (.int (l3 + 1))], [], H27)) rfl ?_
        exact ih l0 l1 l2 (l3 + 1) H27 h
      · replace h := qv_neg c30 h
        refine qv_run 1 (σ := (34, [some (.ref l0), some (.int l1), some (.int l2), some (.int l3)], [.int l3], H27)) rfl ?_
        obtain ⟨rfl, rfl⟩ := qv_pair h
        exact qv_reti rfl hR
theorem tlb_X4_fewestCuts_13 {r : Int32} {H' : qx_H} : ∀ (n : Nat) (l0 : Nat) (l1 : Int32) (l2 : Int32) (l3 : Int32) (H : qx_H) (h : fm_X4_fewestCuts_b13 n l0 l1 l2 l3 H = some (r, H')), H'.length = H.length := by
  intro n
  induction n with
  | zero => intro l0 l1 l2 l3 H h; exact nomatch (show (none : Option (Int32 × qx_H)) = some (r, H') from h)
  | succ n ih =>
    intro l0 l1 l2 l3 H h
    unfold fm_X4_fewestCuts_b13 at h
    by_cases c15 : 3 < l3
    · replace h := qv_pos c15 h
      obtain ⟨rfl, rfl⟩ := qv_pair h
      rfl
    · replace h := qv_neg c15 h
      obtain ⟨v19, e19, h⟩ := qv_bind h
      obtain ⟨v27, H27, e27, h⟩ := qv_bind2 h
      have q_H27 := tl_X4_choose e27
      by_cases c30 : v27 = 0
      · replace h := qv_pos c30 h
        have q_end := ih l0 l1 l2 (l3 + 1) H27 h
        omega
      · replace h := qv_neg c30 h
        obtain ⟨rfl, rfl⟩ := qv_pair h
        omega
theorem tb_X4_fewestCuts_0 {st : xT} {d : Nat} {R : Option Value → qx_H → Prop} (hd : 13 ≤ d) {r : Int32} {H' : qx_H} (hR : R (some (.int r)) H') (a0 : Nat) (a1 : Int32) (H : qx_H) (h : fm_X4_fewestCuts a0 a1 H = some (r, H')) : qx_V (xE st d) R (xc31 st) (0, [some (.ref a0), some (.int a1), none, none], [], H) := by
  unfold fm_X4_fewestCuts at h
  refine qv_br (c := a1 = 0) (a := (4, [some (.ref a0), some (.int a1), none, none], [], H)) (b := (6, [some (.ref a0), some (.int a1), none, none], [], H)) 2 rfl (fun c1 => ?_) (fun c1 => ?_)
  · replace h := qv_pos c1 h
    refine qv_run 1 (σ := (5, [some (.ref a0), some (.int a1), none, none], [.int (-1)], H)) rfl ?_
    obtain ⟨rfl, rfl⟩ := qv_pair h
    exact qv_reti rfl hR
  · replace h := qv_neg c1 h
    refine qv_run 1 (σ := (7, [some (.ref a0), some (.int a1), none, none], [.int a1], H)) rfl ?_
    obtain ⟨v7, e7, h⟩ := qv_bind h
    refine qv_call [.int a1] rfl rfl rfl (Nat.le_of_ble_eq_true rfl) (th_X0_oddKnots (by omega) e7) rfl ?_
    refine qv_run 3 (σ := (13, [some (.ref a0), some (.int a1), some (.int v7), some (.int 0)], [], H)) rfl ?_
    exact tb_X4_fewestCuts_13 hd hR 5000 a0 a1 v7 0 H h
theorem tlb_X4_fewestCuts_0 {r : Int32} {H' : qx_H} (a0 : Nat) (a1 : Int32) (H : qx_H) (h : fm_X4_fewestCuts a0 a1 H = some (r, H')) : H'.length = H.length := by
  unfold fm_X4_fewestCuts at h
  by_cases c1 : a1 = 0
  · replace h := qv_pos c1 h
    obtain ⟨rfl, rfl⟩ := qv_pair h
    rfl
  · replace h := qv_neg c1 h
    obtain ⟨v7, e7, h⟩ := qv_bind h
    exact tlb_X4_fewestCuts_13 5000 a0 a1 v7 0 H h
theorem th_X4_fewestCuts {st : xT} {d : Nat} (hd : 14 ≤ d) {a0 : Nat} {a1 : Int32} {H : qx_H} {r : Int32} {H' : qx_H} (h : fm_X4_fewestCuts a0 a1 H = some (r, H')) : xE st d 31 [.ref a0, .int a1] H (some (.int r)) H' := by
  obtain ⟨d, rfl⟩ : ∃ d', d = d' + 1 := ⟨d - 1, by omega⟩
  exact xE_of (xe31 st) xl31 (Nat.le_of_ble_eq_true rfl) (ls := [some (.ref a0), some (.int a1), none, none]) rfl (tb_X4_fewestCuts_0 (by omega) ⟨rfl, rfl⟩ a0 a1 H h)
theorem tl_X4_fewestCuts {a0 : Nat} {a1 : Int32} {H : qx_H} {r : Int32} {H' : qx_H} (h : fm_X4_fewestCuts a0 a1 H = some (r, H')) : H'.length = H.length := tlb_X4_fewestCuts_0 a0 a1 H h
def fm_X4_nextKnot_b56 (k2 : Int32 → Int32 → Int32 → qx_H → Option Int32) (l0 : Int32) (l1 : Int32) (l2 : Int32) (H : qx_H) : Option Int32 := k2 l0 l1 (l2 + 1) H
def fm_X4_nextKnot_b2 : Nat → Int32 → Int32 → Int32 → qx_H → Option Int32
  | 0, _, _, _, _ => none
  | n + 1, l0, l1, l2, H => if 20 ≤ l2 then (some (-1)) else (if (fm_X0_between l1 l2) < 0 then (fm_X4_nextKnot_b56 (fm_X4_nextKnot_b2 n) l0 l1 l2 H) else (if ((ji_ushr l0 (fm_X0_between l1 l2)) &&& 1) = 0 then (fm_X4_nextKnot_b56 (fm_X4_nextKnot_b2 n) l0 l1 l2 H) else ((fm_X0_spread (l0 &&& ((ji_shl 1 (fm_X0_between l1 l2)) ^^^ (-1))) (ji_shl 1 l2) 0 H).bind fun v43 => (fm_X0_threadsAt (l0 &&& ((ji_shl 1 (fm_X0_between l1 l2)) ^^^ (-1))) v43 H).bind fun v46 => if v46 = (l0 &&& ((ji_shl 1 (fm_X0_between l1 l2)) ^^^ (-1))) then (some l2) else (fm_X4_nextKnot_b56 (fm_X4_nextKnot_b2 n) l0 l1 l2 H))))
def fm_X4_nextKnot (a0 : Int32) (a1 : Int32) (H : qx_H) : Option Int32 := fm_X4_nextKnot_b2 5000 a0 a1 0 H
theorem tb_X4_nextKnot_56 {st : xT} {d : Nat} {R : Option Value → qx_H → Prop} (hd : 3 ≤ d) {r : Int32} {H : qx_H} (k2 : Int32 → Int32 → Int32 → qx_H → Option Int32) (hk2 : ∀ (l0 : Int32) (l1 : Int32) (l2 : Int32) (z3 : Option Value) (hz3 : qx_ns z3 = true) (z4 : Option Value) (hz4 : qx_ns z4 = true), k2 l0 l1 l2 H = some r → qx_V (xE st d) R (xc34 st) (2, [some (.int l0), some (.int l1), some (.int l2), z3, z4], [], H)) (hR : R (some (.int r)) H) (l0 : Int32) (l1 : Int32) (l2 : Int32) (z3 : Option Value) (hz3 : qx_ns z3 = true) (z4 : Option Value) (hz4 : qx_ns z4 = true) (h : fm_X4_nextKnot_b56 k2 l0 l1 l2 H = some r) : qx_V (xE st d) R (xc34 st) (56, [some (.int l0), some (.int l1), some (.int l2), z3, z4], [], H) := by
  unfold fm_X4_nextKnot_b56 at h
  refine qv_run 2 (σ := (2, [some (.int l0), some (.int l1), some (.int (l2 + 1)), z3, z4], [], H)) rfl ?_
  exact hk2 l0 l1 (l2 + 1) z3 hz3 z4 hz4 h
theorem tb_X4_nextKnot_2 {st : xT} {d : Nat} {R : Option Value → qx_H → Prop} (hd : 3 ≤ d) {r : Int32} {H : qx_H} (hR : R (some (.int r)) H) : ∀ (n : Nat) (l0 : Int32) (l1 : Int32) (l2 : Int32) (z3 : Option Value) (hz3 : qx_ns z3 = true) (z4 : Option Value) (hz4 : qx_ns z4 = true) (h : fm_X4_nextKnot_b2 n l0 l1 l2 H = some r), qx_V (xE st d) R (xc34 st) (2, [some (.int l0), some (.int l1), some (.int l2), z3, z4], [], H) := by
  intro n
  induction n with
  | zero => intro l0 l1 l2 z3 hz3 z4 hz4 h; exact nomatch (show (none : Option Int32) = some r from h)
  | succ n ih =>
    intro l0 l1 l2 z3 hz3 z4 hz4 h
    unfold fm_X4_nextKnot_b2 at h
    refine qv_br (c := 20 ≤ l2) (a := (62, [some (.int l0), some (.int l1), some (.int l2), z3, z4], [], H)) (b := (8, [some (.int l0), some (.int l1), some (.int l2), z3, z4], [], H)) 3 rfl (fun c5 => ?_) (fun c5 => ?_)
    · replace h := qv_pos c5 h
      refine qv_run 1 (σ := (63, [some (.int l0), some (.int l1), some (.int l2), z3, z4], [.int (-1)], H)) rfl ?_
      cases h
      exact qv_reti rfl hR
    · replace h := qv_neg c5 h
      refine qv_run 2 (σ := (10, [some (.int l0), some (.int l1), some (.int l2), z3, z4], [.int l2, .int l1], H)) rfl ?_
      refine qv_call [.int l1, .int l2] rfl rfl rfl (Nat.le_of_ble_eq_true rfl) (th_X0_between (by omega) rfl) rfl ?_
      refine qv_br (c := (fm_X0_between l1 l2) < 0) (a := (56, [some (.int l0), some (.int l1), some (.int l2), some (.int (fm_X0_between l1 l2)), z4], [], H)) (b := (18, [some (.int l0), some (.int l1), some (.int l2), some (.int (fm_X0_between l1 l2)), z4], [], H)) 3 rfl (fun c15 => ?_) (fun c15 => ?_)
      · replace h := qv_pos c15 h
        exact tb_X4_nextKnot_56 hd _ ih hR l0 l1 l2 (some (.int (fm_X0_between l1 l2))) rfl z4 hz4 h
      · replace h := qv_neg c15 h
        refine qv_br (c := ((ji_ushr l0 (fm_X0_between l1 l2)) &&& 1) = 0) (a := (56, [some (.int l0), some (.int l1), some (.int l2), some (.int (fm_X0_between l1 l2)), z4], [], H)) (b := (26, [some (.int l0), some (.int l1), some (.int l2), some (.int (fm_X0_between l1 l2)), z4], [], H)) 6 rfl (fun c23 => ?_) (fun c23 => ?_)
        · replace h := qv_pos c23 h
          exact tb_X4_nextKnot_56 hd _ ih hR l0 l1 l2 (some (.int (fm_X0_between l1 l2))) rfl z4 hz4 h
        · replace h := qv_neg c23 h
          refine qv_run 14 (σ := (43, [some (.int l0), some (.int l1), some (.int l2), some (.int (fm_X0_between l1 l2)), some (.int (l0 &&& ((ji_shl 1 (fm_X0_between l1 l2)) ^^^ (-1))))], [.int 0, .int (ji_shl 1 l2), .int (l0 &&& ((ji_shl 1 (fm_X0_between l1 l2)) ^^^ (-1))), .int (l0 &&& ((ji_shl 1 (fm_X0_between l1 l2)) ^^^ (-1)))], H)) rfl ?_
          obtain ⟨v43, e43, h⟩ := qv_bind h
          refine qv_call [.int (l0 &&& ((ji_shl 1 (fm_X0_between l1 l2)) ^^^ (-1))), .int (ji_shl 1 l2), .int 0] rfl rfl rfl (Nat.le_of_ble_eq_true rfl) (th_X0_spread (by omega) e43) rfl ?_
          obtain ⟨v46, e46, h⟩ := qv_bind h
          refine qv_call [.int (l0 &&& ((ji_shl 1 (fm_X0_between l1 l2)) ^^^ (-1))), .int v43] rfl rfl rfl (Nat.le_of_ble_eq_true rfl) (th_X0_threadsAt (by omega) e46) rfl ?_
          refine qv_br (c := v46 = (l0 &&& ((ji_shl 1 (fm_X0_between l1 l2)) ^^^ (-1)))) (a := (54, [some (.int l0), some (.int l1), some (.int l2), some (.int (fm_X0_between l1 l2)), some (.int (l0 &&& ((ji_shl 1 (fm_X0_between l1 l2)) ^^^ (-1))))], [], H)) (b := (56, [some (.int l0), some (.int l1), some (.int l2), some (.int (fm_X0_between l1 l2)), some (.int (l0 &&& ((ji_shl 1 (fm_X0_between l1 l2)) ^^^ (-1))))], [], H)) 2 rfl (fun c51 => ?_) (fun c51 => ?_)
          · replace h := qv_pos c51 h
            refine qv_run 1 (σ := (55, [some (.int l0), some (.int l1), some (.int l2), some (.int (fm_X0_between l1 l2)), some (.int (l0 &&& ((ji_shl 1 (fm_X0_between l1 l2)) ^^^ (-1))))], [.int l2], H)) rfl ?_
            cases h
            exact qv_reti rfl hR
          · replace h := qv_neg c51 h
            exact tb_X4_nextKnot_56 hd _ ih hR l0 l1 l2 (some (.int (fm_X0_between l1 l2))) rfl (some (.int (l0 &&& ((ji_shl 1 (fm_X0_between l1 l2)) ^^^ (-1))))) rfl h
theorem tb_X4_nextKnot_0 {st : xT} {d : Nat} {R : Option Value → qx_H → Prop} (hd : 3 ≤ d) {r : Int32} {H : qx_H} (hR : R (some (.int r)) H) (a0 : Int32) (a1 : Int32) (h : fm_X4_nextKnot a0 a1 H = some r) : qx_V (xE st d) R (xc34 st) (0, [some (.int a0), some (.int a1), none, none, none], [], H) := by
  unfold fm_X4_nextKnot at h
  refine qv_run 2 (σ := (2, [some (.int a0), some (.int a1), some (.int 0), none, none], [], H)) rfl ?_
  exact tb_X4_nextKnot_2 hd hR 5000 a0 a1 0 none rfl none rfl h
theorem th_X4_nextKnot {st : xT} {d : Nat} (hd : 4 ≤ d) {a0 : Int32} {a1 : Int32} {r : Int32} {H : qx_H} (h : fm_X4_nextKnot a0 a1 H = some r) : xE st d 34 [.int a0, .int a1] H (some (.int r)) H := by
  obtain ⟨d, rfl⟩ : ∃ d', d = d' + 1 := ⟨d - 1, by omega⟩
  exact xE_of (xe34 st) xl34 (Nat.le_of_ble_eq_true rfl) (ls := [some (.int a0), some (.int a1), none, none, none]) rfl (tb_X4_nextKnot_0 (by omega) ⟨rfl, rfl⟩ a0 a1 h)
def fm_X4_wayKnot_b27 : Nat → Int32 → Int32 → Int32 → Int32 → qx_H → Option Int32
  | 0, _, _, _, _, _ => none
  | n + 1, l1, l3, l4, l5, H => if l1 ≤ l5 then (some l3) else (if l4 = 0 then (some l3) else ((fm_X4_nextKnot l4 l3 H).bind fun v41 => if 0 ≤ (fm_X0_between l3 v41) then (fm_X4_wayKnot_b27 n l1 v41 (l4 &&& ((ji_shl 1 (fm_X0_between l3 v41)) ^^^ (-1))) (l5 + 1) H) else (some l3)))
def fm_X4_wayKnot_b17 (l0 : Int32) (l1 : Int32) (t0 : Int32) (H : qx_H) : Option Int32 := (fm_X0_firstOf t0 H).bind fun v17 => fm_X4_wayKnot_b27 5000 l1 v17 l0 0 H
def fm_X4_wayKnot (a0 : Int32) (a1 : Int32) (H : qx_H) : Option Int32 := (fm_X0_oddKnots a0 H).bind fun v1 => if v1 = 0 then ((fm_X0_knotsOf a0 H).bind fun v14 => fm_X4_wayKnot_b17 a0 a1 v14 H) else (fm_X4_wayKnot_b17 a0 a1 v1 H)
theorem tb_X4_wayKnot_27 {st : xT} {d : Nat} {R : Option Value → qx_H → Prop} (hd : 4 ≤ d) {r : Int32} {H : qx_H} (hR : R (some (.int r)) H) : ∀ (n : Nat) (l1 : Int32) (l3 : Int32) (l4 : Int32) (l5 : Int32) (z0 : Option Value) (hz0 : qx_ns z0 = true) (z2 : Option Value) (hz2 : qx_ns z2 = true) (z6 : Option Value) (hz6 : qx_ns z6 = true) (z7 : Option Value) (hz7 : qx_ns z7 = true) (h : fm_X4_wayKnot_b27 n l1 l3 l4 l5 H = some r), qx_V (xE st d) R (xc33 st) (27, [z0, some (.int l1), z2, some (.int l3), some (.int l4), some (.int l5), z6, z7], [], H) := by
  intro n
  induction n with
  | zero => intro l1 l3 l4 l5 z0 hz0 z2 hz2 z6 hz6 z7 hz7 h; exact nomatch (show (none : Option Int32) = some r from h)
  | succ n ih =>
    intro l1 l3 l4 l5 z0 hz0 z2 hz2 z6 hz6 z7 hz7 h
    unfold fm_X4_wayKnot_b27 at h
    refine qv_br (c := l1 ≤ l5) (a := (81, [z0, some (.int l1), z2, some (.int l3), some (.int l4), some (.int l5), z6, z7], [], H)) (b := (33, [z0, some (.int l1), z2, some (.int l3), some (.int l4), some (.int l5), z6, z7], [], H)) 3 rfl (fun c30 => ?_) (fun c30 => ?_)
    · replace h := qv_pos c30 h
      refine qv_run 1 (σ := (82, [z0, some (.int l1), z2, some (.int l3), some (.int l4), some (.int l5), z6, z7], [.int l3], H)) rfl ?_
      cases h
      exact qv_reti rfl hR
    · replace h := qv_neg c30 h
      refine qv_br (c := l4 = 0) (a := (81, [z0, some (.int l1), z2, some (.int l3), some (.int l4), some (.int l5), z6, z7], [], H)) (b := (38, [z0, some (.int l1), z2, some (.int l3), some (.int l4), some (.int l5), z6, z7], [], H)) 2 rfl (fun c35 => ?_) (fun c35 => ?_)
      · replace h := qv_pos c35 h
        refine qv_run 1 (σ := (82, [z0, some (.int l1), z2, some (.int l3), some (.int l4), some (.int l5), z6, z7], [.int l3], H)) rfl ?_
        cases h
        exact qv_reti rfl hR
      · replace h := qv_neg c35 h
        refine qv_run 2 (σ := (41, [z0, some (.int l1), z2, some (.int l3), some (.int l4), some (.int l5), z6, z7], [.int l3, .int l4], H)) rfl ?_
        obtain ⟨v41, e41, h⟩ := qv_bind h
        refine qv_call [.int l4, .int l3] rfl rfl rfl (Nat.le_of_ble_eq_true rfl) (th_X4_nextKnot (by omega) e41) rfl ?_
        refine qv_run 3 (σ := (49, [z0, some (.int l1), z2, some (.int l3), some (.int l4), some (.int l5), some (.int v41), z7], [.int v41, .int l3], H)) rfl ?_
        refine qv_call [.int l3, .int v41] rfl rfl rfl (Nat.le_of_ble_eq_true rfl) (th_X0_between (by omega) rfl) rfl ?_
        refine qv_br (c := 0 ≤ (fm_X0_between l3 v41)) (a := (61, [z0, some (.int l1), z2, some (.int l3), some (.int l4), some (.int l5), some (.int v41), some (.int (fm_X0_between l3 v41))], [], H)) (b := (59, [z0, some (.int l1), z2, some (.int l3), some (.int l4), some (.int l5), some (.int v41), some (.int (fm_X0_between l3 v41))], [], H)) 3 rfl (fun c56 => ?_) (fun c56 => ?_)
        · replace h := qv_pos c56 h
          refine qv_run 9 (σ := (74, [z0, some (.int l1), z2, some (.int l3), some (.int (l4 &&& ((ji_shl 1 (fm_X0_between l3 v41)) ^^^ (-1)))), some (.int l5), some (.int v41), some (.int (fm_X0_between l3 v41))], [.int v41], H)) rfl ?_
          refine qv_istN (ls' := [z0, some (.int l1), z2, some (.int v41), some (.int (l4 &&& ((ji_shl 1 (fm_X0_between l3 v41)) ^^^ (-1)))), some (.int l5), some (.int v41), some (.int (fm_X0_between l3 v41))]) rfl rfl (qx_kl_ns rfl hz2) rfl ?_
          refine qv_run 2 (σ := (27, [z0, some (.int l1), z2, some (.int v41), some (.int (l4 &&& ((ji_shl 1 (fm_X0_between l3 v41)) ^^^ (-1)))), some (.int (l5 + 1)), some (.int v41), some (.int (fm_X0_between l3 v41))], [], H)) rfl ?_
          exact ih l1 v41 (l4 &&& ((ji_shl 1 (fm_X0_between l3 v41)) ^^^ (-1))) (l5 + 1) z0 hz0 z2 hz2 (some (.int v41)) rfl (some (.int (fm_X0_between l3 v41))) rfl h
        · replace h := qv_neg c56 h
          refine qv_run 1 (σ := (60, [z0, some (.int l1), z2, some (.int l3), some (.int l4), some (.int l5), some (.int v41), some (.int (fm_X0_between l3 v41))], [.int l3], H)) rfl ?_
          cases h
          exact qv_reti rfl hR
theorem tb_X4_wayKnot_17 {st : xT} {d : Nat} {R : Option Value → qx_H → Prop} (hd : 4 ≤ d) {r : Int32} {H : qx_H} (hR : R (some (.int r)) H) (l0 : Int32) (l1 : Int32) (t0 : Int32) (z2 : Option Value) (hz2 : qx_ns z2 = true) (h : fm_X4_wayKnot_b17 l0 l1 t0 H = some r) : qx_V (xE st d) R (xc33 st) (17, [some (.int l0), some (.int l1), z2, none, none, none, none, none], [.int t0], H) := by
  unfold fm_X4_wayKnot_b17 at h
  obtain ⟨v17, e17, h⟩ := qv_bind h
  refine qv_call [.int t0] rfl rfl rfl (Nat.le_of_ble_eq_true rfl) (th_X0_firstOf (by omega) e17) rfl ?_
  refine qv_istN (ls' := [some (.int l0), some (.int l1), z2, some (.int v17), none, none, none, none]) rfl rfl (qx_kl_ns rfl hz2) rfl ?_
  refine qv_run 4 (σ := (27, [some (.int l0), some (.int l1), z2, some (.int v17), some (.int l0), some (.int 0), none, none], [], H)) rfl ?_
  exact tb_X4_wayKnot_27 hd hR 5000 l1 v17 l0 0 (some (.int l0)) rfl z2 hz2 none rfl none rfl h
theorem tb_X4_wayKnot_0 {st : xT} {d : Nat} {R : Option Value → qx_H → Prop} (hd : 4 ≤ d) {r : Int32} {H : qx_H} (hR : R (some (.int r)) H) (a0 : Int32) (a1 : Int32) (h : fm_X4_wayKnot a0 a1 H = some r) : qx_V (xE st d) R (xc33 st) (0, [some (.int a0), some (.int a1), none, none, none, none, none, none], [], H) := by
  unfold fm_X4_wayKnot at h
  refine qv_run 1 (σ := (1, [some (.int a0), some (.int a1), none, none, none, none, none, none], [.int a0], H)) rfl ?_
  obtain ⟨v1, e1, h⟩ := qv_bind h
  refine qv_call [.int a0] rfl rfl rfl (Nat.le_of_ble_eq_true rfl) (th_X0_oddKnots (by omega) e1) rfl ?_
  refine qv_br (c := v1 = 0) (a := (13, [some (.int a0), some (.int a1), some (.int v1), none, none, none, none, none], [], H)) (b := (9, [some (.int a0), some (.int a1), some (.int v1), none, none, none, none, none], [], H)) 3 rfl (fun c6 => ?_) (fun c6 => ?_)
  · replace h := qv_pos c6 h
    refine qv_run 1 (σ := (14, [some (.int a0), some (.int a1), some (.int v1), none, none, none, none, none], [.int a0], H)) rfl ?_
    obtain ⟨v14, e14, h⟩ := qv_bind h
    refine qv_call [.int a0] rfl rfl rfl (Nat.le_of_ble_eq_true rfl) (th_X0_knotsOf (by omega) e14) rfl ?_
    exact tb_X4_wayKnot_17 hd hR a0 a1 v14 (some (.int v1)) rfl h
  · replace h := qv_neg c6 h
    refine qv_run 2 (σ := (17, [some (.int a0), some (.int a1), some (.int v1), none, none, none, none, none], [.int v1], H)) rfl ?_
    exact tb_X4_wayKnot_17 hd hR a0 a1 v1 (some (.int v1)) rfl h
theorem th_X4_wayKnot {st : xT} {d : Nat} (hd : 5 ≤ d) {a0 : Int32} {a1 : Int32} {r : Int32} {H : qx_H} (h : fm_X4_wayKnot a0 a1 H = some r) : xE st d 33 [.int a0, .int a1] H (some (.int r)) H := by
  obtain ⟨d, rfl⟩ : ∃ d', d = d' + 1 := ⟨d - 1, by omega⟩
  exact xE_of (xe33 st) xl33 (Nat.le_of_ble_eq_true rfl) (ls := [some (.int a0), some (.int a1), none, none, none, none, none, none]) rfl (tb_X4_wayKnot_0 (by omega) ⟨rfl, rfl⟩ a0 a1 h)
def fm_X5_init_b94 : Nat → Nat → Int32 → qx_H → Option qx_H
  | 0, _, _, _ => none
  | n + 1, l0, l1, H => if 20 ≤ l1 then (some H) else ((hp_gR H l0 3 1).bind fun v101 => (hp_ast H v101 l1 5).bind fun H106 => fm_X5_init_b94 n l0 (l1 + 1) H106)
def fm_X5_init (a0 : Nat) (H : qx_H) : Option qx_H := if ¬ ((20 : Int32) < 0 ∨ 100000 < Int32.toNatClampNeg 20) ∧ qx_ok [some (.ref a0), none] [.ref a0] H = true then ((hp_put (H ++ ([.inl (Int32.toNatClampNeg 20, .inl fun _ => 0)] : qx_H)) a0 3 0 (.ref H.length)).bind fun H9 => if ¬ ((20 : Int32) < 0 ∨ 100000 < Int32.toNatClampNeg 20) ∧ qx_ok [some (.ref a0), none] [.ref a0] H9 = true then ((hp_put (H9 ++ ([.inl (Int32.toNatClampNeg 20, .inl fun _ => 0)] : qx_H)) a0 3 1 (.ref H9.length)).bind fun H17 => if ¬ ((20 : Int32) < 0 ∨ 100000 < Int32.toNatClampNeg 20) ∧ qx_ok [some (.ref a0), none] [.ref a0] H17 = true then ((hp_put (H17 ++ ([.inl (Int32.toNatClampNeg 20, .inl fun _ => 0)] : qx_H)) a0 3 2 (.ref H17.length)).bind fun H25 => if ¬ ((20 : Int32) < 0 ∨ 100000 < Int32.toNatClampNeg 20) ∧ qx_ok [some (.ref a0), none] [.ref a0] H25 = true then ((hp_put (H25 ++ ([.inl (Int32.toNatClampNeg 20, .inl fun _ => 0)] : qx_H)) a0 3 3 (.ref H25.length)).bind fun H33 => if ¬ ((31 : Int32) < 0 ∨ 100000 < Int32.toNatClampNeg 31) ∧ qx_ok [some (.ref a0), none] [.ref a0] H33 = true then ((hp_put (H33 ++ ([.inl (Int32.toNatClampNeg 31, .inl fun _ => 0)] : qx_H)) a0 3 4 (.ref H33.length)).bind fun H41 => if ¬ ((31 : Int32) < 0 ∨ 100000 < Int32.toNatClampNeg 31) ∧ qx_ok [some (.ref a0), none] [.ref a0] H41 = true then ((hp_put (H41 ++ ([.inl (Int32.toNatClampNeg 31, .inl fun _ => 0)] : qx_H)) a0 3 5 (.ref H41.length)).bind fun H49 => if ¬ ((20 : Int32) < 0 ∨ 100000 < Int32.toNatClampNeg 20) ∧ qx_ok [some (.ref a0), none] [.ref a0] H49 = true then ((hp_put (H49 ++ ([.inl (Int32.toNatClampNeg 20, .inl fun _ => 0)] : qx_H)) a0 3 6 (.ref H49.length)).bind fun H57 => if qx_ok [some (.ref a0), none] [.ref a0] H57 = true then (if hp_is (H57 ++ ([.inr (1, [.null, .null, .int 0])] : qx_H)) H57.length 1 = true then (if qx_okl (H57 ++ ([.inr (1, [.null, .null, .int 0])] : qx_H)).length [some (.ref a0), none] [.ref H57.length, .ref a0] = true then ((fm_X3_init H57.length (H57 ++ ([.inr (1, [.null, .null, .int 0])] : qx_H))).bind fun H65 => (hp_put H65 a0 3 7 (.ref H57.length)).bind fun H68 => if qx_ok [some (.ref a0), none] [.ref a0] H68 = true then (if hp_is (H68 ++ ([.inr (1, [.null, .null, .int 0])] : qx_H)) H68.length 1 = true then (if qx_okl (H68 ++ ([.inr (1, [.null, .null, .int 0])] : qx_H)).length [some (.ref a0), none] [.ref H68.length, .ref a0] = true then ((fm_X3_init H68.length (H68 ++ ([.inr (1, [.null, .null, .int 0])] : qx_H))).bind fun H76 => (hp_put H76 a0 3 8 (.ref H68.length)).bind fun H79 => (hp_put H79 a0 3 9 (.int 0)).bind fun H84 => (hp_put H84 a0 3 10 (.int 0)).bind fun H89 => fm_X5_init_b94 5000 a0 0 H89) else none) else none) else none) else none) else none) else none) else none) else none) else none) else none) else none) else none) else none
theorem tb_X5_init_94 {st : xT} {d : Nat} {R : Option Value → qx_H → Prop} (hd : 1 ≤ d) {H' : qx_H} (hR : R (none) H') : ∀ (n : Nat) (l0 : Nat) (l1 : Int32) (H : qx_H) (h : fm_X5_init_b94 n l0 l1 H = some H'), qx_V (xE st d) R (xc35 st) (94, [some (.ref l0), some (.int l1)], [], H) := by
  intro n
  induction n with
  | zero => intro l0 l1 H h; exact nomatch (show (none : Option qx_H) = some H' from h)
  | succ n ih =>
    intro l0 l1 H h
    unfold fm_X5_init_b94 at h
    refine qv_br (c := 20 ≤ l1) (a := (113, [some (.ref l0), some (.int l1)], [], H)) (b := (100, [some (.ref l0), some (.int l1)], [], H)) 3 rfl (fun c97 => ?_) (fun c97 => ?_)
    · replace h := qv_pos c97 h
      cases h
      exact qv_ret0 rfl hR
    · replace h := qv_neg c97 h
      refine qv_run 1 (σ := (101, [some (.ref l0), some (.int l1)], [.ref l0], H)) rfl ?_
      obtain ⟨v101, e101, h⟩ := qv_bind h
      refine qv_getR rfl e101 ?_
      refine qv_run 2 (σ := (106, [some (.ref l0), some (.int l1)], [.int 5, .int l1, .ref v101], H)) rfl ?_
      obtain ⟨H106, e106, h⟩ := qv_bind h
      refine qv_ast rfl e106 ?_
      refine qv_run 2 (σ := (94, [some (.ref l0), some (.int (l1 + 1))], [], H106)) rfl ?_
      exact ih l0 (l1 + 1) H106 h
theorem tb_X5_init_0 {st : xT} {d : Nat} {R : Option Value → qx_H → Prop} (hd : 1 ≤ d) {H' : qx_H} (hR : R (none) H') (a0 : Nat) (H : qx_H) (h : fm_X5_init a0 H = some H') : qx_V (xE st d) R (xc35 st) (0, [some (.ref a0), none], [], H) := by
  unfold fm_X5_init at h
  refine qv_run 4 (σ := (7, [some (.ref a0), none], [.int 20, .ref a0], H)) rfl ?_
  obtain ⟨e7, h⟩ := qv_guard h
  refine qv_newa rfl e7.1 e7.2 ?_
  obtain ⟨H9, e9, h⟩ := qv_bind h
  refine qv_putR rfl e9 ?_
  refine qv_run 2 (σ := (15, [some (.ref a0), none], [.int 20, .ref a0], H9)) rfl ?_
  obtain ⟨e15, h⟩ := qv_guard h
  refine qv_newa rfl e15.1 e15.2 ?_
  obtain ⟨H17, e17, h⟩ := qv_bind h
  refine qv_putR rfl e17 ?_
  refine qv_run 2 (σ := (23, [some (.ref a0), none], [.int 20, .ref a0], H17)) rfl ?_
  obtain ⟨e23, h⟩ := qv_guard h
  refine qv_newa rfl e23.1 e23.2 ?_
  obtain ⟨H25, e25, h⟩ := qv_bind h
  refine qv_putR rfl e25 ?_
  refine qv_run 2 (σ := (31, [some (.ref a0), none], [.int 20, .ref a0], H25)) rfl ?_
  obtain ⟨e31, h⟩ := qv_guard h
  refine qv_newa rfl e31.1 e31.2 ?_
  obtain ⟨H33, e33, h⟩ := qv_bind h
  refine qv_putR rfl e33 ?_
  refine qv_run 2 (σ := (39, [some (.ref a0), none], [.int 31, .ref a0], H33)) rfl ?_
  obtain ⟨e39, h⟩ := qv_guard h
  refine qv_newa rfl e39.1 e39.2 ?_
  obtain ⟨H41, e41, h⟩ := qv_bind h
  refine qv_putR rfl e41 ?_
  refine qv_run 2 (σ := (47, [some (.ref a0), none], [.int 31, .ref a0], H41)) rfl ?_
  obtain ⟨e47, h⟩ := qv_guard h
  refine qv_newa rfl e47.1 e47.2 ?_
  obtain ⟨H49, e49, h⟩ := qv_bind h
  refine qv_putR rfl e49 ?_
  refine qv_run 2 (σ := (55, [some (.ref a0), none], [.int 20, .ref a0], H49)) rfl ?_
  obtain ⟨e55, h⟩ := qv_guard h
  refine qv_newa rfl e55.1 e55.2 ?_
  obtain ⟨H57, e57, h⟩ := qv_bind h
  refine qv_putR rfl e57 ?_
  refine qv_run 1 (σ := (61, [some (.ref a0), none], [.ref a0], H57)) rfl ?_
  obtain ⟨e61, h⟩ := qv_guard h
  refine qv_new rfl e61 ?_
  refine qv_run 1 (σ := (65, [some (.ref a0), none], [.ref H57.length, .ref H57.length, .ref a0], (H57 ++ ([.inr (1, [.null, .null, .int 0])] : qx_H)))) rfl ?_
  obtain ⟨g65, h⟩ := qv_guard h
  obtain ⟨g65l, h⟩ := qv_guard h
  obtain ⟨H65, e65, h⟩ := qv_bind h
  refine qv_callA [] rfl rfl rfl (Nat.le_of_ble_eq_true rfl) g65 (th_X3_init (by omega) e65) g65l ?_
  obtain ⟨H68, e68, h⟩ := qv_bind h
  refine qv_putR rfl e68 ?_
  refine qv_run 1 (σ := (72, [some (.ref a0), none], [.ref a0], H68)) rfl ?_
  obtain ⟨e72, h⟩ := qv_guard h
  refine qv_new rfl e72 ?_
  refine qv_run 1 (σ := (76, [some (.ref a0), none], [.ref H68.length, .ref H68.length, .ref a0], (H68 ++ ([.inr (1, [.null, .null, .int 0])] : qx_H)))) rfl ?_
  obtain ⟨g76, h⟩ := qv_guard h
  obtain ⟨g76l, h⟩ := qv_guard h
  obtain ⟨H76, e76, h⟩ := qv_bind h
  refine qv_callA [] rfl rfl rfl (Nat.le_of_ble_eq_true rfl) g76 (th_X3_init (by omega) e76) g76l ?_
  obtain ⟨H79, e79, h⟩ := qv_bind h
  refine qv_putR rfl e79 ?_
  refine qv_run 2 (σ := (84, [some (.ref a0), none], [.int 0, .ref a0], H79)) rfl ?_
  obtain ⟨H84, e84, h⟩ := qv_bind h
  refine qv_putI rfl e84 ?_
  refine qv_run 2 (σ := (89, [some (.ref a0), none], [.int 0, .ref a0], H84)) rfl ?_
  obtain ⟨H89, e89, h⟩ := qv_bind h
  refine qv_putI rfl e89 ?_
  refine qv_run 2 (σ := (94, [some (.ref a0), some (.int 0)], [], H89)) rfl ?_
  exact tb_X5_init_94 hd hR 5000 a0 0 H89 h
theorem th_X5_init {st : xT} {d : Nat} (hd : 2 ≤ d) {a0 : Nat} {H : qx_H} {H' : qx_H} (h : fm_X5_init a0 H = some H') : xE st d 35 [.ref a0] H (none) H' := by
  obtain ⟨d, rfl⟩ : ∃ d', d = d' + 1 := ⟨d - 1, by omega⟩
  exact xE_of (xe35 st) xl35 (Nat.le_of_ble_eq_true rfl) (ls := [some (.ref a0), none]) rfl (tb_X5_init_0 (by omega) ⟨rfl, rfl⟩ a0 H h)
def fm_X5_become (a0 : Nat) (a1 : Nat) (H : qx_H) : Option qx_H := (hp_gR H a1 3 0).bind fun v1 => (hp_gR H a0 3 0).bind fun v6 => (hp_cpy H v1 0 v6 0 20).bind fun H12 => (hp_gR H12 a1 3 1).bind fun v16 => (hp_gR H12 a0 3 1).bind fun v21 => (hp_cpy H12 v16 0 v21 0 20).bind fun H27 => (hp_gR H27 a1 3 2).bind fun v31 => (hp_gR H27 a0 3 2).bind fun v36 => (hp_cpy H27 v31 0 v36 0 20).bind fun H42 => (hp_gR H42 a1 3 3).bind fun v46 => (hp_gR H42 a0 3 3).bind fun v51 => (hp_cpy H42 v46 0 v51 0 20).bind fun H57 => (hp_gR H57 a1 3 4).bind fun v61 => (hp_gR H57 a0 3 4).bind fun v66 => (hp_cpy H57 v61 0 v66 0 31).bind fun H72 => (hp_gR H72 a1 3 5).bind fun v76 => (hp_gR H72 a0 3 5).bind fun v81 => (hp_cpy H72 v76 0 v81 0 31).bind fun H87 => (hp_gR H87 a0 3 7).bind fun v91 => (hp_gR H87 a1 3 7).bind fun v95 => if hp_is H87 v91 1 = true then ((fm_X3_become v91 v95 H87).bind fun H98 => (hp_gR H98 a0 3 8).bind fun v102 => (hp_gR H98 a1 3 8).bind fun v106 => if hp_is H98 v102 1 = true then ((fm_X3_become v102 v106 H98).bind fun H109 => (hp_gI H109 a1 3 9).bind fun v114 => (hp_put H109 a0 3 9 (.int v114)).bind fun H117 => (hp_gI H117 a1 3 10).bind fun v122 => (hp_put H117 a0 3 10 (.int v122)).bind fun H125 => some H125) else none) else none
theorem tb_X5_become_0 {st : xT} {d : Nat} {R : Option Value → qx_H → Prop} (hd : 1 ≤ d) {H' : qx_H} (hR : R (none) H') (a0 : Nat) (a1 : Nat) (H : qx_H) (h : fm_X5_become a0 a1 H = some H') : qx_V (xE st d) R (xc36 st) (0, [some (.ref a0), some (.ref a1)], [], H) := by
  unfold fm_X5_become at h
  refine qv_run 1 (σ := (1, [some (.ref a0), some (.ref a1)], [.ref a1], H)) rfl ?_
  obtain ⟨v1, e1, h⟩ := qv_bind h
  refine qv_getR rfl e1 ?_
  refine qv_run 2 (σ := (6, [some (.ref a0), some (.ref a1)], [.ref a0, .int 0, .ref v1], H)) rfl ?_
  obtain ⟨v6, e6, h⟩ := qv_bind h
  refine qv_getR rfl e6 ?_
  refine qv_run 2 (σ := (12, [some (.ref a0), some (.ref a1)], [.int 20, .int 0, .ref v6, .int 0, .ref v1], H)) rfl ?_
  obtain ⟨H12, e12, h⟩ := qv_bind h
  refine qv_cpy rfl (Nat.le_of_ble_eq_true rfl) e12 ?_
  refine qv_run 1 (σ := (16, [some (.ref a0), some (.ref a1)], [.ref a1], H12)) rfl ?_
  obtain ⟨v16, e16, h⟩ := qv_bind h
  refine qv_getR rfl e16 ?_
  refine qv_run 2 (σ := (21, [some (.ref a0), some (.ref a1)], [.ref a0, .int 0, .ref v16], H12)) rfl ?_
  obtain ⟨v21, e21, h⟩ := qv_bind h
  refine qv_getR rfl e21 ?_
  refine qv_run 2 (σ := (27, [some (.ref a0), some (.ref a1)], [.int 20, .int 0, .ref v21, .int 0, .ref v16], H12)) rfl ?_
  obtain ⟨H27, e27, h⟩ := qv_bind h
  refine qv_cpy rfl (Nat.le_of_ble_eq_true rfl) e27 ?_
  refine qv_run 1 (σ := (31, [some (.ref a0), some (.ref a1)], [.ref a1], H27)) rfl ?_
  obtain ⟨v31, e31, h⟩ := qv_bind h
  refine qv_getR rfl e31 ?_
  refine qv_run 2 (σ := (36, [some (.ref a0), some (.ref a1)], [.ref a0, .int 0, .ref v31], H27)) rfl ?_
  obtain ⟨v36, e36, h⟩ := qv_bind h
  refine qv_getR rfl e36 ?_
  refine qv_run 2 (σ := (42, [some (.ref a0), some (.ref a1)], [.int 20, .int 0, .ref v36, .int 0, .ref v31], H27)) rfl ?_
  obtain ⟨H42, e42, h⟩ := qv_bind h
  refine qv_cpy rfl (Nat.le_of_ble_eq_true rfl) e42 ?_
  refine qv_run 1 (σ := (46, [some (.ref a0), some (.ref a1)], [.ref a1], H42)) rfl ?_
  obtain ⟨v46, e46, h⟩ := qv_bind h
  refine qv_getR rfl e46 ?_
  refine qv_run 2 (σ := (51, [some (.ref a0), some (.ref a1)], [.ref a0, .int 0, .ref v46], H42)) rfl ?_
  obtain ⟨v51, e51, h⟩ := qv_bind h
  refine qv_getR rfl e51 ?_
  refine qv_run 2 (σ := (57, [some (.ref a0), some (.ref a1)], [.int 20, .int 0, .ref v51, .int 0, .ref v46], H42)) rfl ?_
  obtain ⟨H57, e57, h⟩ := qv_bind h
  refine qv_cpy rfl (Nat.le_of_ble_eq_true rfl) e57 ?_
  refine qv_run 1 (σ := (61, [some (.ref a0), some (.ref a1)], [.ref a1], H57)) rfl ?_
  obtain ⟨v61, e61, h⟩ := qv_bind h
  refine qv_getR rfl e61 ?_
  refine qv_run 2 (σ := (66, [some (.ref a0), some (.ref a1)], [.ref a0, .int 0, .ref v61], H57)) rfl ?_
  obtain ⟨v66, e66, h⟩ := qv_bind h
  refine qv_getR rfl e66 ?_
  refine qv_run 2 (σ := (72, [some (.ref a0), some (.ref a1)], [.int 31, .int 0, .ref v66, .int 0, .ref v61], H57)) rfl ?_
  obtain ⟨H72, e72, h⟩ := qv_bind h
  refine qv_cpy rfl (Nat.le_of_ble_eq_true rfl) e72 ?_
  refine qv_run 1 (σ := (76, [some (.ref a0), some (.ref a1)], [.ref a1], H72)) rfl ?_
  obtain ⟨v76, e76, h⟩ := qv_bind h
  refine qv_getR rfl e76 ?_
  refine qv_run 2 (σ := (81, [some (.ref a0), some (.ref a1)], [.ref a0, .int 0, .ref v76], H72)) rfl ?_
  obtain ⟨v81, e81, h⟩ := qv_bind h
  refine qv_getR rfl e81 ?_
  refine qv_run 2 (σ := (87, [some (.ref a0), some (.ref a1)], [.int 31, .int 0, .ref v81, .int 0, .ref v76], H72)) rfl ?_
  obtain ⟨H87, e87, h⟩ := qv_bind h
  refine qv_cpy rfl (Nat.le_of_ble_eq_true rfl) e87 ?_
  refine qv_run 1 (σ := (91, [some (.ref a0), some (.ref a1)], [.ref a0], H87)) rfl ?_
  obtain ⟨v91, e91, h⟩ := qv_bind h
  refine qv_getR rfl e91 ?_
  refine qv_run 1 (σ := (95, [some (.ref a0), some (.ref a1)], [.ref a1, .ref v91], H87)) rfl ?_
  obtain ⟨v95, e95, h⟩ := qv_bind h
  refine qv_getR rfl e95 ?_
  obtain ⟨g98, h⟩ := qv_guard h
  obtain ⟨H98, e98, h⟩ := qv_bind h
  refine qv_callV [.ref v95] rfl rfl rfl (Nat.le_of_ble_eq_true rfl) g98 (th_X3_become (by omega) e98) (tl_X3_become e98) ?_
  refine qv_run 1 (σ := (102, [some (.ref a0), some (.ref a1)], [.ref a0], H98)) rfl ?_
  obtain ⟨v102, e102, h⟩ := qv_bind h
  refine qv_getR rfl e102 ?_
  refine qv_run 1 (σ := (106, [some (.ref a0), some (.ref a1)], [.ref a1, .ref v102], H98)) rfl ?_
  obtain ⟨v106, e106, h⟩ := qv_bind h
  refine qv_getR rfl e106 ?_
  obtain ⟨g109, h⟩ := qv_guard h
  obtain ⟨H109, e109, h⟩ := qv_bind h
  refine qv_callV [.ref v106] rfl rfl rfl (Nat.le_of_ble_eq_true rfl) g109 (th_X3_become (by omega) e109) (tl_X3_become e109) ?_
  refine qv_run 2 (σ := (114, [some (.ref a0), some (.ref a1)], [.ref a1, .ref a0], H109)) rfl ?_
  obtain ⟨v114, e114, h⟩ := qv_bind h
  refine qv_getI rfl e114 ?_
  obtain ⟨H117, e117, h⟩ := qv_bind h
  refine qv_putI rfl e117 ?_
  refine qv_run 2 (σ := (122, [some (.ref a0), some (.ref a1)], [.ref a1, .ref a0], H117)) rfl ?_
  obtain ⟨v122, e122, h⟩ := qv_bind h
  refine qv_getI rfl e122 ?_
  obtain ⟨H125, e125, h⟩ := qv_bind h
  refine qv_putI rfl e125 ?_
  cases h
  exact qv_ret0 rfl hR
theorem tlb_X5_become_0 {H' : qx_H} (a0 : Nat) (a1 : Nat) (H : qx_H) (h : fm_X5_become a0 a1 H = some H') : H'.length = H.length := by
  unfold fm_X5_become at h
  obtain ⟨v1, e1, h⟩ := qv_bind h
  obtain ⟨v6, e6, h⟩ := qv_bind h
  obtain ⟨H12, e12, h⟩ := qv_bind h
  have q_H12 := hp_cpy_len e12
  obtain ⟨v16, e16, h⟩ := qv_bind h
  obtain ⟨v21, e21, h⟩ := qv_bind h
  obtain ⟨H27, e27, h⟩ := qv_bind h
  have q_H27 := hp_cpy_len e27
  obtain ⟨v31, e31, h⟩ := qv_bind h
  obtain ⟨v36, e36, h⟩ := qv_bind h
  obtain ⟨H42, e42, h⟩ := qv_bind h
  have q_H42 := hp_cpy_len e42
  obtain ⟨v46, e46, h⟩ := qv_bind h
  obtain ⟨v51, e51, h⟩ := qv_bind h
  obtain ⟨H57, e57, h⟩ := qv_bind h
  have q_H57 := hp_cpy_len e57
  obtain ⟨v61, e61, h⟩ := qv_bind h
  obtain ⟨v66, e66, h⟩ := qv_bind h
  obtain ⟨H72, e72, h⟩ := qv_bind h
  have q_H72 := hp_cpy_len e72
  obtain ⟨v76, e76, h⟩ := qv_bind h
  obtain ⟨v81, e81, h⟩ := qv_bind h
  obtain ⟨H87, e87, h⟩ := qv_bind h
  have q_H87 := hp_cpy_len e87
  obtain ⟨v91, e91, h⟩ := qv_bind h
  obtain ⟨v95, e95, h⟩ := qv_bind h
  obtain ⟨g98, h⟩ := qv_guard h
  obtain ⟨H98, e98, h⟩ := qv_bind h
  have q_H98 := tl_X3_become e98
  obtain ⟨v102, e102, h⟩ := qv_bind h
  obtain ⟨v106, e106, h⟩ := qv_bind h
  obtain ⟨g109, h⟩ := qv_guard h
  obtain ⟨H109, e109, h⟩ := qv_bind h
  have q_H109 := tl_X3_become e109
  obtain ⟨v114, e114, h⟩ := qv_bind h
  obtain ⟨H117, e117, h⟩ := qv_bind h
  have q_H117 := hp_put_len e117
  obtain ⟨v122, e122, h⟩ := qv_bind h
  obtain ⟨H125, e125, h⟩ := qv_bind h
  have q_H125 := hp_put_len e125
  cases h
  omega
theorem th_X5_become {st : xT} {d : Nat} (hd : 2 ≤ d) {a0 : Nat} {a1 : Nat} {H : qx_H} {H' : qx_H} (h : fm_X5_become a0 a1 H = some H') : xE st d 36 [.ref a0, .ref a1] H (none) H' := by
  obtain ⟨d, rfl⟩ : ∃ d', d = d' + 1 := ⟨d - 1, by omega⟩
  exact xE_of (xe36 st) xl36 (Nat.le_of_ble_eq_true rfl) (ls := [some (.ref a0), some (.ref a1)]) rfl (tb_X5_become_0 (by omega) ⟨rfl, rfl⟩ a0 a1 H h)
theorem tl_X5_become {a0 : Nat} {a1 : Nat} {H : qx_H} {H' : qx_H} (h : fm_X5_become a0 a1 H = some H') : H'.length = H.length := tlb_X5_become_0 a0 a1 H h
def fm_X5_lawOf (a0 : Nat) (a1 : Int32) (H : qx_H) : Option Nat := if a1 = 1 then ((hp_gR H a0 3 8).bind fun v6 => some v6) else ((hp_gR H a0 3 7).bind fun v13 => some v13)
theorem tb_X5_lawOf_0 {st : xT} {d : Nat} {R : Option Value → qx_H → Prop} (hd : 0 ≤ d) {r : Nat} {H : qx_H} (hR : R (some (.ref r)) H) (a0 : Nat) (a1 : Int32) (h : fm_X5_lawOf a0 a1 H = some r) : qx_V (xE st d) R (xc37 st) (0, [some (.ref a0), some (.int a1)], [], H) := by
  unfold fm_X5_lawOf at h
  refine qv_br (c := a1 = 1) (a := (5, [some (.ref a0), some (.int a1)], [], H)) (b := (12, [some (.ref a0), some (.int a1)], [], H)) 3 rfl (fun c2 => ?_) (fun c2 => ?_)
  · replace h := qv_pos c2 h
    refine qv_run 1 (σ := (6, [some (.ref a0), some (.int a1)], [.ref a0], H)) rfl ?_
    obtain ⟨v6, e6, h⟩ := qv_bind h
    refine qv_getR rfl e6 ?_
    refine qv_run 1 (σ := (16, [some (.ref a0), some (.int a1)], [.ref v6], H)) rfl ?_
    cases h
    exact qv_reta rfl hR
  · replace h := qv_neg c2 h
    refine qv_run 1 (σ := (13, [some (.ref a0), some (.int a1)], [.ref a0], H)) rfl ?_
    obtain ⟨v13, e13, h⟩ := qv_bind h
    refine qv_getR rfl e13 ?_
    cases h
    exact qv_reta rfl hR
theorem th_X5_lawOf {st : xT} {d : Nat} (hd : 1 ≤ d) {a0 : Nat} {a1 : Int32} {r : Nat} {H : qx_H} (h : fm_X5_lawOf a0 a1 H = some r) : xE st d 37 [.ref a0, .int a1] H (some (.ref r)) H := by
  obtain ⟨d, rfl⟩ : ∃ d', d = d' + 1 := ⟨d - 1, by omega⟩
  exact xE_of (xe37 st) xl37 (Nat.le_of_ble_eq_true rfl) (ls := [some (.ref a0), some (.int a1)]) rfl (tb_X5_lawOf_0 (by omega) ⟨rfl, rfl⟩ a0 a1 h)
def fm_X5_tieAnew (a0 : Nat) (a1 : Int32) (a2 : Int32) (H : qx_H) : Option qx_H := (hp_gR H a0 3 2).bind fun v1 => (hp_ast H v1 a1 a2).bind fun H6 => (hp_gR H6 a0 3 3).bind fun v8 => (hp_gI H6 a0 3 10).bind fun v13 => (hp_ast H6 v8 a1 v13).bind fun H16 => some H16
theorem tb_X5_tieAnew_0 {st : xT} {d : Nat} {R : Option Value → qx_H → Prop} (hd : 0 ≤ d) {H' : qx_H} (hR : R (none) H') (a0 : Nat) (a1 : Int32) (a2 : Int32) (H : qx_H) (h : fm_X5_tieAnew a0 a1 a2 H = some H') : qx_V (xE st d) R (xc38 st) (0, [some (.ref a0), some (.int a1), some (.int a2)], [], H) := by
  unfold fm_X5_tieAnew at h
  refine qv_run 1 (σ := (1, [some (.ref a0), some (.int a1), some (.int a2)], [.ref a0], H)) rfl ?_
  obtain ⟨v1, e1, h⟩ := qv_bind h
  refine qv_getR rfl e1 ?_
  refine qv_run 2 (σ := (6, [some (.ref a0), some (.int a1), some (.int a2)], [.int a2, .int a1, .ref v1], H)) rfl ?_
  obtain ⟨H6, e6, h⟩ := qv_bind h
  refine qv_ast rfl e6 ?_
  refine qv_run 1 (σ := (8, [some (.ref a0), some (.int a1), some (.int a2)], [.ref a0], H6)) rfl ?_
  obtain ⟨v8, e8, h⟩ := qv_bind h
  refine qv_getR rfl e8 ?_
  refine qv_run 2 (σ := (13, [some (.ref a0), some (.int a1), some (.int a2)], [.ref a0, .int a1, .ref v8], H6)) rfl ?_
  obtain ⟨v13, e13, h⟩ := qv_bind h
  refine qv_getI rfl e13 ?_
  obtain ⟨H16, e16, h⟩ := qv_bind h
  refine qv_ast rfl e16 ?_
  cases h
  exact qv_ret0 rfl hR
theorem tlb_X5_tieAnew_0 {H' : qx_H} (a0 : Nat) (a1 : Int32) (a2 : Int32) (H : qx_H) (h : fm_X5_tieAnew a0 a1 a2 H = some H') : H'.length = H.length := by
  unfold fm_X5_tieAnew at h
  obtain ⟨v1, e1, h⟩ := qv_bind h
  obtain ⟨H6, e6, h⟩ := qv_bind h
  have q_H6 := hp_ast_len e6
  obtain ⟨v8, e8, h⟩ := qv_bind h
  obtain ⟨v13, e13, h⟩ := qv_bind h
  obtain ⟨H16, e16, h⟩ := qv_bind h
  have q_H16 := hp_ast_len e16
  cases h
  omega
theorem th_X5_tieAnew {st : xT} {d : Nat} (hd : 1 ≤ d) {a0 : Nat} {a1 : Int32} {a2 : Int32} {H : qx_H} {H' : qx_H} (h : fm_X5_tieAnew a0 a1 a2 H = some H') : xE st d 38 [.ref a0, .int a1, .int a2] H (none) H' := by
  obtain ⟨d, rfl⟩ : ∃ d', d = d' + 1 := ⟨d - 1, by omega⟩
  exact xE_of (xe38 st) xl38 (Nat.le_of_ble_eq_true rfl) (ls := [some (.ref a0), some (.int a1), some (.int a2)]) rfl (tb_X5_tieAnew_0 (by omega) ⟨rfl, rfl⟩ a0 a1 a2 H h)
theorem tl_X5_tieAnew {a0 : Nat} {a1 : Int32} {a2 : Int32} {H : qx_H} {H' : qx_H} (h : fm_X5_tieAnew a0 a1 a2 H = some H') : H'.length = H.length := tlb_X5_tieAnew_0 a0 a1 a2 H h
def fm_X10_heldWithin (a0 : Int32) (a1 : Int32) (a2 : Int32) : Int32 := ji_max a1 (ji_min a2 a0)
theorem tb_X10_heldWithin_0 {st : xT} {d : Nat} {R : Option Value → qx_H → Prop} (hd : 0 ≤ d) {r : Int32} {H : qx_H} (hR : R (some (.int r)) H) (a0 : Int32) (a1 : Int32) (a2 : Int32) (h : fm_X10_heldWithin a0 a1 a2 = r) : qx_V (xE st d) R (xc119 st) (0, [some (.int a0), some (.int a1), some (.int a2)], [], H) := by
  unfold fm_X10_heldWithin at h
  refine qv_run 5 (σ := (9, [some (.int a0), some (.int a1), some (.int a2)], [.int (ji_max a1 (ji_min a2 a0))], H)) rfl ?_
  subst h
  exact qv_reti rfl hR
theorem th_X10_heldWithin {st : xT} {d : Nat} (hd : 1 ≤ d) {a0 : Int32} {a1 : Int32} {a2 : Int32} {r : Int32} {H : qx_H} (h : fm_X10_heldWithin a0 a1 a2 = r) : xE st d 119 [.int a0, .int a1, .int a2] H (some (.int r)) H := by
  obtain ⟨d, rfl⟩ : ∃ d', d = d' + 1 := ⟨d - 1, by omega⟩
  exact xE_of (xe119 st) xl119 (Nat.le_of_ble_eq_true rfl) (ls := [some (.int a0), some (.int a1), some (.int a2)]) rfl (tb_X10_heldWithin_0 (by omega) ⟨rfl, rfl⟩ a0 a1 a2 h)
def fm_X5_holdsOf_b167 (l7 : Int32) (H : qx_H) : Option (Int32 × qx_H) := some ((fm_X10_heldWithin l7 0 99), H)
def fm_X5_holdsOf_b158 (t0 : Int32) (H : qx_H) : Option (Int32 × qx_H) := fm_X5_holdsOf_b167 t0 H
def fm_X5_holdsOf (a0 : Nat) (a1 : Int32) (H : qx_H) : Option (Int32 × qx_H) := (hp_gR H a0 3 1).bind fun v1 => (hp_ald H v1 a1).bind fun v5 => (hp_gI H a0 3 10).bind fun v8 => (hp_gR H a0 3 3).bind fun v12 => (hp_ald H v12 a1).bind fun v16 => (hp_gR H a0 3 0).bind fun v45 => (hp_ald H v45 a1).bind fun v49 => if v49 = 1 then (fm_X5_holdsOf_b167 (((20 + v5) / 2) - (ji_min (v8 - v16) 9)) H) else if v49 = 2 then (fm_X5_holdsOf_b167 (2 * (20 + v5)) H) else if v49 = 3 then (fm_X5_holdsOf_b167 10 H) else if v49 = 4 then (fm_X5_holdsOf_b167 ((((20 + v5) / 2) - (ji_min (v8 - v16) 9)) + v5) H) else if v49 = 5 then (fm_X5_holdsOf_b167 ((2 * (20 + v5)) - 15) H) else if v49 = 6 then ((hp_gR H a0 3 7).bind fun v129 => if hp_is H v129 1 = true then ((fm_X3_isThere v129 H).bind fun v132 => if v132 = 0 then (fm_X5_holdsOf_b158 (20 + v5) H) else ((hp_gR H a0 3 7).bind fun v139 => (hp_gR H a0 3 2).bind fun v145 => (hp_ald H v145 a1).bind fun v149 => if hp_is H v139 1 = true then (ob2 (fm_X3_worth v139 v5 (v8 - v16) v149 H) fun v150 H150 => fm_X5_holdsOf_b158 v150 H150) else none)) else none) else (fm_X5_holdsOf_b167 (20 + v5) H)
theorem tb_X5_holdsOf_167 {st : xT} {d : Nat} {R : Option Value → qx_H → Prop} (hd : 2 ≤ d) {r : Int32} {H' : qx_H} (hR : R (some (.int r)) H') (l7 : Int32) (z0 : Option Value) (hz0 : qx_ns z0 = true) (z1 : Option Value) (hz1 : qx_ns z1 = true) (z2 : Option Value) (hz2 : qx_ns z2 = true) (z3 : Option Value) (hz3 : qx_ns z3 = true) (z4 : Option Value) (hz4 : qx_ns z4 = true) (z5 : Option Value) (hz5 : qx_ns z5 = true) (z6 : Option Value) (hz6 : qx_ns z6 = true) (H : qx_H) (h : fm_X5_holdsOf_b167 l7 H = some (r, H')) : qx_V (xE st d) R (xc39 st) (167, [z0, z1, z2, z3, z4, z5, z6, some (.int l7)], [], H) := by
  unfold fm_X5_holdsOf_b167 at h
  refine qv_run 3 (σ := (172, [z0, z1, z2, z3, z4, z5, z6, some (.int l7)], [.int 99, .int 0, .int l7], H)) rfl ?_
  refine qv_call [.int l7, .int 0, .int 99] rfl rfl rfl (Nat.le_of_ble_eq_true rfl) (th_X10_heldWithin (by omega) rfl) rfl ?_
  obtain ⟨rfl, rfl⟩ := qv_pair h
  exact qv_reti rfl hR
theorem tlb_X5_holdsOf_167 {r : Int32} {H' : qx_H} (l7 : Int32) (H : qx_H) (h : fm_X5_holdsOf_b167 l7 H = some (r, H')) : H'.length = H.length := by
  unfold fm_X5_holdsOf_b167 at h
  obtain ⟨rfl, rfl⟩ := qv_pair h
  rfl
theorem tb_X5_holdsOf_158 {st : xT} {d : Nat} {R : Option Value → qx_H → Prop} (hd : 2 ≤ d) {r : Int32} {H' : qx_H} (hR : R (some (.int r)) H') (t0 : Int32) (z0 : Option Value) (hz0 : qx_ns z0 = true) (z1 : Option Value) (hz1 : qx_ns z1 = true) (z2 : Option Value) (hz2 : qx_ns z2 = true) (z3 : Option Value) (hz3 : qx_ns z3 = true) (z4 : Option Value) (hz4 : qx_ns z4 = true) (z5 : Option Value) (hz5 : qx_ns z5 = true) (z6 : Option Value) (hz6 : qx_ns z6 = true) (H : qx_H) (h : fm_X5_holdsOf_b158 t0 H = some (r, H')) : qx_V (xE st d) R (xc39 st) (158, [z0, z1, z2, z3, z4, z5, z6, none], [.int t0], H) := by
  unfold fm_X5_holdsOf_b158 at h
  refine qv_istN (ls' := [z0, z1, z2, z3, z4, z5, z6, some (.int t0)]) rfl rfl (qx_kl_ns rfl hz6) rfl ?_
  refine qv_run 1 (σ := (167, [z0, z1, z2, z3, z4, z5, z6, some (.int t0)], [], H)) rfl ?_
  exact tb_X5_holdsOf_167 hd hR t0 z0 hz0 z1 hz1 z2 hz2 z3 hz3 z4 hz4 z5 hz5 z6 hz6 H h
theorem tlb_X5_holdsOf_158 {r : Int32} {H' : qx_H} (t0 : Int32) (H : qx_H) (h : fm_X5_holdsOf_b158 t0 H = some (r, H')) : H'.length = H.length := by
  unfold fm_X5_holdsOf_b158 at h
  exact tlb_X5_holdsOf_167 t0 H h
theorem tb_X5_holdsOf_0 {st : xT} {d : Nat} {R : Option Value → qx_H → Prop} (hd : 2 ≤ d) {r : Int32} {H' : qx_H} (hR : R (some (.int r)) H') (a0 : Nat) (a1 : Int32) (H : qx_H) (h : fm_X5_holdsOf a0 a1 H = some (r, H')) : qx_V (xE st d) R (xc39 st) (0, [some (.ref a0), some (.int a1), none, none, none, none, none, none], [], H) := by
  unfold fm_X5_holdsOf at h
  refine qv_run 1 (σ := (1, [some (.ref a0), some (.int a1), none, none, none, none, none, none], [.ref a0], H)) rfl ?_
  obtain ⟨v1, e1, h⟩ := qv_bind h
  refine qv_getR rfl e1 ?_
  refine qv_run 1 (σ := (5, [some (.ref a0), some (.int a1), none, none, none, none, none, none], [.int a1, .ref v1], H)) rfl ?_
  obtain ⟨v5, e5, h⟩ := qv_bind h
  refine qv_ald rfl e5 ?_
  refine qv_run 2 (σ := (8, [some (.ref a0), some (.int a1), some (.int v5), none, none, none, none, none], [.ref a0], H)) rfl ?_
  obtain ⟨v8, e8, h⟩ := qv_bind h
  refine qv_getI rfl e8 ?_
  refine qv_run 1 (σ := (12, [some (.ref a0), some (.int a1), some (.int v5), none, none, none, none, none], [.ref a0, .int v8], H)) rfl ?_
  obtain ⟨v12, e12, h⟩ := qv_bind h
  refine qv_getR rfl e12 ?_
  refine qv_run 1 (σ := (16, [some (.ref a0), some (.int a1), some (.int v5), none, none, none, none, none], [.int a1, .ref v12, .int v8], H)) rfl ?_
  obtain ⟨v16, e16, h⟩ := qv_bind h
  refine qv_ald rfl e16 ?_
  refine qv_run 8 (σ := (28, [some (.ref a0), some (.int a1), some (.int v5), some (.int (v8 - v16)), some (.int (20 + v5)), none, none, none], [.int 2, .int (20 + v5)], H)) rfl ?_
  refine qv_div rfl (by decide) ?_
  refine qv_run 10 (σ := (45, [some (.ref a0), some (.int a1), some (.int v5), some (.int (v8 - v16)), some (.int (20 + v5)), some (.int (((20 + v5) / 2) - (ji_min (v8 - v16) 9))), some (.int (2 * (20 + v5))), none], [.ref a0], H)) rfl ?_
  obtain ⟨v45, e45, h⟩ := qv_bind h
  refine qv_getR rfl e45 ?_
  refine qv_run 1 (σ := (49, [some (.ref a0), some (.int a1), some (.int v5), some (.int (v8 - v16)), some (.int (20 + v5)), some (.int (((20 + v5) / 2) - (ji_min (v8 - v16) 9))), some (.int (2 * (20 + v5))), none], [.int a1, .ref v45], H)) rfl ?_
  obtain ⟨v49, e49, h⟩ := qv_bind h
  refine qv_ald rfl e49 ?_
  refine qv_run 1 (σ := (qx_swt v49 163 [(1, 88), (2, 95), (3, 102), (4, 109), (5, 118), (6, 128)], [some (.ref a0), some (.int a1), some (.int v5), some (.int (v8 - v16)), some (.int (20 + v5)), some (.int (((20 + v5) / 2) - (ji_min (v8 - v16) 9))), some (.int (2 * (20 + v5))), none], [], H)) rfl ?_
  refine qv_swt (fun c50_0 => ?_) (fun c50_0 => ?_)
  · replace h := qv_pos c50_0 h
    refine qv_run 3 (σ := (167, [some (.ref a0), some (.int a1), some (.int v5), some (.int (v8 - v16)), some (.int (20 + v5)), some (.int (((20 + v5) / 2) - (ji_min (v8 - v16) 9))), some (.int (2 * (20 + v5))), some (.int (((20 + v5) / 2) - (ji_min (v8 - v16) 9)))], [], H)) rfl ?_
    exact tb_X5_holdsOf_167 hd hR (((20 + v5) / 2) - (ji_min (v8 - v16) 9)) (some (.ref a0)) rfl (some (.int a1)) rfl (some (.int v5)) rfl (some (.int (v8 - v16))) rfl (some (.int (20 + v5))) rfl (some (.int (((20 + v5) / 2) - (ji_min (v8 - v16) 9)))) rfl (some (.int (2 * (20 + v5)))) rfl H h
  · replace h := qv_neg c50_0 h
    refine qv_swt (fun c50_1 => ?_) (fun c50_1 => ?_)
    · replace h := qv_pos c50_1 h
      refine qv_run 3 (σ := (167, [some (.ref a0), some (.int a1), some (.int v5), some (.int (v8 - v16)), some (.int (20 + v5)), some (.int (((20 + v5) / 2) - (ji_min (v8 - v16) 9))), some (.int (2 * (20 + v5))), some (.int (2 * (20 + v5)))], [], H)) rfl ?_
      exact tb_X5_holdsOf_167 hd hR (2 * (20 + v5)) (some (.ref a0)) rfl (some (.int a1)) rfl (some (.int v5)) rfl (some (.int (v8 - v16))) rfl (some (.int (20 + v5))) rfl (some (.int (((20 + v5) / 2) - (ji_min (v8 - v16) 9)))) rfl (some (.int (2 * (20 + v5)))) rfl H h
    · replace h := qv_neg c50_1 h
      refine qv_swt (fun c50_2 => ?_) (fun c50_2 => ?_)
      · replace h := qv_pos c50_2 h
        refine qv_run 3 (σ := (167, [some (.ref a0), some (.int a1), some (.int v5), some (.int (v8 - v16)), some (.int (20 + v5)), some (.int (((20 + v5) / 2) - (ji_min (v8 - v16) 9))), some (.int (2 * (20 + v5))), some (.int 10)], [], H)) rfl ?_
        exact tb_X5_holdsOf_167 hd hR 10 (some (.ref a0)) rfl (some (.int a1)) rfl (some (.int v5)) rfl (some (.int (v8 - v16))) rfl (some (.int (20 + v5))) rfl (some (.int (((20 + v5) / 2) - (ji_min (v8 - v16) 9)))) rfl (some (.int (2 * (20 + v5)))) rfl H h
      · replace h := qv_neg c50_2 h
        refine qv_swt (fun c50_3 => ?_) (fun c50_3 => ?_)
        · replace h := qv_pos c50_3 h
          refine qv_run 5 (σ := (167, [some (.ref a0), some (.int a1), some (.int v5), some (.int (v8 - v16)), some (.int (20 + v5)), some (.int (((20 + v5) / 2) - (ji_min (v8 - v16) 9))), some (.int (2 * (20 + v5))), some (.int ((((20 + v5) / 2) - (ji_min (v8 - v16) 9)) + v5))], [], H)) rfl ?_
          exact tb_X5_holdsOf_167 hd hR ((((20 + v5) / 2) - (ji_min (v8 - v16) 9)) + v5) (some (.ref a0)) rfl (some (.int a1)) rfl (some (.int v5)) rfl (some (.int (v8 - v16))) rfl (some (.int (20 + v5))) rfl (some (.int (((20 + v5) / 2) - (ji_min (v8 - v16) 9)))) rfl (some (.int (2 * (20 + v5)))) rfl H h
        · replace h := qv_neg c50_3 h
          refine qv_swt (fun c50_4 => ?_) (fun c50_4 => ?_)
          · replace h := qv_pos c50_4 h
            refine qv_run 5 (σ := (167, [some (.ref a0), some (.int a1), some (.int v5), some (.int (v8 - v16)), some (.int (20 + v5)), some (.int (((20 + v5) / 2) - (ji_min (v8 - v16) 9))), some (.int (2 * (20 + v5))), some (.int ((2 * (20 + v5)) - 15))], [], H)) rfl ?_
            exact tb_X5_holdsOf_167 hd hR ((2 * (20 + v5)) - 15) (some (.ref a0)) rfl (some (.int a1)) rfl (some (.int v5)) rfl (some (.int (v8 - v16))) rfl (some (.int (20 + v5))) rfl (some (.int (((20 + v5) / 2) - (ji_min (v8 - v16) 9)))) rfl (some (.int (2 * (20 + v5)))) rfl H h
          · replace h := qv_neg c50_4 h
            refine qv_swt (fun c50_5 => ?_) (fun c50_5 => ?_)
            · replace h := qv_pos c50_5 h
              refine qv_run 1 (σ := (129, [some (.ref a0), some (.int a1), some (.int v5), some (.int (v8 - v16)), some (.int (20 + v5)), some (.int (((20 + v5) / 2) - (ji_min (v8 - v16) 9))), some (.int (2 * (20 + v5))), none], [.ref a0], H)) rfl ?_
              obtain ⟨v129, e129, h⟩ := qv_bind h
              refine qv_getR rfl e129 ?_
              obtain ⟨g132, h⟩ := qv_guard h
              obtain ⟨v132, e132, h⟩ := qv_bind h
              refine qv_callV [] rfl rfl rfl (Nat.le_of_ble_eq_true rfl) g132 (th_X3_isThere (by omega) e132) rfl ?_
              refine qv_br (c := v132 = 0) (a := (156, [some (.ref a0), some (.int a1), some (.int v5), some (.int (v8 - v16)), some (.int (20 + v5)), some (.int (((20 + v5) / 2) - (ji_min (v8 - v16) 9))), some (.int (2 * (20 + v5))), none], [], H)) (b := (138, [some (.ref a0), some (.int a1), some (.int v5), some (.int (v8 - v16)), some (.int (20 + v5)), some (.int (((20 + v5) / 2) - (ji_min (v8 - v16) 9))), some (.int (2 * (20 + v5))), none], [], H)) 1 rfl (fun c135 => ?_) (fun c135 => ?_)
              · replace h := qv_pos c135 h
                refine qv_run 1 (σ := (158, [some (.ref a0), some (.int a1), some (.int v5), some (.int (v8 - v16)), some (.int (20 + v5)), some (.int (((20 + v5) / 2) - (ji_min (v8 - v16) 9))), some (.int (2 * (20 + v5))), none], [.int (20 + v5)], H)) rfl ?_
                exact tb_X5_holdsOf_158 hd hR (20 + v5) (some (.ref a0)) rfl (some (.int a1)) rfl (some (.int v5)) rfl (some (.int (v8 - v16))) rfl (some (.int (20 + v5))) rfl (some (.int (((20 + v5) / 2) - (ji_min (v8 - v16) 9)))) rfl (some (.int (2 * (20 + v5)))) rfl H h
              · replace h := qv_neg c135 h
                refine qv_run 1 (σ := (139, [some (.ref a0), some (.int a1), some (.int v5), some (.int (v8 - v16)), some (.int (20 + v5)), some (.int (((20 + v5) / 2) - (ji_min (v8 - v16) 9))), some (.int (2 * (20 + v5))), none], [.ref a0], H)) rfl ?_
                obtain ⟨v139, e139, h⟩ := qv_bind h
                refine qv_getR rfl e139 ?_
                refine qv_run 3 (σ := (145, [some (.ref a0), some (.int a1), some (.int v5), some (.int (v8 - v16)), some (.int (20 + v5)), some (.int (((20 + v5) / 2) - (ji_min (v8 - v16) 9))), some (.int (2 * (20 + v5))), none], [.ref a0, .int (v8 - v16), .int v5, .ref v139], H)) rfl ?_
                obtain ⟨v145, e145, h⟩ := qv_bind h
                refine qv_getR rfl e145 ?_
                refine qv_run 1 (σ := (149, [some (.ref a0), some (.int a1), some (.int v5), some (.int (v8 - v16)), some (.int (20 + v5)), some (.int (((20 + v5) / 2) - (ji_min (v8 - v16) 9))), some (.int (2 * (20 + v5))), none], [.int a1, .ref v145, .int (v8 - v16), .int v5, .ref v139], H)) rfl ?_
                obtain ⟨v149, e149, h⟩ := qv_bind h
                refine qv_ald rfl e149 ?_
                obtain ⟨g150, h⟩ := qv_guard h
                obtain ⟨v150, H150, e150, h⟩ := qv_bind2 h
                refine qv_callV [.int v5, .int (v8 - v16), .int v149] rfl rfl rfl (Nat.le_of_ble_eq_true rfl) g150 (th_X3_worth (by omega) e150) (tl_X3_worth e150) ?_
                refine qv_run 1 (σ := (158, [some (.ref a0), some (.int a1), some (.int v5), some (.int (v8 - v16)), some (.int (20 + v5)), some (.int (((20 + v5) / 2) - (ji_min (v8 - v16) 9))), some (.int (2 * (20 + v5))), none], [.int v150], H150)) rfl ?_
                exact tb_X5_holdsOf_158 hd hR v150 (some (.ref a0)) rfl (some (.int a1)) rfl (some (.int v5)) rfl (some (.int (v8 - v16))) rfl (some (.int (20 + v5))) rfl (some (.int (((20 + v5) / 2) - (ji_min (v8 - v16) 9)))) rfl (some (.int (2 * (20 + v5)))) rfl H150 h
            · replace h := qv_neg c50_5 h
              refine qv_sw0 ?_
              refine qv_run 2 (σ := (167, [some (.ref a0), some (.int a1), some (.int v5), some (.int (v8 - v16)), some (.int (20 + v5)), some (.int (((20 + v5) / 2) - (ji_min (v8 - v16) 9))), some (.int (2 * (20 + v5))), some (.int (20 + v5))], [], H)) rfl ?_
              exact tb_X5_holdsOf_167 hd hR (20 + v5) (some (.ref a0)) rfl (some (.int a1)) rfl (some (.int v5)) rfl (some (.int (v8 - v16))) rfl (some (.int (20 + v5))) rfl (some (.int (((20 + v5) / 2) - (ji_min (v8 - v16) 9)))) rfl (some (.int (2 * (20 + v5)))) rfl H h
theorem tlb_X5_holdsOf_0 {r : Int32} {H' : qx_H} (a0 : Nat) (a1 : Int32) (H : qx_H) (h : fm_X5_holdsOf a0 a1 H = some (r, H')) : H'.length = H.length := by
  unfold fm_X5_holdsOf at h
  obtain ⟨v1, e1, h⟩ := qv_bind h
  obtain ⟨v5, e5, h⟩ := qv_bind h
  obtain ⟨v8, e8, h⟩ := qv_bind h
  obtain ⟨v12, e12, h⟩ := qv_bind h
  obtain ⟨v16, e16, h⟩ := qv_bind h
  obtain ⟨v45, e45, h⟩ := qv_bind h
  obtain ⟨v49, e49, h⟩ := qv_bind h
  by_cases c50_0 : v49 = 1
  · replace h := qv_pos c50_0 h
    exact tlb_X5_holdsOf_167 (((20 + v5) / 2) - (ji_min (v8 - v16) 9)) H h
  · replace h := qv_neg c50_0 h
    by_cases c50_1 : v49 = 2
    · replace h := qv_pos c50_1 h
      exact tlb_X5_holdsOf_167 (2 * (20 + v5)) H h
    · replace h := qv_neg c50_1 h
      by_cases c50_2 : v49 = 3
      · replace h := qv_pos c50_2 h
        exact tlb_X5_holdsOf_167 10 H h
      · replace h := qv_neg c50_2 h
        by_cases c50_3 : v49 = 4
        · replace h := qv_pos c50_3 h
          exact tlb_X5_holdsOf_167 ((((20 + v5) / 2) - (ji_min (v8 - v16) 9)) + v5) H h
        · replace h := qv_neg c50_3 h
          by_cases c50_4 : v49 = 5
          · replace h := qv_pos c50_4 h
            exact tlb_X5_holdsOf_167 ((2 * (20 + v5)) - 15) H h
          · replace h := qv_neg c50_4 h
            by_cases c50_5 : v49 = 6
            · replace h := qv_pos c50_5 h
              obtain ⟨v129, e129, h⟩ := qv_bind h
              obtain ⟨g132, h⟩ := qv_guard h
              obtain ⟨v132, e132, h⟩ := qv_bind h
              by_cases c135 : v132 = 0
              · replace h := qv_pos c135 h
                exact tlb_X5_holdsOf_158 (20 + v5) H h
              · replace h := qv_neg c135 h
                obtain ⟨v139, e139, h⟩ := qv_bind h
                obtain ⟨v145, e145, h⟩ := qv_bind h
                obtain ⟨v149, e149, h⟩ := qv_bind h
                obtain ⟨g150, h⟩ := qv_guard h
                obtain ⟨v150, H150, e150, h⟩ := qv_bind2 h
                have q_H150 := tl_X3_worth e150
                have q_end := tlb_X5_holdsOf_158 v150 H150 h
                omega
            · replace h := qv_neg c50_5 h
              exact tlb_X5_holdsOf_167 (20 + v5) H h
theorem th_X5_holdsOf {st : xT} {d : Nat} (hd : 3 ≤ d) {a0 : Nat} {a1 : Int32} {H : qx_H} {r : Int32} {H' : qx_H} (h : fm_X5_holdsOf a0 a1 H = some (r, H')) : xE st d 39 [.ref a0, .int a1] H (some (.int r)) H' := by
  obtain ⟨d, rfl⟩ : ∃ d', d = d' + 1 := ⟨d - 1, by omega⟩
  exact xE_of (xe39 st) xl39 (Nat.le_of_ble_eq_true rfl) (ls := [some (.ref a0), some (.int a1), none, none, none, none, none, none]) rfl (tb_X5_holdsOf_0 (by omega) ⟨rfl, rfl⟩ a0 a1 H h)
theorem tl_X5_holdsOf {a0 : Nat} {a1 : Int32} {H : qx_H} {r : Int32} {H' : qx_H} (h : fm_X5_holdsOf a0 a1 H = some (r, H')) : H'.length = H.length := tlb_X5_holdsOf_0 a0 a1 H h
def fm_X5_wearsOf (a0 : Nat) (a1 : Int32) (H : qx_H) : Option (Int32 × qx_H) := (hp_gR H a0 3 8).bind fun v1 => if hp_is H v1 1 = true then ((fm_X3_isThere v1 H).bind fun v4 => if v4 = 0 then (some (1, H)) else ((hp_gR H a0 3 8).bind fun v13 => (hp_gR H a0 3 4).bind fun v18 => (hp_ald H v18 a1).bind fun v22 => (hp_gI H a0 3 10).bind fun v24 => (hp_gR H a0 3 5).bind fun v28 => (hp_ald H v28 a1).bind fun v32 => if hp_is H v13 1 = true then (ob2 (fm_X3_worth v13 a1 v22 (v24 - v32) H) fun v34 H34 => some ((fm_X10_heldWithin v34 0 20), H34)) else none)) else none
theorem tb_X5_wearsOf_0 {st : xT} {d : Nat} {R : Option Value → qx_H → Prop} (hd : 2 ≤ d) {r : Int32} {H' : qx_H} (hR : R (some (.int r)) H') (a0 : Nat) (a1 : Int32) (H : qx_H) (h : fm_X5_wearsOf a0 a1 H = some (r, H')) : qx_V (xE st d) R (xc40 st) (0, [some (.ref a0), some (.int a1)], [], H) := by
  unfold fm_X5_wearsOf at h
  refine qv_run 1 (σ := (1, [some (.ref a0), some (.int a1)], [.ref a0], H)) rfl ?_
  obtain ⟨v1, e1, h⟩ := qv_bind h
  refine qv_getR rfl e1 ?_
  obtain ⟨g4, h⟩ := qv_guard h
  obtain ⟨v4, e4, h⟩ := qv_bind h
  refine qv_callV [] rfl rfl rfl (Nat.le_of_ble_eq_true rfl) g4 (th_X3_isThere (by omega) e4) rfl ?_
  refine qv_br (c := v4 = 0) (a := (10, [some (.ref a0), some (.int a1)], [], H)) (b := (12, [some (.ref a0), some (.int a1)], [], H)) 1 rfl (fun c7 => ?_) (fun c7 => ?_)
  · replace h := qv_pos c7 h
    refine qv_run 1 (σ := (11, [some (.ref a0), some (.int a1)], [.int 1], H)) rfl ?_
    obtain ⟨rfl, rfl⟩ := qv_pair h
    exact qv_reti rfl hR
  · replace h := qv_neg c7 h
    refine qv_run 1 (σ := (13, [some (.ref a0), some (.int a1)], [.ref a0], H)) rfl ?_
    obtain ⟨v13, e13, h⟩ := qv_bind h
    refine qv_getR rfl e13 ?_
    refine qv_run 2 (σ := (18, [some (.ref a0), some (.int a1)], [.ref a0, .int a1, .ref v13], H)) rfl ?_
    obtain ⟨v18, e18, h⟩ := qv_bind h
    refine qv_getR rfl e18 ?_
    refine qv_run 1 (σ := (22, [some (.ref a0), some (.int a1)], [.int a1, .ref v18, .int a1, .ref v13], H)) rfl ?_
    obtain ⟨v22, e22, h⟩ := qv_bind h
    refine qv_ald rfl e22 ?_
    refine qv_run 1 (σ := (24, [some (.ref a0), some (.int a1)], [.ref a0, .int v22, .int a1, .ref v13], H)) rfl ?_
    obtain ⟨v24, e24, h⟩ := qv_bind h
    refine qv_getI rfl e24 ?_
    refine qv_run 1 (σ := (28, [some (.ref a0), some (.int a1)], [.ref a0, .int v24, .int v22, .int a1, .ref v13], H)) rfl ?_
    obtain ⟨v28, e28, h⟩ := qv_bind h
    refine qv_getR rfl e28 ?_
    refine qv_run 1 (σ := (32, [some (.ref a0), some (.int a1)], [.int a1, .ref v28, .int v24, .int v22, .int a1, .ref v13], H)) rfl ?_
    obtain ⟨v32, e32, h⟩ := qv_bind h
    refine qv_ald rfl e32 ?_
    refine qv_run 1 (σ := (34, [some (.ref a0), some (.int a1)], [.int (v24 - v32), .int v22, .int a1, .ref v13], H)) rfl ?_
    obtain ⟨g34, h⟩ := qv_guard h
    obtain ⟨v34, H34, e34, h⟩ := qv_bind2 h
    refine qv_callV [.int a1, .int v22, .int (v24 - v32)] rfl rfl rfl (Nat.le_of_ble_eq_true rfl) g34 (th_X3_worth (by omega) e34) (tl_X3_worth e34) ?_
    refine qv_run 2 (σ := (40, [some (.ref a0), some (.int a1)], [.int 20, .int 0, .int v34], H34)) rfl ?_
    refine qv_call [.int v34, .int 0, .int 20] rfl rfl rfl (Nat.le_of_ble_eq_true rfl) (th_X10_heldWithin (by omega) rfl) rfl ?_
    obtain ⟨rfl, rfl⟩ := qv_pair h
    exact qv_reti rfl hR
theorem tlb_X5_wearsOf_0 {r : Int32} {H' : qx_H} (a0 : Nat) (a1 : Int32) (H : qx_H) (h : fm_X5_wearsOf a0 a1 H = some (r, H')) : H'.length = H.length := by
  unfold fm_X5_wearsOf at h
  obtain ⟨v1, e1, h⟩ := qv_bind h
  obtain ⟨g4, h⟩ := qv_guard h
  obtain ⟨v4, e4, h⟩ := qv_bind h
  by_cases c7 : v4 = 0
  · replace h := qv_pos c7 h
    obtain ⟨rfl, rfl⟩ := qv_pair h
    rfl
  · replace h := qv_neg c7 h
    obtain ⟨v13, e13, h⟩ := qv_bind h
    obtain ⟨v18, e18, h⟩ := qv_bind h
    obtain ⟨v22, e22, h⟩ := qv_bind h
    obtain ⟨v24, e24, h⟩ := qv_bind h
    obtain ⟨v28, e28, h⟩ := qv_bind h
    obtain ⟨v32, e32, h⟩ := qv_bind h
    obtain ⟨g34, h⟩ := qv_guard h
    obtain ⟨v34, H34, e34, h⟩ := qv_bind2 h
    have q_H34 := tl_X3_worth e34
    obtain ⟨rfl, rfl⟩ := qv_pair h
    omega
theorem th_X5_wearsOf {st : xT} {d : Nat} (hd : 3 ≤ d) {a0 : Nat} {a1 : Int32} {H : qx_H} {r : Int32} {H' : qx_H} (h : fm_X5_wearsOf a0 a1 H = some (r, H')) : xE st d 40 [.ref a0, .int a1] H (some (.int r)) H' := by
  obtain ⟨d, rfl⟩ : ∃ d', d = d' + 1 := ⟨d - 1, by omega⟩
  exact xE_of (xe40 st) xl40 (Nat.le_of_ble_eq_true rfl) (ls := [some (.ref a0), some (.int a1)]) rfl (tb_X5_wearsOf_0 (by omega) ⟨rfl, rfl⟩ a0 a1 H h)
theorem tl_X5_wearsOf {a0 : Nat} {a1 : Int32} {H : qx_H} {r : Int32} {H' : qx_H} (h : fm_X5_wearsOf a0 a1 H = some (r, H')) : H'.length = H.length := tlb_X5_wearsOf_0 a0 a1 H h
def fm_X5_strengthOf (a0 : Nat) (a1 : Int32) (H : qx_H) : Option (Int32 × qx_H) := if hp_is H a0 3 = true then (ob2 (fm_X5_holdsOf a0 (fm_X0_lesserKnot a1) H) fun v5 H5 => if hp_is H5 a0 3 = true then (ob2 (fm_X5_holdsOf a0 (fm_X0_greaterKnot a1) H5) fun v13 H13 => (hp_gR H13 a0 3 4).bind fun v18 => (hp_ald H13 v18 a1).bind fun v22 => some ((v5 + v13) - v22, H13)) else none) else none
theorem tb_X5_strengthOf_0 {st : xT} {d : Nat} {R : Option Value → qx_H → Prop} (hd : 3 ≤ d) {r : Int32} {H' : qx_H} (hR : R (some (.int r)) H') (a0 : Nat) (a1 : Int32) (H : qx_H) (h : fm_X5_strengthOf a0 a1 H = some (r, H')) : qx_V (xE st d) R (xc41 st) (0, [some (.ref a0), some (.int a1)], [], H) := by
  unfold fm_X5_strengthOf at h
  refine qv_run 2 (σ := (2, [some (.ref a0), some (.int a1)], [.int a1, .ref a0], H)) rfl ?_
  refine qv_call [.int a1] rfl rfl rfl (Nat.le_of_ble_eq_true rfl) (th_X0_lesserKnot (by omega) rfl) rfl ?_
  obtain ⟨g5, h⟩ := qv_guard h
  obtain ⟨v5, H5, e5, h⟩ := qv_bind2 h
  refine qv_callV [.int (fm_X0_lesserKnot a1)] rfl rfl rfl (Nat.le_of_ble_eq_true rfl) g5 (th_X5_holdsOf (by omega) e5) (tl_X5_holdsOf e5) ?_
  refine qv_run 2 (σ := (10, [some (.ref a0), some (.int a1)], [.int a1, .ref a0, .int v5], H5)) rfl ?_
  refine qv_call [.int a1] rfl rfl rfl (Nat.le_of_ble_eq_true rfl) (th_X0_greaterKnot (by omega) rfl) rfl ?_
  obtain ⟨g13, h⟩ := qv_guard h
  obtain ⟨v13, H13, e13, h⟩ := qv_bind2 h
  refine qv_callV [.int (fm_X0_greaterKnot a1)] rfl rfl rfl (Nat.le_of_ble_eq_true rfl) g13 (th_X5_holdsOf (by omega) e13) (tl_X5_holdsOf e13) ?_
  refine qv_run 2 (σ := (18, [some (.ref a0), some (.int a1)], [.ref a0, .int (v5 + v13)], H13)) rfl ?_
  obtain ⟨v18, e18, h⟩ := qv_bind h
  refine qv_getR rfl e18 ?_
  refine qv_run 1 (σ := (22, [some (.ref a0), some (.int a1)], [.int a1, .ref v18, .int (v5 + v13)], H13)) rfl ?_
  obtain ⟨v22, e22, h⟩ := qv_bind h
  refine qv_ald rfl e22 ?_
  refine qv_run 1 (σ := (24, [some (.ref a0), some (.int a1)], [.int ((v5 + v13) - v22)], H13)) rfl ?_
  obtain ⟨rfl, rfl⟩ := qv_pair h
  exact qv_reti rfl hR
theorem tlb_X5_strengthOf_0 {r : Int32} {H' : qx_H} (a0 : Nat) (a1 : Int32) (H : qx_H) (h : fm_X5_strengthOf a0 a1 H = some (r, H')) : H'.length = H.length := by
  unfold fm_X5_strengthOf at h
  obtain ⟨g5, h⟩ := qv_guard h
  obtain ⟨v5, H5, e5, h⟩ := qv_bind2 h
  have q_H5 := tl_X5_holdsOf e5
  obtain ⟨g13, h⟩ := qv_guard h
  obtain ⟨v13, H13, e13, h⟩ := qv_bind2 h
  have q_H13 := tl_X5_holdsOf e13
  obtain ⟨v18, e18, h⟩ := qv_bind h
  obtain ⟨v22, e22, h⟩ := qv_bind h
  obtain ⟨rfl, rfl⟩ := qv_pair h
  omega
theorem th_X5_strengthOf {st : xT} {d : Nat} (hd : 4 ≤ d) {a0 : Nat} {a1 : Int32} {H : qx_H} {r : Int32} {H' : qx_H} (h : fm_X5_strengthOf a0 a1 H = some (r, H')) : xE st d 41 [.ref a0, .int a1] H (some (.int r)) H' := by
  obtain ⟨d, rfl⟩ : ∃ d', d = d' + 1 := ⟨d - 1, by omega⟩
  exact xE_of (xe41 st) xl41 (Nat.le_of_ble_eq_true rfl) (ls := [some (.ref a0), some (.int a1)]) rfl (tb_X5_strengthOf_0 (by omega) ⟨rfl, rfl⟩ a0 a1 H h)
theorem tl_X5_strengthOf {a0 : Nat} {a1 : Int32} {H : qx_H} {r : Int32} {H' : qx_H} (h : fm_X5_strengthOf a0 a1 H = some (r, H')) : H'.length = H.length := tlb_X5_strengthOf_0 a0 a1 H h
def fm_X5_isMissing (a0 : Nat) (a1 : Int32) (H : qx_H) : Option Int32 := (hp_gI H a0 3 9).bind fun v1 => if ((ji_ushr v1 a1) &&& 1) = 0 then (some 0) else (some 1)
theorem tb_X5_isMissing_0 {st : xT} {d : Nat} {R : Option Value → qx_H → Prop} (hd : 0 ≤ d) {r : Int32} {H : qx_H} (hR : R (some (.int r)) H) (a0 : Nat) (a1 : Int32) (h : fm_X5_isMissing a0 a1 H = some r) : qx_V (xE st d) R (xc43 st) (0, [some (.ref a0), some (.int a1)], [], H) := by
  unfold fm_X5_isMissing at h
  refine qv_run 1 (σ := (1, [some (.ref a0), some (.int a1)], [.ref a0], H)) rfl ?_
  obtain ⟨v1, e1, h⟩ := qv_bind h
  refine qv_getI rfl e1 ?_
  refine qv_br (c := ((ji_ushr v1 a1) &&& 1) = 0) (a := (15, [some (.ref a0), some (.int a1)], [], H)) (b := (11, [some (.ref a0), some (.int a1)], [], H)) 5 rfl (fun c8 => ?_) (fun c8 => ?_)
  · replace h := qv_pos c8 h
    refine qv_run 1 (σ := (16, [some (.ref a0), some (.int a1)], [.int 0], H)) rfl ?_
    cases h
    exact qv_retz rfl (Or.inl rfl) hR
  · replace h := qv_neg c8 h
    refine qv_run 2 (σ := (16, [some (.ref a0), some (.int a1)], [.int 1], H)) rfl ?_
    cases h
    exact qv_retz rfl (Or.inr rfl) hR
theorem tzb_X5_isMissing_0 {r : Int32} {H : qx_H} (a0 : Nat) (a1 : Int32) (h : fm_X5_isMissing a0 a1 H = some r) : r = 0 ∨ r = 1 := by
  unfold fm_X5_isMissing at h
  obtain ⟨v1, e1, h⟩ := qv_bind h
  by_cases c8 : ((ji_ushr v1 a1) &&& 1) = 0
  · replace h := qv_pos c8 h
    cases h
    exact Or.inl rfl
  · replace h := qv_neg c8 h
    cases h
    exact Or.inr rfl
theorem th_X5_isMissing {st : xT} {d : Nat} (hd : 1 ≤ d) {a0 : Nat} {a1 : Int32} {r : Int32} {H : qx_H} (h : fm_X5_isMissing a0 a1 H = some r) : xE st d 43 [.ref a0, .int a1] H (some (.int r)) H := by
  obtain ⟨d, rfl⟩ : ∃ d', d = d' + 1 := ⟨d - 1, by omega⟩
  exact xE_of (xe43 st) xl43 (Nat.le_of_ble_eq_true rfl) (ls := [some (.ref a0), some (.int a1)]) rfl (tb_X5_isMissing_0 (by omega) ⟨rfl, rfl⟩ a0 a1 h)
theorem tz_X5_isMissing {a0 : Nat} {a1 : Int32} {r : Int32} {H : qx_H} (h : fm_X5_isMissing a0 a1 H = some r) : r = 0 ∨ r = 1 := tzb_X5_isMissing_0 a0 a1 h
def fm_X5_threadFact (a0 : Nat) (a1 : Int32) (a2 : Int32) (H : qx_H) : Option (Int32 × qx_H) := if a2 = 0 then (if hp_is H a0 3 = true then ((fm_X5_isMissing a0 a1 H).bind fun v38 => if v38 = 0 then (some (1, H)) else (some (0, H))) else none) else if a2 = 1 then ((hp_gR H a0 3 4).bind fun v51 => (hp_ald H v51 a1).bind fun v55 => some (v55, H)) else if a2 = 2 then ((hp_gR H a0 3 5).bind fun v58 => (hp_ald H v58 a1).bind fun v62 => some (v62, H)) else if a2 = 3 then (if hp_is H a0 3 = true then (ob2 (fm_X5_strengthOf a0 a1 H) fun v66 H66 => some (v66, H66)) else none) else if a2 = 4 then (some ((fm_X0_lesserKnot a1), H)) else (some ((fm_X0_greaterKnot a1), H))
theorem tb_X5_threadFact_0 {st : xT} {d : Nat} {R : Option Value → qx_H → Prop} (hd : 4 ≤ d) {r : Int32} {H' : qx_H} (hR : R (some (.int r)) H') (a0 : Nat) (a1 : Int32) (a2 : Int32) (H : qx_H) (h : fm_X5_threadFact a0 a1 a2 H = some (r, H')) : qx_V (xE st d) R (xc42 st) (0, [some (.ref a0), some (.int a1), some (.int a2)], [], H) := by
  unfold fm_X5_threadFact at h
  refine qv_run 2 (σ := (qx_swt a2 75 [(0, 36), (1, 50), (2, 57), (3, 64), (4, 70)], [some (.ref a0), some (.int a1), some (.int a2)], [], H)) rfl ?_
  refine qv_swt (fun c1_0 => ?_) (fun c1_0 => ?_)
  · replace h := qv_pos c1_0 h
    refine qv_run 2 (σ := (38, [some (.ref a0), some (.int a1), some (.int a2)], [.int a1, .ref a0], H)) rfl ?_
    obtain ⟨g38, h⟩ := qv_guard h
    obtain ⟨v38, e38, h⟩ := qv_bind h
    refine qv_callV [.int a1] rfl rfl rfl (Nat.le_of_ble_eq_true rfl) g38 (th_X5_isMissing (by omega) e38) rfl ?_
    refine qv_br (c := v38 = 0) (a := (48, [some (.ref a0), some (.int a1), some (.int a2)], [], H)) (b := (44, [some (.ref a0), some (.int a1), some (.int a2)], [], H)) 1 rfl (fun c41 => ?_) (fun c41 => ?_)
    · replace h := qv_pos c41 h
      refine qv_run 1 (σ := (49, [some (.ref a0), some (.int a1), some (.int a2)], [.int 1], H)) rfl ?_
      obtain ⟨rfl, rfl⟩ := qv_pair h
      exact qv_reti rfl hR
    · replace h := qv_neg c41 h
      refine qv_run 2 (σ := (49, [some (.ref a0), some (.int a1), some (.int a2)], [.int 0], H)) rfl ?_
      obtain ⟨rfl, rfl⟩ := qv_pair h
      exact qv_reti rfl hR
  · replace h := qv_neg c1_0 h
    refine qv_swt (fun c1_1 => ?_) (fun c1_1 => ?_)
    · replace h := qv_pos c1_1 h
      refine qv_run 1 (σ := (51, [some (.ref a0), some (.int a1), some (.int a2)], [.ref a0], H)) rfl ?_
      obtain ⟨v51, e51, h⟩ := qv_bind h
      refine qv_getR rfl e51 ?_
      refine qv_run 1 (σ := (55, [some (.ref a0), some (.int a1), some (.int a2)], [.int a1, .ref v51], H)) rfl ?_
      obtain ⟨v55, e55, h⟩ := qv_bind h
      refine qv_ald rfl e55 ?_
      obtain ⟨rfl, rfl⟩ := qv_pair h
      exact qv_reti rfl hR
    · replace h := qv_neg c1_1 h
      refine qv_swt (fun c1_2 => ?_) (fun c1_2 => ?_)
      · replace h := qv_pos c1_2 h
        refine qv_run 1 (σ := (58, [some (.ref a0), some (.int a1), some (.int a2)], [.ref a0], H)) rfl ?_
        obtain ⟨v58, e58, h⟩ := qv_bind h
        refine qv_getR rfl e58 ?_
        refine qv_run 1 (σ := (62, [some (.ref a0), some (.int a1), some (.int a2)], [.int a1, .ref v58], H)) rfl ?_
        obtain ⟨v62, e62, h⟩ := qv_bind h
        refine qv_ald rfl e62 ?_
        obtain ⟨rfl, rfl⟩ := qv_pair h
        exact qv_reti rfl hR
      · replace h := qv_neg c1_2 h
        refine qv_swt (fun c1_3 => ?_) (fun c1_3 => ?_)
        · replace h := qv_pos c1_3 h
          refine qv_run 2 (σ := (66, [some (.ref a0), some (.int a1), some (.int a2)], [.int a1, .ref a0], H)) rfl ?_
          obtain ⟨g66, h⟩ := qv_guard h
          obtain ⟨v66, H66, e66, h⟩ := qv_bind2 h
          refine qv_callV [.int a1] rfl rfl rfl (Nat.le_of_ble_eq_true rfl) g66 (th_X5_strengthOf (by omega) e66) (tl_X5_strengthOf e66) ?_
          obtain ⟨rfl, rfl⟩ := qv_pair h
          exact qv_reti rfl hR
        · replace h := qv_neg c1_3 h
          refine qv_swt (fun c1_4 => ?_) (fun c1_4 => ?_)
          · replace h := qv_pos c1_4 h
            refine qv_run 1 (σ := (71, [some (.ref a0), some (.int a1), some (.int a2)], [.int a1], H)) rfl ?_
            refine qv_call [.int a1] rfl rfl rfl (Nat.le_of_ble_eq_true rfl) (th_X0_lesserKnot (by omega) rfl) rfl ?_
            obtain ⟨rfl, rfl⟩ := qv_pair h
            exact qv_reti rfl hR
          · replace h := qv_neg c1_4 h
            refine qv_sw0 ?_
            refine qv_run 1 (σ := (76, [some (.ref a0), some (.int a1), some (.int a2)], [.int a1], H)) rfl ?_
            refine qv_call [.int a1] rfl rfl rfl (Nat.le_of_ble_eq_true rfl) (th_X0_greaterKnot (by omega) rfl) rfl ?_
            obtain ⟨rfl, rfl⟩ := qv_pair h
            exact qv_reti rfl hR
theorem tlb_X5_threadFact_0 {r : Int32} {H' : qx_H} (a0 : Nat) (a1 : Int32) (a2 : Int32) (H : qx_H) (h : fm_X5_threadFact a0 a1 a2 H = some (r, H')) : H'.length = H.length := by
  unfold fm_X5_threadFact at h
  by_cases c1_0 : a2 = 0
  · replace h := qv_pos c1_0 h
    obtain ⟨g38, h⟩ := qv_guard h
    obtain ⟨v38, e38, h⟩ := qv_bind h
    by_cases c41 : v38 = 0
    · replace h := qv_pos c41 h
      obtain ⟨rfl, rfl⟩ := qv_pair h
      rfl
    · replace h := qv_neg c41 h
      obtain ⟨rfl, rfl⟩ := qv_pair h
      rfl
  · replace h := qv_neg c1_0 h
    by_cases c1_1 : a2 = 1
    · replace h := qv_pos c1_1 h
      obtain ⟨v51, e51, h⟩ := qv_bind h
      obtain ⟨v55, e55, h⟩ := qv_bind h
      obtain ⟨rfl, rfl⟩ := qv_pair h
      rfl
    · replace h := qv_neg c1_1 h
      by_cases c1_2 : a2 = 2
      · replace h := qv_pos c1_2 h
        obtain ⟨v58, e58, h⟩ := qv_bind h
        obtain ⟨v62, e62, h⟩ := qv_bind h
        obtain ⟨rfl, rfl⟩ := qv_pair h
        rfl
      · replace h := qv_neg c1_2 h
        by_cases c1_3 : a2 = 3
        · replace h := qv_pos c1_3 h
          obtain ⟨g66, h⟩ := qv_guard h
          obtain ⟨v66, H66, e66, h⟩ := qv_bind2 h
          have q_H66 := tl_X5_strengthOf e66
          obtain ⟨rfl, rfl⟩ := qv_pair h
          omega
        · replace h := qv_neg c1_3 h
          by_cases c1_4 : a2 = 4
          · replace h := qv_pos c1_4 h
            obtain ⟨rfl, rfl⟩ := qv_pair h
            rfl
          · replace h := qv_neg c1_4 h
            obtain ⟨rfl, rfl⟩ := qv_pair h
            rfl
theorem th_X5_threadFact {st : xT} {d : Nat} (hd : 5 ≤ d) {a0 : Nat} {a1 : Int32} {a2 : Int32} {H : qx_H} {r : Int32} {H' : qx_H} (h : fm_X5_threadFact a0 a1 a2 H = some (r, H')) : xE st d 42 [.ref a0, .int a1, .int a2] H (some (.int r)) H' := by
  obtain ⟨d, rfl⟩ : ∃ d', d = d' + 1 := ⟨d - 1, by omega⟩
  exact xE_of (xe42 st) xl42 (Nat.le_of_ble_eq_true rfl) (ls := [some (.ref a0), some (.int a1), some (.int a2)]) rfl (tb_X5_threadFact_0 (by omega) ⟨rfl, rfl⟩ a0 a1 a2 H h)
theorem tl_X5_threadFact {a0 : Nat} {a1 : Int32} {a2 : Int32} {H : qx_H} {r : Int32} {H' : qx_H} (h : fm_X5_threadFact a0 a1 a2 H = some (r, H')) : H'.length = H.length := tlb_X5_threadFact_0 a0 a1 a2 H h
def fm_X5_missingThreads (a0 : Nat) (H : qx_H) : Option Int32 := (hp_gI H a0 3 9).bind fun v1 => some (fm_J6_bitCount_0f7a4 v1)
theorem tb_X5_missingThreads_0 {st : xT} {d : Nat} {R : Option Value → qx_H → Prop} (hd : 1 ≤ d) {r : Int32} {H : qx_H} (hR : R (some (.int r)) H) (a0 : Nat) (h : fm_X5_missingThreads a0 H = some r) : qx_V (xE st d) R (xc44 st) (0, [some (.ref a0)], [], H) := by
  unfold fm_X5_missingThreads at h
  refine qv_run 1 (σ := (1, [some (.ref a0)], [.ref a0], H)) rfl ?_
  obtain ⟨v1, e1, h⟩ := qv_bind h
  refine qv_getI rfl e1 ?_
  refine qv_call [.int v1] rfl rfl rfl (Nat.le_of_ble_eq_true rfl) (th_J6_bitCount_0f7a4 (by omega) rfl) rfl ?_
  cases h
  exact qv_reti rfl hR
theorem th_X5_missingThreads {st : xT} {d : Nat} (hd : 2 ≤ d) {a0 : Nat} {r : Int32} {H : qx_H} (h : fm_X5_missingThreads a0 H = some r) : xE st d 44 [.ref a0] H (some (.int r)) H := by
  obtain ⟨d, rfl⟩ : ∃ d', d = d' + 1 := ⟨d - 1, by omega⟩
  exact xE_of (xe44 st) xl44 (Nat.le_of_ble_eq_true rfl) (ls := [some (.ref a0)]) rfl (tb_X5_missingThreads_0 (by omega) ⟨rfl, rfl⟩ a0 h)
def fm_X5_firstThreads_b30 (k4 : Nat → Int32 → Int32 → qx_H → Option Int32) (l0 : Nat) (l1 : Int32) (l2 : Int32) (H : qx_H) : Option Int32 := k4 l0 l1 (l2 + 1) H
def fm_X5_firstThreads_b4 : Nat → Nat → Int32 → Int32 → qx_H → Option Int32
  | 0, _, _, _, _ => none
  | n + 1, l0, l1, l2, H => if 31 ≤ l2 then (some l1) else (if hp_is H l0 3 = true then ((fm_X5_isMissing l0 l2 H).bind fun v12 => if v12 = 0 then ((hp_gR H l0 3 5).bind fun v19 => (hp_ald H v19 l2).bind fun v23 => fm_X5_firstThreads_b30 (fm_X5_firstThreads_b4 n) l0 (if v23 = 0 then l1 + 1 else l1) l2 H) else (fm_X5_firstThreads_b30 (fm_X5_firstThreads_b4 n) l0 l1 l2 H)) else none)
def fm_X5_firstThreads (a0 : Nat) (H : qx_H) : Option Int32 := fm_X5_firstThreads_b4 5000 a0 0 0 H
theorem tb_X5_firstThreads_30 {st : xT} {d : Nat} {R : Option Value → qx_H → Prop} (hd : 1 ≤ d) {r : Int32} {H : qx_H} (k4 : Nat → Int32 → Int32 → qx_H → Option Int32) (hk4 : ∀ (l0 : Nat) (l1 : Int32) (l2 : Int32), k4 l0 l1 l2 H = some r → qx_V (xE st d) R (xc45 st) (4, [some (.ref l0), some (.int l1), some (.int l2)], [], H)) (hR : R (some (.int r)) H) (l0 : Nat) (l1 : Int32) (l2 : Int32) (h : fm_X5_firstThreads_b30 k4 l0 l1 l2 H = some r) : qx_V (xE st d) R (xc45 st) (30, [some (.ref l0), some (.int l1), some (.int l2)], [], H) := by
  unfold fm_X5_firstThreads_b30 at h
  refine qv_run 2 (σ := (4, [some (.ref l0), some (.int l1), some (.int (l2 + 1))], [], H)) rfl ?_
  exact hk4 l0 l1 (l2 + 1) h
theorem tb_X5_firstThreads_4 {st : xT} {d : Nat} {R : Option Value → qx_H → Prop} (hd : 1 ≤ d) {r : Int32} {H : qx_H} (hR : R (some (.int r)) H) : ∀ (n : Nat) (l0 : Nat) (l1 : Int32) (l2 : Int32) (h : fm_X5_firstThreads_b4 n l0 l1 l2 H = some r), qx_V (xE st d) R (xc45 st) (4, [some (.ref l0), some (.int l1), some (.int l2)], [], H) := by
  intro n
  induction n with
  | zero => intro l0 l1 l2 h; exact nomatch (show (none : Option Int32) = some r from h)
  | succ n ih =>
    intro l0 l1 l2 h
    unfold fm_X5_firstThreads_b4 at h
    refine qv_br (c := 31 ≤ l2) (a := (36, [some (.ref l0), some (.int l1), some (.int l2)], [], H)) (b := (10, [some (.ref l0), some (.int l1), some (.int l2)], [], H)) 3 rfl (fun c7 => ?_) (fun c7 => ?_)
    · replace h := qv_pos c7 h
      refine qv_run 1 (σ := (37, [some (.ref l0), some (.int l1), some (.int l2)], [.int l1], H)) rfl ?_
      cases h
      exact qv_reti rfl hR
    · replace h := qv_neg c7 h
      refine qv_run 2 (σ := (12, [some (.ref l0), some (.int l1), some (.int l2)], [.int l2, .ref l0], H)) rfl ?_
      obtain ⟨g12, h⟩ := qv_guard h
      obtain ⟨v12, e12, h⟩ := qv_bind h
      refine qv_callV [.int l2] rfl rfl rfl (Nat.le_of_ble_eq_true rfl) g12 (th_X5_isMissing (by omega) e12) rfl ?_
      refine qv_br (c := v12 = 0) (a := (18, [some (.ref l0), some (.int l1), some (.int l2)], [], H)) (b := (30, [some (.ref l0), some (.int l1), some (.int l2)], [], H)) 1 rfl (fun c15 => ?_) (fun c15 => ?_)
      · replace h := qv_pos c15 h
        refine qv_run 1 (σ := (19, [some (.ref l0), some (.int l1), some (.int l2)], [.ref l0], H)) rfl ?_
        obtain ⟨v19, e19, h⟩ := qv_bind h
        refine qv_getR rfl e19 ?_
        refine qv_run 1 (σ := (23, [some (.ref l0), some (.int l1), some (.int l2)], [.int l2, .ref v19], H)) rfl ?_
        obtain ⟨v23, e23, h⟩ := qv_bind h
        refine qv_ald rfl e23 ?_
        refine qv_dia (c := v23 = 0) (a := (27, [some (.ref l0), some (.int l1), some (.int l2)], [], H)) (b := (30, [some (.ref l0), some (.int l1), some (.int l2)], [], H)) (σ' := (30, [some (.ref l0), some (.int (if v23 = 0 then l1 + 1 else l1)), some (.int l2)], [], H)) 1 rfl ?_ (fun c24 kk => qv_run 1 (σ := (30, [some (.ref l0), some (.int (l1 + 1)), some (.int l2)], [], H)) rfl (qv_eq (by simp only [if_pos c24]) kk)) (fun c24 kk => qv_run 0 (σ := (30, [some (.ref l0), some (.int l1), some (.int l2)], [], H)) rfl (qv_eq (by simp only [if_neg c24]) kk))
        exact tb_X5_firstThreads_30 hd _ ih hR l0 (if v23 = 0 then l1 + 1 else l1) l2 h
      · replace h := qv_neg c15 h
        exact tb_X5_firstThreads_30 hd _ ih hR l0 l1 l2 h
theorem tb_X5_firstThreads_0 {st : xT} {d : Nat} {R : Option Value → qx_H → Prop} (hd : 1 ≤ d) {r : Int32} {H : qx_H} (hR : R (some (.int r)) H) (a0 : Nat) (h : fm_X5_firstThreads a0 H = some r) : qx_V (xE st d) R (xc45 st) (0, [some (.ref a0), none, none], [], H) := by
  unfold fm_X5_firstThreads at h
  refine qv_run 4 (σ := (4, [some (.ref a0), some (.int 0), some (.int 0)], [], H)) rfl ?_
  exact tb_X5_firstThreads_4 hd hR 5000 a0 0 0 h
theorem th_X5_firstThreads {st : xT} {d : Nat} (hd : 2 ≤ d) {a0 : Nat} {r : Int32} {H : qx_H} (h : fm_X5_firstThreads a0 H = some r) : xE st d 45 [.ref a0] H (some (.int r)) H := by
  obtain ⟨d, rfl⟩ : ∃ d', d = d' + 1 := ⟨d - 1, by omega⟩
  exact xE_of (xe45 st) xl45 (Nat.le_of_ble_eq_true rfl) (ls := [some (.ref a0), none, none]) rfl (tb_X5_firstThreads_0 (by omega) ⟨rfl, rfl⟩ a0 h)
def fm_X5_wornInAll_b4 : Nat → Nat → Int32 → Int32 → qx_H → Option Int32
  | 0, _, _, _, _ => none
  | n + 1, l0, l1, l2, H => if 31 ≤ l2 then (some l1) else ((hp_gR H l0 3 4).bind fun v12 => (hp_ald H v12 l2).bind fun v16 => fm_X5_wornInAll_b4 n l0 (l1 + v16) (l2 + 1) H)
def fm_X5_wornInAll (a0 : Nat) (H : qx_H) : Option Int32 := fm_X5_wornInAll_b4 5000 a0 0 0 H
theorem tb_X5_wornInAll_4 {st : xT} {d : Nat} {R : Option Value → qx_H → Prop} (hd : 0 ≤ d) {r : Int32} {H : qx_H} (hR : R (some (.int r)) H) : ∀ (n : Nat) (l0 : Nat) (l1 : Int32) (l2 : Int32) (h : fm_X5_wornInAll_b4 n l0 l1 l2 H = some r), qx_V (xE st d) R (xc46 st) (4, [some (.ref l0), some (.int l1), some (.int l2)], [], H) := by
  intro n
  induction n with
  | zero => intro l0 l1 l2 h; exact nomatch (show (none : Option Int32) = some r from h)
  | succ n ih =>
    intro l0 l1 l2 h
    unfold fm_X5_wornInAll_b4 at h
    refine qv_br (c := 31 ≤ l2) (a := (25, [some (.ref l0), some (.int l1), some (.int l2)], [], H)) (b := (10, [some (.ref l0), some (.int l1), some (.int l2)], [], H)) 3 rfl (fun c7 => ?_) (fun c7 => ?_)
    · replace h := qv_pos c7 h
      refine qv_run 1 (σ := (26, [some (.ref l0), some (.int l1), some (.int l2)], [.int l1], H)) rfl ?_
      cases h
      exact qv_reti rfl hR
    · replace h := qv_neg c7 h
      refine qv_run 2 (σ := (12, [some (.ref l0), some (.int l1), some (.int l2)], [.ref l0, .int l1], H)) rfl ?_
      obtain ⟨v12, e12, h⟩ := qv_bind h
      refine qv_getR rfl e12 ?_
      refine qv_run 1 (σ := (16, [some (.ref l0), some (.int l1), some (.int l2)], [.int l2, .ref v12, .int l1], H)) rfl ?_
      obtain ⟨v16, e16, h⟩ := qv_bind h
      refine qv_ald rfl e16 ?_
      refine qv_run 4 (σ := (4, [some (.ref l0), some (.int (l1 + v16)), some (.int (l2 + 1))], [], H)) rfl ?_
      exact ih l0 (l1 + v16) (l2 + 1) h
theorem tb_X5_wornInAll_0 {st : xT} {d : Nat} {R : Option Value → qx_H → Prop} (hd : 0 ≤ d) {r : Int32} {H : qx_H} (hR : R (some (.int r)) H) (a0 : Nat) (h : fm_X5_wornInAll a0 H = some r) : qx_V (xE st d) R (xc46 st) (0, [some (.ref a0), none, none], [], H) := by
  unfold fm_X5_wornInAll at h
  refine qv_run 4 (σ := (4, [some (.ref a0), some (.int 0), some (.int 0)], [], H)) rfl ?_
  exact tb_X5_wornInAll_4 hd hR 5000 a0 0 0 h
theorem th_X5_wornInAll {st : xT} {d : Nat} (hd : 1 ≤ d) {a0 : Nat} {r : Int32} {H : qx_H} (h : fm_X5_wornInAll a0 H = some r) : xE st d 46 [.ref a0] H (some (.int r)) H := by
  obtain ⟨d, rfl⟩ : ∃ d', d = d' + 1 := ⟨d - 1, by omega⟩
  exact xE_of (xe46 st) xl46 (Nat.le_of_ble_eq_true rfl) (ls := [some (.ref a0), none, none]) rfl (tb_X5_wornInAll_0 (by omega) ⟨rfl, rfl⟩ a0 h)
def fm_X5_lose (a0 : Nat) (a1 : Int32) (H : qx_H) : Option qx_H := (hp_gI H a0 3 9).bind fun v2 => (hp_put H a0 3 9 (.int (v2 ||| (ji_shl 1 a1)))).bind fun H9 => (hp_gR H9 a0 3 4).bind fun v13 => (hp_ast H9 v13 a1 0).bind fun H18 => some H18
theorem tb_X5_lose_0 {st : xT} {d : Nat} {R : Option Value → qx_H → Prop} (hd : 0 ≤ d) {H' : qx_H} (hR : R (none) H') (a0 : Nat) (a1 : Int32) (H : qx_H) (h : fm_X5_lose a0 a1 H = some H') : qx_V (xE st d) R (xc47 st) (0, [some (.ref a0), some (.int a1)], [], H) := by
  unfold fm_X5_lose at h
  refine qv_run 2 (σ := (2, [some (.ref a0), some (.int a1)], [.ref a0, .ref a0], H)) rfl ?_
  obtain ⟨v2, e2, h⟩ := qv_bind h
  refine qv_getI rfl e2 ?_
  refine qv_run 4 (σ := (9, [some (.ref a0), some (.int a1)], [.int (v2 ||| (ji_shl 1 a1)), .ref a0], H)) rfl ?_
  obtain ⟨H9, e9, h⟩ := qv_bind h
  refine qv_putI rfl e9 ?_
  refine qv_run 1 (σ := (13, [some (.ref a0), some (.int a1)], [.ref a0], H9)) rfl ?_
  obtain ⟨v13, e13, h⟩ := qv_bind h
  refine qv_getR rfl e13 ?_
  refine qv_run 2 (σ := (18, [some (.ref a0), some (.int a1)], [.int 0, .int a1, .ref v13], H9)) rfl ?_
  obtain ⟨H18, e18, h⟩ := qv_bind h
  refine qv_ast rfl e18 ?_
  cases h
  exact qv_ret0 rfl hR
theorem tlb_X5_lose_0 {H' : qx_H} (a0 : Nat) (a1 : Int32) (H : qx_H) (h : fm_X5_lose a0 a1 H = some H') : H'.length = H.length := by
  unfold fm_X5_lose at h
  obtain ⟨v2, e2, h⟩ := qv_bind h
  obtain ⟨H9, e9, h⟩ := qv_bind h
  have q_H9 := hp_put_len e9
  obtain ⟨v13, e13, h⟩ := qv_bind h
  obtain ⟨H18, e18, h⟩ := qv_bind h
  have q_H18 := hp_ast_len e18
  cases h
  omega
theorem th_X5_lose {st : xT} {d : Nat} (hd : 1 ≤ d) {a0 : Nat} {a1 : Int32} {H : qx_H} {H' : qx_H} (h : fm_X5_lose a0 a1 H = some H') : xE st d 47 [.ref a0, .int a1] H (none) H' := by
  obtain ⟨d, rfl⟩ : ∃ d', d = d' + 1 := ⟨d - 1, by omega⟩
  exact xE_of (xe47 st) xl47 (Nat.le_of_ble_eq_true rfl) (ls := [some (.ref a0), some (.int a1)]) rfl (tb_X5_lose_0 (by omega) ⟨rfl, rfl⟩ a0 a1 H h)
theorem tl_X5_lose {a0 : Nat} {a1 : Int32} {H : qx_H} {H' : qx_H} (h : fm_X5_lose a0 a1 H = some H') : H'.length = H.length := tlb_X5_lose_0 a0 a1 H h
def fm_X5_renew (a0 : Nat) (a1 : Int32) (H : qx_H) : Option qx_H := (hp_gI H a0 3 9).bind fun v2 => (hp_put H a0 3 9 (.int (v2 &&& ((ji_shl 1 a1) ^^^ (-1))))).bind fun H11 => (hp_gR H11 a0 3 4).bind fun v15 => (hp_ast H11 v15 a1 0).bind fun H20 => (hp_gR H20 a0 3 5).bind fun v22 => (hp_gI H20 a0 3 10).bind fun v27 => (hp_ast H20 v22 a1 v27).bind fun H30 => some H30
theorem tb_X5_renew_0 {st : xT} {d : Nat} {R : Option Value → qx_H → Prop} (hd : 0 ≤ d) {H' : qx_H} (hR : R (none) H') (a0 : Nat) (a1 : Int32) (H : qx_H) (h : fm_X5_renew a0 a1 H = some H') : qx_V (xE st d) R (xc48 st) (0, [some (.ref a0), some (.int a1)], [], H) := by
  unfold fm_X5_renew at h
  refine qv_run 2 (σ := (2, [some (.ref a0), some (.int a1)], [.ref a0, .ref a0], H)) rfl ?_
  obtain ⟨v2, e2, h⟩ := qv_bind h
  refine qv_getI rfl e2 ?_
  refine qv_run 6 (σ := (11, [some (.ref a0), some (.int a1)], [.int (v2 &&& ((ji_shl 1 a1) ^^^ (-1))), .ref a0], H)) rfl ?_
  obtain ⟨H11, e11, h⟩ := qv_bind h
  refine qv_putI rfl e11 ?_
  refine qv_run 1 (σ := (15, [some (.ref a0), some (.int a1)], [.ref a0], H11)) rfl ?_
  obtain ⟨v15, e15, h⟩ := qv_bind h
  refine qv_getR rfl e15 ?_
  refine qv_run 2 (σ := (20, [some (.ref a0), some (.int a1)], [.int 0, .int a1, .ref v15], H11)) rfl ?_
  obtain ⟨H20, e20, h⟩ := qv_bind h
  refine qv_ast rfl e20 ?_
  refine qv_run 1 (σ := (22, [some (.ref a0), some (.int a1)], [.ref a0], H20)) rfl ?_
  obtain ⟨v22, e22, h⟩ := qv_bind h
  refine qv_getR rfl e22 ?_
  refine qv_run 2 (σ := (27, [some (.ref a0), some (.int a1)], [.ref a0, .int a1, .ref v22], H20)) rfl ?_
  obtain ⟨v27, e27, h⟩ := qv_bind h
  refine qv_getI rfl e27 ?_
  obtain ⟨H30, e30, h⟩ := qv_bind h
  refine qv_ast rfl e30 ?_
  cases h
  exact qv_ret0 rfl hR
theorem tlb_X5_renew_0 {H' : qx_H} (a0 : Nat) (a1 : Int32) (H : qx_H) (h : fm_X5_renew a0 a1 H = some H') : H'.length = H.length := by
  unfold fm_X5_renew at h
  obtain ⟨v2, e2, h⟩ := qv_bind h
  obtain ⟨H11, e11, h⟩ := qv_bind h
  have q_H11 := hp_put_len e11
  obtain ⟨v15, e15, h⟩ := qv_bind h
  obtain ⟨H20, e20, h⟩ := qv_bind h
  have q_H20 := hp_ast_len e20
  obtain ⟨v22, e22, h⟩ := qv_bind h
  obtain ⟨v27, e27, h⟩ := qv_bind h
  obtain ⟨H30, e30, h⟩ := qv_bind h
  have q_H30 := hp_ast_len e30
  cases h
  omega
theorem th_X5_renew {st : xT} {d : Nat} (hd : 1 ≤ d) {a0 : Nat} {a1 : Int32} {H : qx_H} {H' : qx_H} (h : fm_X5_renew a0 a1 H = some H') : xE st d 48 [.ref a0, .int a1] H (none) H' := by
  obtain ⟨d, rfl⟩ : ∃ d', d = d' + 1 := ⟨d - 1, by omega⟩
  exact xE_of (xe48 st) xl48 (Nat.le_of_ble_eq_true rfl) (ls := [some (.ref a0), some (.int a1)]) rfl (tb_X5_renew_0 (by omega) ⟨rfl, rfl⟩ a0 a1 H h)
theorem tl_X5_renew {a0 : Nat} {a1 : Int32} {H : qx_H} {H' : qx_H} (h : fm_X5_renew a0 a1 H = some H') : H'.length = H.length := tlb_X5_renew_0 a0 a1 H h
def fm_X5_renewAll_b21 (k2 : Nat → Int32 → qx_H → Option qx_H) (l0 : Nat) (l1 : Int32) (H : qx_H) : Option qx_H := k2 l0 (l1 + 1) H
def fm_X5_renewAll_b2 : Nat → Nat → Int32 → qx_H → Option qx_H
  | 0, _, _, _ => none
  | n + 1, l0, l1, H => if 31 ≤ l1 then (some H) else (if hp_is H l0 3 = true then ((fm_X5_isMissing l0 l1 H).bind fun v10 => if v10 = 0 then ((fm_X5_renew l0 l1 H).bind fun H18 => fm_X5_renewAll_b21 (fm_X5_renewAll_b2 n) l0 l1 H18) else (fm_X5_renewAll_b21 (fm_X5_renewAll_b2 n) l0 l1 H)) else none)
def fm_X5_renewAll (a0 : Nat) (H : qx_H) : Option qx_H := fm_X5_renewAll_b2 5000 a0 0 H
theorem tb_X5_renewAll_21 {st : xT} {d : Nat} {R : Option Value → qx_H → Prop} (hd : 1 ≤ d) {H' : qx_H} (k2 : Nat → Int32 → qx_H → Option qx_H) (hk2 : ∀ (l0 : Nat) (l1 : Int32) (H : qx_H), k2 l0 l1 H = some H' → qx_V (xE st d) R (xc49 st) (2, [some (.ref l0), some (.int l1)], [], H)) (hR : R (none) H') (l0 : Nat) (l1 : Int32) (H : qx_H) (h : fm_X5_renewAll_b21 k2 l0 l1 H = some H') : qx_V (xE st d) R (xc49 st) (21, [some (.ref l0), some (.int l1)], [], H) := by
  unfold fm_X5_renewAll_b21 at h
  refine qv_run 2 (σ := (2, [some (.ref l0), some (.int (l1 + 1))], [], H)) rfl ?_
  exact hk2 l0 (l1 + 1) H h
theorem tlb_X5_renewAll_21 {H' : qx_H} (k2 : Nat → Int32 → qx_H → Option qx_H) (hk2 : ∀ (l0 : Nat) (l1 : Int32) (H : qx_H), k2 l0 l1 H = some H' → H'.length = H.length) (l0 : Nat) (l1 : Int32) (H : qx_H) (h : fm_X5_renewAll_b21 k2 l0 l1 H = some H') : H'.length = H.length := by
  unfold fm_X5_renewAll_b21 at h
  exact hk2 l0 (l1 + 1) H h
theorem tb_X5_renewAll_2 {st : xT} {d : Nat} {R : Option Value → qx_H → Prop} (hd : 1 ≤ d) {H' : qx_H} (hR : R (none) H') : ∀ (n : Nat) (l0 : Nat) (l1 : Int32) (H : qx_H) (h : fm_X5_renewAll_b2 n l0 l1 H = some H'), qx_V (xE st d) R (xc49 st) (2, [some (.ref l0), some (.int l1)], [], H) := by
  intro n
  induction n with
  | zero => intro l0 l1 H h; exact nomatch (show (none : Option qx_H) = some H' from h)
  | succ n ih =>
    intro l0 l1 H h
    unfold fm_X5_renewAll_b2 at h
    refine qv_br (c := 31 ≤ l1) (a := (27, [some (.ref l0), some (.int l1)], [], H)) (b := (8, [some (.ref l0), some (.int l1)], [], H)) 3 rfl (fun c5 => ?_) (fun c5 => ?_)
    · replace h := qv_pos c5 h
      cases h
      exact qv_ret0 rfl hR
    · replace h := qv_neg c5 h
      refine qv_run 2 (σ := (10, [some (.ref l0), some (.int l1)], [.int l1, .ref l0], H)) rfl ?_
      obtain ⟨g10, h⟩ := qv_guard h
      obtain ⟨v10, e10, h⟩ := qv_bind h
      refine qv_callV [.int l1] rfl rfl rfl (Nat.le_of_ble_eq_true rfl) g10 (th_X5_isMissing (by omega) e10) rfl ?_
      refine qv_br (c := v10 = 0) (a := (16, [some (.ref l0), some (.int l1)], [], H)) (b := (21, [some (.ref l0), some (.int l1)], [], H)) 1 rfl (fun c13 => ?_) (fun c13 => ?_)
      · replace h := qv_pos c13 h
        refine qv_run 2 (σ := (18, [some (.ref l0), some (.int l1)], [.int l1, .ref l0], H)) rfl ?_
        obtain ⟨H18, e18, h⟩ := qv_bind h
        refine qv_callV [.int l1] rfl rfl rfl (Nat.le_of_ble_eq_true rfl) g10 (th_X5_renew (by omega) e18) (tl_X5_renew e18) ?_
        exact tb_X5_renewAll_21 hd _ ih hR l0 l1 H18 h
      · replace h := qv_neg c13 h
        exact tb_X5_renewAll_21 hd _ ih hR l0 l1 H h
theorem tlb_X5_renewAll_2 {H' : qx_H} : ∀ (n : Nat) (l0 : Nat) (l1 : Int32) (H : qx_H) (h : fm_X5_renewAll_b2 n l0 l1 H = some H'), H'.length = H.length := by
  intro n
  induction n with
  | zero => intro l0 l1 H h; exact nomatch (show (none : Option qx_H) = some H' from h)
  | succ n ih =>
    intro l0 l1 H h
    unfold fm_X5_renewAll_b2 at h
    by_cases c5 : 31 ≤ l1
    · replace h := qv_pos c5 h
      cases h
      rfl
    · replace h := qv_neg c5 h
      obtain ⟨g10, h⟩ := qv_guard h
      obtain ⟨v10, e10, h⟩ := qv_bind h
      by_cases c13 : v10 = 0
      · replace h := qv_pos c13 h
        obtain ⟨H18, e18, h⟩ := qv_bind h
        have q_H18 := tl_X5_renew e18
        have q_end := tlb_X5_renewAll_21 _ ih l0 l1 H18 h
        omega
      · replace h := qv_neg c13 h
        exact tlb_X5_renewAll_21 _ ih l0 l1 H h
theorem tb_X5_renewAll_0 {st : xT} {d : Nat} {R : Option Value → qx_H → Prop} (hd : 1 ≤ d) {H' : qx_H} (hR : R (none) H') (a0 : Nat) (H : qx_H) (h : fm_X5_renewAll a0 H = some H') : qx_V (xE st d) R (xc49 st) (0, [some (.ref a0), none], [], H) := by
  unfold fm_X5_renewAll at h
  refine qv_run 2 (σ := (2, [some (.ref a0), some (.int 0)], [], H)) rfl ?_
  exact tb_X5_renewAll_2 hd hR 5000 a0 0 H h
theorem tlb_X5_renewAll_0 {H' : qx_H} (a0 : Nat) (H : qx_H) (h : fm_X5_renewAll a0 H = some H') : H'.length = H.length := by
  unfold fm_X5_renewAll at h
  exact tlb_X5_renewAll_2 5000 a0 0 H h
theorem th_X5_renewAll {st : xT} {d : Nat} (hd : 2 ≤ d) {a0 : Nat} {H : qx_H} {H' : qx_H} (h : fm_X5_renewAll a0 H = some H') : xE st d 49 [.ref a0] H (none) H' := by
  obtain ⟨d, rfl⟩ : ∃ d', d = d' + 1 := ⟨d - 1, by omega⟩
  exact xE_of (xe49 st) xl49 (Nat.le_of_ble_eq_true rfl) (ls := [some (.ref a0), none]) rfl (tb_X5_renewAll_0 (by omega) ⟨rfl, rfl⟩ a0 H h)
theorem tl_X5_renewAll {a0 : Nat} {H : qx_H} {H' : qx_H} (h : fm_X5_renewAll a0 H = some H') : H'.length = H.length := tlb_X5_renewAll_0 a0 H h
def fm_X5_passDay_b121 (k72 : Nat → Int32 → qx_H → Option qx_H) (l0 : Nat) (l1 : Int32) (H : qx_H) : Option qx_H := k72 l0 (l1 + 1) H
def fm_X5_passDay_b72 : Nat → Nat → Int32 → qx_H → Option qx_H
  | 0, _, _, _ => none
  | n + 1, l0, l1, H => if 31 ≤ l1 then ((hp_gI H l0 3 10).bind fun v129 => (hp_put H l0 3 10 (.int (v129 + 1))).bind fun H134 => some H134) else ((hp_gR H l0 3 6).bind fun v79 => (hp_ald H v79 (fm_X0_lesserKnot l1)).bind fun v86 => (hp_gR H l0 3 6).bind fun v88 => (hp_ald H v88 (fm_X0_greaterKnot l1)).bind fun v95 => if hp_is H l0 3 = true then ((fm_X5_isMissing l0 l1 H).bind fun v100 => if v100 = 0 then ((hp_gR H l0 3 4).bind fun v108 => (hp_ald H v108 l1).bind fun v112 => if v112 < (v86 + v95) then (fm_X5_passDay_b121 (fm_X5_passDay_b72 n) l0 l1 H) else ((fm_X5_lose l0 l1 H).bind fun H118 => fm_X5_passDay_b121 (fm_X5_passDay_b72 n) l0 l1 H118)) else (fm_X5_passDay_b121 (fm_X5_passDay_b72 n) l0 l1 H)) else none)
def fm_X5_passDay_b47 : Nat → Nat → Int32 → qx_H → Option qx_H
  | 0, _, _, _ => none
  | n + 1, l0, l1, H => if 20 ≤ l1 then (fm_X5_passDay_b72 5000 l0 0 H) else ((hp_gR H l0 3 6).bind fun v54 => if hp_is H l0 3 = true then (ob2 (fm_X5_holdsOf l0 l1 H) fun v60 H60 => (hp_ast H60 v54 l1 v60).bind fun H63 => fm_X5_passDay_b47 n l0 (l1 + 1) H63) else none)
def fm_X5_passDay_b39 (k2 : Nat → Int32 → qx_H → Option qx_H) (l0 : Nat) (l1 : Int32) (H : qx_H) : Option qx_H := k2 l0 (l1 + 1) H
def fm_X5_passDay_b2 : Nat → Nat → Int32 → qx_H → Option qx_H
  | 0, _, _, _ => none
  | n + 1, l0, l1, H => if 31 ≤ l1 then (fm_X5_passDay_b47 5000 l0 0 H) else (if hp_is H l0 3 = true then ((fm_X5_isMissing l0 l1 H).bind fun v10 => if v10 = 0 then ((hp_gR H l0 3 4).bind fun v17 => (hp_gR H l0 3 4).bind fun v24 => (hp_ald H v24 l1).bind fun v28 => ob2 (fm_X5_wearsOf l0 l1 H) fun v31 H31 => (hp_ast H31 v17 l1 (ji_min 99 (v28 + v31))).bind fun H38 => fm_X5_passDay_b39 (fm_X5_passDay_b2 n) l0 l1 H38) else (fm_X5_passDay_b39 (fm_X5_passDay_b2 n) l0 l1 H)) else none)
def fm_X5_passDay (a0 : Nat) (H : qx_H) : Option qx_H := fm_X5_passDay_b2 5000 a0 0 H
theorem tb_X5_passDay_121 {st : xT} {d : Nat} {R : Option Value → qx_H → Prop} (hd : 3 ≤ d) {H' : qx_H} (k72 : Nat → Int32 → qx_H → Option qx_H) (hk72 : ∀ (l0 : Nat) (l1 : Int32) (z2 : Option Value) (hz2 : qx_ns z2 = true) (H : qx_H), k72 l0 l1 H = some H' → qx_V (xE st d) R (xc51 st) (72, [some (.ref l0), some (.int l1), z2], [], H)) (hR : R (none) H') (l0 : Nat) (l1 : Int32) (z2 : Option Value) (hz2 : qx_ns z2 = true) (H : qx_H) (h : fm_X5_passDay_b121 k72 l0 l1 H = some H') : qx_V (xE st d) R (xc51 st) (121, [some (.ref l0), some (.int l1), z2], [], H) := by
  unfold fm_X5_passDay_b121 at h
  refine qv_run 2 (σ := (72, [some (.ref l0), some (.int (l1 + 1)), z2], [], H)) rfl ?_
  exact hk72 l0 (l1 + 1) z2 hz2 H h
theorem tlb_X5_passDay_121 {H' : qx_H} (k72 : Nat → Int32 → qx_H → Option qx_H) (hk72 : ∀ (l0 : Nat) (l1 : Int32) (H : qx_H), k72 l0 l1 H = some H' → H'.length = H.length) (l0 : Nat) (l1 : Int32) (H : qx_H) (h : fm_X5_passDay_b121 k72 l0 l1 H = some H') : H'.length = H.length := by
  unfold fm_X5_passDay_b121 at h
  exact hk72 l0 (l1 + 1) H h
theorem tb_X5_passDay_72 {st : xT} {d : Nat} {R : Option Value → qx_H → Prop} (hd : 3 ≤ d) {H' : qx_H} (hR : R (none) H') : ∀ (n : Nat) (l0 : Nat) (l1 : Int32) (z2 : Option Value) (hz2 : qx_ns z2 = true) (H : qx_H) (h : fm_X5_passDay_b72 n l0 l1 H = some H'), qx_V (xE st d) R (xc51 st) (72, [some (.ref l0), some (.int l1), z2], [], H) := by
  intro n
  induction n with
  | zero => intro l0 l1 z2 hz2 H h; exact nomatch (show (none : Option qx_H) = some H' from h)
  | succ n ih =>
    intro l0 l1 z2 hz2 H h
    unfold fm_X5_passDay_b72 at h
    refine qv_br (c := 31 ≤ l1) (a := (127, [some (.ref l0), some (.int l1), z2], [], H)) (b := (78, [some (.ref l0), some (.int l1), z2], [], H)) 3 rfl (fun c75 => ?_) (fun c75 => ?_)
    · replace h := qv_pos c75 h
      refine qv_run 2 (σ := (129, [some (.ref l0), some (.int l1), z2], [.ref l0, .ref l0], H)) rfl ?_
      obtain ⟨v129, e129, h⟩ := qv_bind h
      refine qv_getI rfl e129 ?_
      refine qv_run 2 (σ := (134, [some (.ref l0), some (.int l1), z2], [.int (v129 + 1), .ref l0], H)) rfl ?_
      obtain ⟨H134, e134, h⟩ := qv_bind h
      refine qv_putI rfl e134 ?_
      cases h
      exact qv_ret0 rfl hR
    · replace h := qv_neg c75 h
      refine qv_run 1 (σ := (79, [some (.ref l0), some (.int l1), z2], [.ref l0], H)) rfl ?_
      obtain ⟨v79, e79, h⟩ := qv_bind h
      refine qv_getR rfl e79 ?_
      refine qv_run 1 (σ := (83, [some (.ref l0), some (.int l1), z2], [.int l1, .ref v79], H)) rfl ?_
      refine qv_call [.int l1] rfl rfl rfl (Nat.le_of_ble_eq_true rfl) (th_X0_lesserKnot (by omega) rfl) rfl ?_
      obtain ⟨v86, e86, h⟩ := qv_bind h
      refine qv_ald rfl e86 ?_
      refine qv_run 1 (σ := (88, [some (.ref l0), some (.int l1), z2], [.ref l0, .int v86], H)) rfl ?_
      obtain ⟨v88, e88, h⟩ := qv_bind h
      refine qv_getR rfl e88 ?_
      refine qv_run 1 (σ := (92, [some (.ref l0), some (.int l1), z2], [.int l1, .ref v88, .int v86], H)) rfl ?_
      refine qv_call [.int l1] rfl rfl rfl (Nat.le_of_ble_eq_true rfl) (th_X0_greaterKnot (by omega) rfl) rfl ?_
      obtain ⟨v95, e95, h⟩ := qv_bind h
      refine qv_ald rfl e95 ?_
      refine qv_run 4 (σ := (100, [some (.ref l0), some (.int l1), some (.int (v86 + v95))], [.int l1, .ref l0], H)) rfl ?_
      obtain ⟨g100, h⟩ := qv_guard h
      obtain ⟨v100, e100, h⟩ := qv_bind h
      refine qv_callV [.int l1] rfl rfl rfl (Nat.le_of_ble_eq_true rfl) g100 (th_X5_isMissing (by omega) e100) rfl ?_
      refine qv_br (c := v100 = 0) (a := (106, [some (.ref l0), some (.int l1), some (.int (v86 + v95))], [], H)) (b := (121, [some (.ref l0), some (.int l1), some (.int (v86 + v95))], [], H)) 1 rfl (fun c103 => ?_) (fun c103 => ?_)
      · replace h := qv_pos c103 h
        refine qv_run 2 (σ := (108, [some (.ref l0), some (.int l1), some (.int (v86 + v95))], [.ref l0, .int (v86 + v95)], H)) rfl ?_
        obtain ⟨v108, e108, h⟩ := qv_bind h
        refine qv_getR rfl e108 ?_
        refine qv_run 1 (σ := (112, [some (.ref l0), some (.int l1), some (.int (v86 + v95))], [.int l1, .ref v108, .int (v86 + v95)], H)) rfl ?_
        obtain ⟨v112, e112, h⟩ := qv_bind h
        refine qv_ald rfl e112 ?_
        refine qv_br (c := v112 < (v86 + v95)) (a := (121, [some (.ref l0), some (.int l1), some (.int (v86 + v95))], [], H)) (b := (116, [some (.ref l0), some (.int l1), some (.int (v86 + v95))], [], H)) 1 rfl (fun c113 => ?_) (fun c113 => ?_)
        · replace h := qv_pos c113 h
          exact tb_X5_passDay_121 hd _ ih hR l0 l1 (some (.int (v86 + v95))) rfl H h
        · replace h := qv_neg c113 h
          refine qv_run 2 (σ := (118, [some (.ref l0), some (.int l1), some (.int (v86 + v95))], [.int l1, .ref l0], H)) rfl ?_
          obtain ⟨H118, e118, h⟩ := qv_bind h
          refine qv_callV [.int l1] rfl rfl rfl (Nat.le_of_ble_eq_true rfl) g100 (th_X5_lose (by omega) e118) (tl_X5_lose e118) ?_
          exact tb_X5_passDay_121 hd _ ih hR l0 l1 (some (.int (v86 + v95))) rfl H118 h
      · replace h := qv_neg c103 h
        exact tb_X5_passDay_121 hd _ ih hR l0 l1 (some (.int (v86 + v95))) rfl H h
theorem tlb_X5_passDay_72 {H' : qx_H} : ∀ (n : Nat) (l0 : Nat) (l1 : Int32) (H : qx_H) (h : fm_X5_passDay_b72 n l0 l1 H = some H'), H'.length = H.length := by
  intro n
  induction n with
  | zero => intro l0 l1 H h; exact nomatch (show (none : Option qx_H) = some H' from h)
  | succ n ih =>
    intro l0 l1 H h
    unfold fm_X5_passDay_b72 at h
    by_cases c75 : 31 ≤ l1
    · replace h := qv_pos c75 h
      obtain ⟨v129, e129, h⟩ := qv_bind h
      obtain ⟨H134, e134, h⟩ := qv_bind h
      have q_H134 := hp_put_len e134
      cases h
      omega
    · replace h := qv_neg c75 h
      obtain ⟨v79, e79, h⟩ := qv_bind h
      obtain ⟨v86, e86, h⟩ := qv_bind h
      obtain ⟨v88, e88, h⟩ := qv_bind h
      obtain ⟨v95, e95, h⟩ := qv_bind h
      obtain ⟨g100, h⟩ := qv_guard h
      obtain ⟨v100, e100, h⟩ := qv_bind h
      by_cases c103 : v100 = 0
      · replace h := qv_pos c103 h
        obtain ⟨v108, e108, h⟩ := qv_bind h
        obtain ⟨v112, e112, h⟩ := qv_bind h
        by_cases c113 : v112 < (v86 + v95)
        · replace h := qv_pos c113 h
          exact tlb_X5_passDay_121 _ ih l0 l1 H h
        · replace h := qv_neg c113 h
          obtain ⟨H118, e118, h⟩ := qv_bind h
          have q_H118 := tl_X5_lose e118
          have q_end := tlb_X5_passDay_121 _ ih l0 l1 H118 h
          omega
      · replace h := qv_neg c103 h
        exact tlb_X5_passDay_121 _ ih l0 l1 H h
theorem tb_X5_passDay_47 {st : xT} {d : Nat} {R : Option Value → qx_H → Prop} (hd : 3 ≤ d) {H' : qx_H} (hR : R (none) H') : ∀ (n : Nat) (l0 : Nat) (l1 : Int32) (H : qx_H) (h : fm_X5_passDay_b47 n l0 l1 H = some H'), qx_V (xE st d) R (xc51 st) (47, [some (.ref l0), some (.int l1), none], [], H) := by
  intro n
  induction n with
  | zero => intro l0 l1 H h; exact nomatch (show (none : Option qx_H) = some H' from h)
  | succ n ih =>
    intro l0 l1 H h
    unfold fm_X5_passDay_b47 at h
    refine qv_br (c := 20 ≤ l1) (a := (70, [some (.ref l0), some (.int l1), none], [], H)) (b := (53, [some (.ref l0), some (.int l1), none], [], H)) 3 rfl (fun c50 => ?_) (fun c50 => ?_)
    · replace h := qv_pos c50 h
      refine qv_run 2 (σ := (72, [some (.ref l0), some (.int 0), none], [], H)) rfl ?_
      exact tb_X5_passDay_72 hd hR 5000 l0 0 none rfl H h
    · replace h := qv_neg c50 h
      refine qv_run 1 (σ := (54, [some (.ref l0), some (.int l1), none], [.ref l0], H)) rfl ?_
      obtain ⟨v54, e54, h⟩ := qv_bind h
      refine qv_getR rfl e54 ?_
      refine qv_run 3 (σ := (60, [some (.ref l0), some (.int l1), none], [.int l1, .ref l0, .int l1, .ref v54], H)) rfl ?_
      obtain ⟨g60, h⟩ := qv_guard h
      obtain ⟨v60, H60, e60, h⟩ := qv_bind2 h
      refine qv_callV [.int l1] rfl rfl rfl (Nat.le_of_ble_eq_true rfl) g60 (th_X5_holdsOf (by omega) e60) (tl_X5_holdsOf e60) ?_
      obtain ⟨H63, e63, h⟩ := qv_bind h
      refine qv_ast rfl e63 ?_
      refine qv_run 2 (σ := (47, [some (.ref l0), some (.int (l1 + 1)), none], [], H63)) rfl ?_
      exact ih l0 (l1 + 1) H63 h
theorem tlb_X5_passDay_47 {H' : qx_H} : ∀ (n : Nat) (l0 : Nat) (l1 : Int32) (H : qx_H) (h : fm_X5_passDay_b47 n l0 l1 H = some H'), H'.length = H.length := by
  intro n
  induction n with
  | zero => intro l0 l1 H h; exact nomatch (show (none : Option qx_H) = some H' from h)
  | succ n ih =>
    intro l0 l1 H h
    unfold fm_X5_passDay_b47 at h
    by_cases c50 : 20 ≤ l1
    · replace h := qv_pos c50 h
      exact tlb_X5_passDay_72 5000 l0 0 H h
    · replace h := qv_neg c50 h
      obtain ⟨v54, e54, h⟩ := qv_bind h
      obtain ⟨g60, h⟩ := qv_guard h
      obtain ⟨v60, H60, e60, h⟩ := qv_bind2 h
      have q_H60 := tl_X5_holdsOf e60
      obtain ⟨H63, e63, h⟩ := qv_bind h
      have q_H63 := hp_ast_len e63
      have q_end := ih l0 (l1 + 1) H63 h
      omega
theorem tb_X5_passDay_39 {st : xT} {d : Nat} {R : Option Value → qx_H → Prop} (hd : 3 ≤ d) {H' : qx_H} (k2 : Nat → Int32 → qx_H → Option qx_H) (hk2 : ∀ (l0 : Nat) (l1 : Int32) (H : qx_H), k2 l0 l1 H = some H' → qx_V (xE st d) R (xc51 st) (2, [some (.ref l0), some (.int l1), none], [], H)) (hR : R (none) H') (l0 : Nat) (l1 : Int32) (H : qx_H) (h : fm_X5_passDay_b39 k2 l0 l1 H = some H') : qx_V (xE st d) R (xc51 st) (39, [some (.ref l0), some (.int l1), none], [], H) := by
  unfold fm_X5_passDay_b39 at h
  refine qv_run 2 (σ := (2, [some (.ref l0), some (.int (l1 + 1)), none], [], H)) rfl ?_
  exact hk2 l0 (l1 + 1) H h
theorem tlb_X5_passDay_39 {H' : qx_H} (k2 : Nat → Int32 → qx_H → Option qx_H) (hk2 : ∀ (l0 : Nat) (l1 : Int32) (H : qx_H), k2 l0 l1 H = some H' → H'.length = H.length) (l0 : Nat) (l1 : Int32) (H : qx_H) (h : fm_X5_passDay_b39 k2 l0 l1 H = some H') : H'.length = H.length := by
  unfold fm_X5_passDay_b39 at h
  exact hk2 l0 (l1 + 1) H h
theorem tb_X5_passDay_2 {st : xT} {d : Nat} {R : Option Value → qx_H → Prop} (hd : 3 ≤ d) {H' : qx_H} (hR : R (none) H') : ∀ (n : Nat) (l0 : Nat) (l1 : Int32) (H : qx_H) (h : fm_X5_passDay_b2 n l0 l1 H = some H'), qx_V (xE st d) R (xc51 st) (2, [some (.ref l0), some (.int l1), none], [], H) := by
  intro n
  induction n with
  | zero => intro l0 l1 H h; exact nomatch (show (none : Option qx_H) = some H' from h)
  | succ n ih =>
    intro l0 l1 H h
    unfold fm_X5_passDay_b2 at h
    refine qv_br (c := 31 ≤ l1) (a := (45, [some (.ref l0), some (.int l1), none], [], H)) (b := (8, [some (.ref l0), some (.int l1), none], [], H)) 3 rfl (fun c5 => ?_) (fun c5 => ?_)
    · replace h := qv_pos c5 h
      refine qv_run 2 (σ := (47, [some (.ref l0), some (.int 0), none], [], H)) rfl ?_
      exact tb_X5_passDay_47 hd hR 5000 l0 0 H h
    · replace h := qv_neg c5 h
      refine qv_run 2 (σ := (10, [some (.ref l0), some (.int l1), none], [.int l1, .ref l0], H)) rfl ?_
      obtain ⟨g10, h⟩ := qv_guard h
      obtain ⟨v10, e10, h⟩ := qv_bind h
      refine qv_callV [.int l1] rfl rfl rfl (Nat.le_of_ble_eq_true rfl) g10 (th_X5_isMissing (by omega) e10) rfl ?_
      refine qv_br (c := v10 = 0) (a := (16, [some (.ref l0), some (.int l1), none], [], H)) (b := (39, [some (.ref l0), some (.int l1), none], [], H)) 1 rfl (fun c13 => ?_) (fun c13 => ?_)
      · replace h := qv_pos c13 h
        refine qv_run 1 (σ := (17, [some (.ref l0), some (.int l1), none], [.ref l0], H)) rfl ?_
        obtain ⟨v17, e17, h⟩ := qv_bind h
        refine qv_getR rfl e17 ?_
        refine qv_run 3 (σ := (24, [some (.ref l0), some (.int l1), none], [.ref l0, .int 99, .int l1, .ref v17], H)) rfl ?_
        obtain ⟨v24, e24, h⟩ := qv_bind h
        refine qv_getR rfl e24 ?_
        refine qv_run 1 (σ := (28, [some (.ref l0), some (.int l1), none], [.int l1, .ref v24, .int 99, .int l1, .ref v17], H)) rfl ?_
        obtain ⟨v28, e28, h⟩ := qv_bind h
        refine qv_ald rfl e28 ?_
        refine qv_run 2 (σ := (31, [some (.ref l0), some (.int l1), none], [.int l1, .ref l0, .int v28, .int 99, .int l1, .ref v17], H)) rfl ?_
        obtain ⟨v31, H31, e31, h⟩ := qv_bind2 h
        refine qv_callV [.int l1] rfl rfl rfl (Nat.le_of_ble_eq_true rfl) g10 (th_X5_wearsOf (by omega) e31) (tl_X5_wearsOf e31) ?_
        refine qv_run 2 (σ := (38, [some (.ref l0), some (.int l1), none], [.int (ji_min 99 (v28 + v31)), .int l1, .ref v17], H31)) rfl ?_
        obtain ⟨H38, e38, h⟩ := qv_bind h
        refine qv_ast rfl e38 ?_
        exact tb_X5_passDay_39 hd _ ih hR l0 l1 H38 h
      · replace h := qv_neg c13 h
        exact tb_X5_passDay_39 hd _ ih hR l0 l1 H h
theorem tlb_X5_passDay_2 {H' : qx_H} : ∀ (n : Nat) (l0 : Nat) (l1 : Int32) (H : qx_H) (h : fm_X5_passDay_b2 n l0 l1 H = some H'), H'.length = H.length := by
  intro n
  induction n with
  | zero => intro l0 l1 H h; exact nomatch (show (none : Option qx_H) = some H' from h)
  | succ n ih =>
    intro l0 l1 H h
    unfold fm_X5_passDay_b2 at h
    by_cases c5 : 31 ≤ l1
    · replace h := qv_pos c5 h
      exact tlb_X5_passDay_47 5000 l0 0 H h
    · replace h := qv_neg c5 h
      obtain ⟨g10, h⟩ := qv_guard h
      obtain ⟨v10, e10, h⟩ := qv_bind h
      by_cases c13 : v10 = 0
      · replace h := qv_pos c13 h
        obtain ⟨v17, e17, h⟩ := qv_bind h
        obtain ⟨v24, e24, h⟩ := qv_bind h
        obtain ⟨v28, e28, h⟩ := qv_bind h
        obtain ⟨v31, H31, e31, h⟩ := qv_bind2 h
        have q_H31 := tl_X5_wearsOf e31
        obtain ⟨H38, e38, h⟩ := qv_bind h
        have q_H38 := hp_ast_len e38
        have q_end := tlb_X5_passDay_39 _ ih l0 l1 H38 h
        omega
      · replace h := qv_neg c13 h
        exact tlb_X5_passDay_39 _ ih l0 l1 H h
theorem tb_X5_passDay_0 {st : xT} {d : Nat} {R : Option Value → qx_H → Prop} (hd : 3 ≤ d) {H' : qx_H} (hR : R (none) H') (a0 : Nat) (H : qx_H) (h : fm_X5_passDay a0 H = some H') : qx_V (xE st d) R (xc51 st) (0, [some (.ref a0), none, none], [], H) := by
  unfold fm_X5_passDay at h
  refine qv_run 2 (σ := (2, [some (.ref a0), some (.int 0), none], [], H)) rfl ?_
  exact tb_X5_passDay_2 hd hR 5000 a0 0 H h
theorem tlb_X5_passDay_0 {H' : qx_H} (a0 : Nat) (H : qx_H) (h : fm_X5_passDay a0 H = some H') : H'.length = H.length := by
  unfold fm_X5_passDay at h
  exact tlb_X5_passDay_2 5000 a0 0 H h
theorem th_X5_passDay {st : xT} {d : Nat} (hd : 4 ≤ d) {a0 : Nat} {H : qx_H} {H' : qx_H} (h : fm_X5_passDay a0 H = some H') : xE st d 51 [.ref a0] H (none) H' := by
  obtain ⟨d, rfl⟩ : ∃ d', d = d' + 1 := ⟨d - 1, by omega⟩
  exact xE_of (xe51 st) xl51 (Nat.le_of_ble_eq_true rfl) (ls := [some (.ref a0), none, none]) rfl (tb_X5_passDay_0 (by omega) ⟨rfl, rfl⟩ a0 H h)
theorem tl_X5_passDay {a0 : Nat} {H : qx_H} {H' : qx_H} (h : fm_X5_passDay a0 H = some H') : H'.length = H.length := tlb_X5_passDay_0 a0 H h
def fm_X5_passDays_b2 : Nat → Nat → Int32 → Int32 → qx_H → Option qx_H
  | 0, _, _, _, _ => none
  | n + 1, l0, l1, l2, H => if l1 ≤ l2 then (some H) else (if hp_is H l0 3 = true then ((fm_X5_passDay l0 H).bind fun H8 => fm_X5_passDays_b2 n l0 l1 (l2 + 1) H8) else none)
def fm_X5_passDays (a0 : Nat) (a1 : Int32) (H : qx_H) : Option qx_H := fm_X5_passDays_b2 5000 a0 a1 0 H
theorem tb_X5_passDays_2 {st : xT} {d : Nat} {R : Option Value → qx_H → Prop} (hd : 4 ≤ d) {H' : qx_H} (hR : R (none) H') : ∀ (n : Nat) (l0 : Nat) (l1 : Int32) (l2 : Int32) (H : qx_H) (h : fm_X5_passDays_b2 n l0 l1 l2 H = some H'), qx_V (xE st d) R (xc50 st) (2, [some (.ref l0), some (.int l1), some (.int l2)], [], H) := by
  intro n
  induction n with
  | zero => intro l0 l1 l2 H h; exact nomatch (show (none : Option qx_H) = some H' from h)
  | succ n ih =>
    intro l0 l1 l2 H h
    unfold fm_X5_passDays_b2 at h
    refine qv_br (c := l1 ≤ l2) (a := (17, [some (.ref l0), some (.int l1), some (.int l2)], [], H)) (b := (7, [some (.ref l0), some (.int l1), some (.int l2)], [], H)) 3 rfl (fun c4 => ?_) (fun c4 => ?_)
    · replace h := qv_pos c4 h
      cases h
      exact qv_ret0 rfl hR
    · replace h := qv_neg c4 h
      refine qv_run 1 (σ := (8, [some (.ref l0), some (.int l1), some (.int l2)], [.ref l0], H)) rfl ?_
      obtain ⟨g8, h⟩ := qv_guard h
      obtain ⟨H8, e8, h⟩ := qv_bind h
      refine qv_callV [] rfl rfl rfl (Nat.le_of_ble_eq_true rfl) g8 (th_X5_passDay (by omega) e8) (tl_X5_passDay e8) ?_
      refine qv_run 2 (σ := (2, [some (.ref l0), some (.int l1), some (.int (l2 + 1))], [], H8)) rfl ?_
      exact ih l0 l1 (l2 + 1) H8 h
theorem tlb_X5_passDays_2 {H' : qx_H} : ∀ (n : Nat) (l0 : Nat) (l1 : Int32) (l2 : Int32) (H : qx_H) (h : fm_X5_passDays_b2 n l0 l1 l2 H = some H'), H'.length = H.length := by
  intro n
  induction n with
  | zero => intro l0 l1 l2 H h; exact nomatch (show (none : Option qx_H) = some H' from h)
  | succ n ih =>
    intro l0 l1 l2 H h
    unfold fm_X5_passDays_b2 at h
    by_cases c4 : l1 ≤ l2
    · replace h := qv_pos c4 h
      cases h
      rfl
    · replace h := qv_neg c4 h
      obtain ⟨g8, h⟩ := qv_guard h
      obtain ⟨H8, e8, h⟩ := qv_bind h
      have q_H8 := tl_X5_passDay e8
      have q_end := ih l0 l1 (l2 + 1) H8 h
      omega
theorem tb_X5_passDays_0 {st : xT} {d : Nat} {R : Option Value → qx_H → Prop} (hd : 4 ≤ d) {H' : qx_H} (hR : R (none) H') (a0 : Nat) (a1 : Int32) (H : qx_H) (h : fm_X5_passDays a0 a1 H = some H') : qx_V (xE st d) R (xc50 st) (0, [some (.ref a0), some (.int a1), none], [], H) := by
  unfold fm_X5_passDays at h
  refine qv_run 2 (σ := (2, [some (.ref a0), some (.int a1), some (.int 0)], [], H)) rfl ?_
  exact tb_X5_passDays_2 hd hR 5000 a0 a1 0 H h
theorem tlb_X5_passDays_0 {H' : qx_H} (a0 : Nat) (a1 : Int32) (H : qx_H) (h : fm_X5_passDays a0 a1 H = some H') : H'.length = H.length := by
  unfold fm_X5_passDays at h
  exact tlb_X5_passDays_2 5000 a0 a1 0 H h
theorem th_X5_passDays {st : xT} {d : Nat} (hd : 5 ≤ d) {a0 : Nat} {a1 : Int32} {H : qx_H} {H' : qx_H} (h : fm_X5_passDays a0 a1 H = some H') : xE st d 50 [.ref a0, .int a1] H (none) H' := by
  obtain ⟨d, rfl⟩ : ∃ d', d = d' + 1 := ⟨d - 1, by omega⟩
  exact xE_of (xe50 st) xl50 (Nat.le_of_ble_eq_true rfl) (ls := [some (.ref a0), some (.int a1), none]) rfl (tb_X5_passDays_0 (by omega) ⟨rfl, rfl⟩ a0 a1 H h)
theorem tl_X5_passDays {a0 : Nat} {a1 : Int32} {H : qx_H} {H' : qx_H} (h : fm_X5_passDays a0 a1 H = some H') : H'.length = H.length := tlb_X5_passDays_0 a0 a1 H h
def fm_X10_isBelow (a0 : Int32) (a1 : Int32) : Int32 := if a0 < 0 then (0) else (if a1 ≤ a0 then (0) else (1))
theorem tb_X10_isBelow_0 {st : xT} {d : Nat} {R : Option Value → qx_H → Prop} (hd : 0 ≤ d) {r : Int32} {H : qx_H} (hR : R (some (.int r)) H) (a0 : Int32) (a1 : Int32) (h : fm_X10_isBelow a0 a1 = r) : qx_V (xE st d) R (xc117 st) (0, [some (.int a0), some (.int a1)], [], H) := by
  unfold fm_X10_isBelow at h
  refine qv_br (c := a0 < 0) (a := (13, [some (.int a0), some (.int a1)], [], H)) (b := (4, [some (.int a0), some (.int a1)], [], H)) 2 rfl (fun c1 => ?_) (fun c1 => ?_)
  · replace h := qv_pos c1 h
    refine qv_run 1 (σ := (14, [some (.int a0), some (.int a1)], [.int 0], H)) rfl ?_
    subst h
    exact qv_retz rfl (Or.inl rfl) hR
  · replace h := qv_neg c1 h
    refine qv_br (c := a1 ≤ a0) (a := (13, [some (.int a0), some (.int a1)], [], H)) (b := (9, [some (.int a0), some (.int a1)], [], H)) 3 rfl (fun c6 => ?_) (fun c6 => ?_)
    · replace h := qv_pos c6 h
      refine qv_run 1 (σ := (14, [some (.int a0), some (.int a1)], [.int 0], H)) rfl ?_
      subst h
      exact qv_retz rfl (Or.inl rfl) hR
    · replace h := qv_neg c6 h
      refine qv_run 2 (σ := (14, [some (.int a0), some (.int a1)], [.int 1], H)) rfl ?_
      subst h
      exact qv_retz rfl (Or.inr rfl) hR
theorem tzb_X10_isBelow_0 {r : Int32} (a0 : Int32) (a1 : Int32) (h : fm_X10_isBelow a0 a1 = r) : r = 0 ∨ r = 1 := by
  unfold fm_X10_isBelow at h
  by_cases c1 : a0 < 0
  · replace h := qv_pos c1 h
    subst h
    exact Or.inl rfl
  · replace h := qv_neg c1 h
    by_cases c6 : a1 ≤ a0
    · replace h := qv_pos c6 h
      subst h
      exact Or.inl rfl
    · replace h := qv_neg c6 h
      subst h
      exact Or.inr rfl
theorem th_X10_isBelow {st : xT} {d : Nat} (hd : 1 ≤ d) {a0 : Int32} {a1 : Int32} {r : Int32} {H : qx_H} (h : fm_X10_isBelow a0 a1 = r) : xE st d 117 [.int a0, .int a1] H (some (.int r)) H := by
  obtain ⟨d, rfl⟩ : ∃ d', d = d' + 1 := ⟨d - 1, by omega⟩
  exact xE_of (xe117 st) xl117 (Nat.le_of_ble_eq_true rfl) (ls := [some (.int a0), some (.int a1)]) rfl (tb_X10_isBelow_0 (by omega) ⟨rfl, rfl⟩ a0 a1 h)
theorem tz_X10_isBelow {a0 : Int32} {a1 : Int32} {r : Int32} (h : fm_X10_isBelow a0 a1 = r) : r = 0 ∨ r = 1 := tzb_X10_isBelow_0 a0 a1 h
theorem fz_X10_isBelow {a0 : Int32} {a1 : Int32} : fm_X10_isBelow a0 a1 = 0 ∨ fm_X10_isBelow a0 a1 = 1 := tz_X10_isBelow rfl
def fm_X5_runStops_b79 (k7 : Nat → Int32 → Int32 → qx_H → Option Int32) (l1 : Nat) (l2 : Int32) (l3 : Int32) (H : qx_H) : Option Int32 := k7 l1 l2 (l3 + 1) H
def fm_X5_runStops_b7 : Nat → Nat → Int32 → Int32 → qx_H → Option Int32
  | 0, _, _, _, _ => none
  | n + 1, l1, l2, l3, H => (hp_gI H l1 5 2).bind fun v9 => if v9 ≤ l3 then ((hp_gI H l1 5 2).bind fun v86 => some v86) else ((hp_gR H l1 5 0).bind fun v16 => (hp_ald H v16 l3).bind fun v20 => if (fm_X10_isBelow v20 20) = 0 then (some l3) else (if l3 ≤ 0 then (fm_X5_runStops_b79 (fm_X5_runStops_b7 n) l1 l2 l3 H) else ((hp_gR H l1 5 0).bind fun v36 => (hp_ald H v36 (l3 - 1)).bind fun v42 => (hp_gR H l1 5 0).bind fun v44 => (hp_ald H v44 l3).bind fun v48 => if (fm_X0_between v42 v48) < 0 then (some l3) else (if ((ji_ushr l2 (fm_X0_between v42 v48)) &&& 1) = 0 then (some l3) else (fm_X5_runStops_b79 (fm_X5_runStops_b7 n) l1 (l2 &&& ((ji_shl 1 (fm_X0_between v42 v48)) ^^^ (-1))) l3 H)))))
def fm_X5_runStops (a0 : Nat) (a1 : Nat) (H : qx_H) : Option Int32 := (hp_gI H a0 3 9).bind fun v1 => fm_X5_runStops_b7 5000 a1 v1 0 H
theorem tb_X5_runStops_79 {st : xT} {d : Nat} {R : Option Value → qx_H → Prop} (hd : 1 ≤ d) {r : Int32} {H : qx_H} (k7 : Nat → Int32 → Int32 → qx_H → Option Int32) (hk7 : ∀ (l1 : Nat) (l2 : Int32) (l3 : Int32) (z0 : Option Value) (hz0 : qx_ns z0 = true) (z4 : Option Value) (hz4 : qx_ns z4 = true), k7 l1 l2 l3 H = some r → qx_V (xE st d) R (xc52 st) (7, [z0, some (.ref l1), some (.int l2), some (.int l3), z4], [], H)) (hR : R (some (.int r)) H) (l1 : Nat) (l2 : Int32) (l3 : Int32) (z0 : Option Value) (hz0 : qx_ns z0 = true) (z4 : Option Value) (hz4 : qx_ns z4 = true) (h : fm_X5_runStops_b79 k7 l1 l2 l3 H = some r) : qx_V (xE st d) R (xc52 st) (79, [z0, some (.ref l1), some (.int l2), some (.int l3), z4], [], H) := by
  unfold fm_X5_runStops_b79 at h
  refine qv_run 2 (σ := (7, [z0, some (.ref l1), some (.int l2), some (.int (l3 + 1)), z4], [], H)) rfl ?_
  exact hk7 l1 l2 (l3 + 1) z0 hz0 z4 hz4 h
theorem tb_X5_runStops_7 {st : xT} {d : Nat} {R : Option Value → qx_H → Prop} (hd : 1 ≤ d) {r : Int32} {H : qx_H} (hR : R (some (.int r)) H) : ∀ (n : Nat) (l1 : Nat) (l2 : Int32) (l3 : Int32) (z0 : Option Value) (hz0 : qx_ns z0 = true) (z4 : Option Value) (hz4 : qx_ns z4 = true) (h : fm_X5_runStops_b7 n l1 l2 l3 H = some r), qx_V (xE st d) R (xc52 st) (7, [z0, some (.ref l1), some (.int l2), some (.int l3), z4], [], H) := by
  intro n
  induction n with
  | zero => intro l1 l2 l3 z0 hz0 z4 hz4 h; exact nomatch (show (none : Option Int32) = some r from h)
  | succ n ih =>
    intro l1 l2 l3 z0 hz0 z4 hz4 h
    unfold fm_X5_runStops_b7 at h
    refine qv_run 2 (σ := (9, [z0, some (.ref l1), some (.int l2), some (.int l3), z4], [.ref l1, .int l3], H)) rfl ?_
    obtain ⟨v9, e9, h⟩ := qv_bind h
    refine qv_getI rfl e9 ?_
    refine qv_br (c := v9 ≤ l3) (a := (85, [z0, some (.ref l1), some (.int l2), some (.int l3), z4], [], H)) (b := (15, [z0, some (.ref l1), some (.int l2), some (.int l3), z4], [], H)) 1 rfl (fun c12 => ?_) (fun c12 => ?_)
    · replace h := qv_pos c12 h
      refine qv_run 1 (σ := (86, [z0, some (.ref l1), some (.int l2), some (.int l3), z4], [.ref l1], H)) rfl ?_
      obtain ⟨v86, e86, h⟩ := qv_bind h
      refine qv_getI rfl e86 ?_
      cases h
      exact qv_reti rfl hR
    · replace h := qv_neg c12 h
      refine qv_run 1 (σ := (16, [z0, some (.ref l1), some (.int l2), some (.int l3), z4], [.ref l1], H)) rfl ?_
      obtain ⟨v16, e16, h⟩ := qv_bind h
      refine qv_getR rfl e16 ?_
      refine qv_run 1 (σ := (20, [z0, some (.ref l1), some (.int l2), some (.int l3), z4], [.int l3, .ref v16], H)) rfl ?_
      obtain ⟨v20, e20, h⟩ := qv_bind h
      refine qv_ald rfl e20 ?_
      refine qv_run 1 (σ := (23, [z0, some (.ref l1), some (.int l2), some (.int l3), z4], [.int 20, .int v20], H)) rfl ?_
      refine qv_call [.int v20, .int 20] rfl rfl rfl (Nat.le_of_ble_eq_true rfl) (th_X10_isBelow (by omega) rfl) rfl ?_
      refine qv_br (c := (fm_X10_isBelow v20 20) = 0) (a := (29, [z0, some (.ref l1), some (.int l2), some (.int l3), z4], [], H)) (b := (31, [z0, some (.ref l1), some (.int l2), some (.int l3), z4], [], H)) 1 rfl (fun c26 => ?_) (fun c26 => ?_)
      · replace h := qv_pos c26 h
        refine qv_run 1 (σ := (30, [z0, some (.ref l1), some (.int l2), some (.int l3), z4], [.int l3], H)) rfl ?_
        cases h
        exact qv_reti rfl hR
      · replace h := qv_neg c26 h
        refine qv_br (c := l3 ≤ 0) (a := (79, [z0, some (.ref l1), some (.int l2), some (.int l3), z4], [], H)) (b := (35, [z0, some (.ref l1), some (.int l2), some (.int l3), z4], [], H)) 2 rfl (fun c32 => ?_) (fun c32 => ?_)
        · replace h := qv_pos c32 h
          exact tb_X5_runStops_79 hd _ ih hR l1 l2 l3 z0 hz0 z4 hz4 h
        · replace h := qv_neg c32 h
          refine qv_run 1 (σ := (36, [z0, some (.ref l1), some (.int l2), some (.int l3), z4], [.ref l1], H)) rfl ?_
          obtain ⟨v36, e36, h⟩ := qv_bind h
          refine qv_getR rfl e36 ?_
          refine qv_run 3 (σ := (42, [z0, some (.ref l1), some (.int l2), some (.int l3), z4], [.int (l3 - 1), .ref v36], H)) rfl ?_
          obtain ⟨v42, e42, h⟩ := qv_bind h
          refine qv_ald rfl e42 ?_
          refine qv_run 1 (σ := (44, [z0, some (.ref l1), some (.int l2), some (.int l3), z4], [.ref l1, .int v42], H)) rfl ?_
          obtain ⟨v44, e44, h⟩ := qv_bind h
          refine qv_getR rfl e44 ?_
          refine qv_run 1 (σ := (48, [z0, some (.ref l1), some (.int l2), some (.int l3), z4], [.int l3, .ref v44, .int v42], H)) rfl ?_
          obtain ⟨v48, e48, h⟩ := qv_bind h
          refine qv_ald rfl e48 ?_
          refine qv_call [.int v42, .int v48] rfl rfl rfl (Nat.le_of_ble_eq_true rfl) (th_X0_between (by omega) rfl) rfl ?_
          refine qv_br (c := (fm_X0_between v42 v48) < 0) (a := (68, [z0, some (.ref l1), some (.int l2), some (.int l3), some (.int (fm_X0_between v42 v48))], [], H)) (b := (59, [z0, some (.ref l1), some (.int l2), some (.int l3), some (.int (fm_X0_between v42 v48))], [], H)) 3 rfl (fun c56 => ?_) (fun c56 => ?_)
          · replace h := qv_pos c56 h
            refine qv_run 1 (σ := (69, [z0, some (.ref l1), some (.int l2), some (.int l3), some (.int (fm_X0_between v42 v48))], [.int l3], H)) rfl ?_
            cases h
            exact qv_reti rfl hR
          · replace h := qv_neg c56 h
            refine qv_br (c := ((ji_ushr l2 (fm_X0_between v42 v48)) &&& 1) = 0) (a := (68, [z0, some (.ref l1), some (.int l2), some (.int l3), some (.int (fm_X0_between v42 v48))], [], H)) (b := (70, [z0, some (.ref l1), some (.int l2), some (.int l3), some (.int (fm_X0_between v42 v48))], [], H)) 6 rfl (fun c65 => ?_) (fun c65 => ?_)
            · replace h := qv_pos c65 h
              refine qv_run 1 (σ := (69, [z0, some (.ref l1), some (.int l2), some (.int l3), some (.int (fm_X0_between v42 v48))], [.int l3], H)) rfl ?_
              cases h
              exact qv_reti rfl hR
            · replace h := qv_neg c65 h
              refine qv_run 8 (σ := (79, [z0, some (.ref l1), some (.int (l2 &&& ((ji_shl 1 (fm_X0_between v42 v48)) ^^^ (-1)))), some (.int l3), some (.int (fm_X0_between v42 v48))], [], H)) rfl ?_
              exact tb_X5_runStops_79 hd _ ih hR l1 (l2 &&& ((ji_shl 1 (fm_X0_between v42 v48)) ^^^ (-1))) l3 z0 hz0 (some (.int (fm_X0_between v42 v48))) rfl h
theorem tb_X5_runStops_0 {st : xT} {d : Nat} {R : Option Value → qx_H → Prop} (hd : 1 ≤ d) {r : Int32} {H : qx_H} (hR : R (some (.int r)) H) (a0 : Nat) (a1 : Nat) (h : fm_X5_runStops a0 a1 H = some r) : qx_V (xE st d) R (xc52 st) (0, [some (.ref a0), some (.ref a1), none, none, none], [], H) := by
  unfold fm_X5_runStops at h
  refine qv_run 1 (σ := (1, [some (.ref a0), some (.ref a1), none, none, none], [.ref a0], H)) rfl ?_
  obtain ⟨v1, e1, h⟩ := qv_bind h
  refine qv_getI rfl e1 ?_
  refine qv_run 3 (σ := (7, [some (.ref a0), some (.ref a1), some (.int v1), some (.int 0), none], [], H)) rfl ?_
  exact tb_X5_runStops_7 hd hR 5000 a1 v1 0 (some (.ref a0)) rfl none rfl h
theorem th_X5_runStops {st : xT} {d : Nat} (hd : 2 ≤ d) {a0 : Nat} {a1 : Nat} {r : Int32} {H : qx_H} (h : fm_X5_runStops a0 a1 H = some r) : xE st d 52 [.ref a0, .ref a1] H (some (.int r)) H := by
  obtain ⟨d, rfl⟩ : ∃ d', d = d' + 1 := ⟨d - 1, by omega⟩
  exact xE_of (xe52 st) xl52 (Nat.le_of_ble_eq_true rfl) (ls := [some (.ref a0), some (.ref a1), none, none, none]) rfl (tb_X5_runStops_0 (by omega) ⟨rfl, rfl⟩ a0 a1 h)
def fm_X5_ellsOfRun_b47 (k4 : Nat → Nat → Int32 → Int32 → qx_H → Option Int32) (l0 : Nat) (l1 : Nat) (l3 : Int32) (t0 : Int32) (t1 : Int32) (H : qx_H) : Option Int32 := k4 l0 l1 (t1 + t0) (l3 + 1) H
def fm_X5_ellsOfRun_b4 : Nat → Nat → Nat → Int32 → Int32 → qx_H → Option Int32
  | 0, _, _, _, _, _ => none
  | n + 1, l0, l1, l2, l3, H => (hp_gI H l1 5 2).bind fun v6 => if v6 ≤ l3 then (some l2) else ((hp_gR H l1 5 0).bind fun v13 => (hp_ald H v13 l3).bind fun v17 => if (fm_X10_isBelow v17 20) = 0 then (fm_X5_ellsOfRun_b47 (fm_X5_ellsOfRun_b4 n) l0 l1 l3 0 l2 H) else ((hp_gR H l0 3 0).bind fun v33 => (hp_ald H v33 v17).bind fun v38 => fm_X5_ellsOfRun_b47 (fm_X5_ellsOfRun_b4 n) l0 l1 l3 (2 + (fm_X2_takesOf v38)) l2 H))
def fm_X5_ellsOfRun (a0 : Nat) (a1 : Nat) (H : qx_H) : Option Int32 := fm_X5_ellsOfRun_b4 5000 a0 a1 0 1 H
theorem tb_X5_ellsOfRun_47 {st : xT} {d : Nat} {R : Option Value → qx_H → Prop} (hd : 1 ≤ d) {r : Int32} {H : qx_H} (k4 : Nat → Nat → Int32 → Int32 → qx_H → Option Int32) (hk4 : ∀ (l0 : Nat) (l1 : Nat) (l2 : Int32) (l3 : Int32) (z4 : Option Value) (hz4 : qx_ns z4 = true), k4 l0 l1 l2 l3 H = some r → qx_V (xE st d) R (xc53 st) (4, [some (.ref l0), some (.ref l1), some (.int l2), some (.int l3), z4], [], H)) (hR : R (some (.int r)) H) (l0 : Nat) (l1 : Nat) (l3 : Int32) (t0 : Int32) (t1 : Int32) (z2 : Option Value) (hz2 : qx_ns z2 = true) (z4 : Option Value) (hz4 : qx_ns z4 = true) (h : fm_X5_ellsOfRun_b47 k4 l0 l1 l3 t0 t1 H = some r) : qx_V (xE st d) R (xc53 st) (47, [some (.ref l0), some (.ref l1), z2, some (.int l3), z4], [.int t0, .int t1], H) := by
  unfold fm_X5_ellsOfRun_b47 at h
  refine qv_run 4 (σ := (4, [some (.ref l0), some (.ref l1), some (.int (t1 + t0)), some (.int (l3 + 1)), z4], [], H)) rfl ?_
  exact hk4 l0 l1 (t1 + t0) (l3 + 1) z4 hz4 h
theorem tb_X5_ellsOfRun_4 {st : xT} {d : Nat} {R : Option Value → qx_H → Prop} (hd : 1 ≤ d) {r : Int32} {H : qx_H} (hR : R (some (.int r)) H) : ∀ (n : Nat) (l0 : Nat) (l1 : Nat) (l2 : Int32) (l3 : Int32) (z4 : Option Value) (hz4 : qx_ns z4 = true) (h : fm_X5_ellsOfRun_b4 n l0 l1 l2 l3 H = some r), qx_V (xE st d) R (xc53 st) (4, [some (.ref l0), some (.ref l1), some (.int l2), some (.int l3), z4], [], H) := by
  intro n
  induction n with
  | zero => intro l0 l1 l2 l3 z4 hz4 h; exact nomatch (show (none : Option Int32) = some r from h)
  | succ n ih =>
    intro l0 l1 l2 l3 z4 hz4 h
    unfold fm_X5_ellsOfRun_b4 at h
    refine qv_run 2 (σ := (6, [some (.ref l0), some (.ref l1), some (.int l2), some (.int l3), z4], [.ref l1, .int l3], H)) rfl ?_
    obtain ⟨v6, e6, h⟩ := qv_bind h
    refine qv_getI rfl e6 ?_
    refine qv_br (c := v6 ≤ l3) (a := (55, [some (.ref l0), some (.ref l1), some (.int l2), some (.int l3), z4], [], H)) (b := (12, [some (.ref l0), some (.ref l1), some (.int l2), some (.int l3), z4], [], H)) 1 rfl (fun c9 => ?_) (fun c9 => ?_)
    · replace h := qv_pos c9 h
      refine qv_run 1 (σ := (56, [some (.ref l0), some (.ref l1), some (.int l2), some (.int l3), z4], [.int l2], H)) rfl ?_
      cases h
      exact qv_reti rfl hR
    · replace h := qv_neg c9 h
      refine qv_run 1 (σ := (13, [some (.ref l0), some (.ref l1), some (.int l2), some (.int l3), z4], [.ref l1], H)) rfl ?_
      obtain ⟨v13, e13, h⟩ := qv_bind h
      refine qv_getR rfl e13 ?_
      refine qv_run 1 (σ := (17, [some (.ref l0), some (.ref l1), some (.int l2), some (.int l3), z4], [.int l3, .ref v13], H)) rfl ?_
      obtain ⟨v17, e17, h⟩ := qv_bind h
      refine qv_ald rfl e17 ?_
      refine qv_run 4 (σ := (25, [some (.ref l0), some (.ref l1), some (.int l2), some (.int l3), some (.int v17)], [.int 20, .int v17, .int l2], H)) rfl ?_
      refine qv_call [.int v17, .int 20] rfl rfl rfl (Nat.le_of_ble_eq_true rfl) (th_X10_isBelow (by omega) rfl) rfl ?_
      refine qv_br (c := (fm_X10_isBelow v17 20) = 0) (a := (46, [some (.ref l0), some (.ref l1), some (.int l2), some (.int l3), some (.int v17)], [.int l2], H)) (b := (31, [some (.ref l0), some (.ref l1), some (.int l2), some (.int l3), some (.int v17)], [.int l2], H)) 1 rfl (fun c28 => ?_) (fun c28 => ?_)
      · replace h := qv_pos c28 h
        refine qv_run 1 (σ := (47, [some (.ref l0), some (.ref l1), some (.int l2), some (.int l3), some (.int v17)], [.int 0, .int l2], H)) rfl ?_
        exact tb_X5_ellsOfRun_47 hd _ ih hR l0 l1 l3 0 l2 (some (.int l2)) rfl (some (.int v17)) rfl h
      · replace h := qv_neg c28 h
        refine qv_run 2 (σ := (33, [some (.ref l0), some (.ref l1), some (.int l2), some (.int l3), some (.int v17)], [.ref l0, .int 2, .int l2], H)) rfl ?_
        obtain ⟨v33, e33, h⟩ := qv_bind h
        refine qv_getR rfl e33 ?_
        refine qv_run 1 (σ := (38, [some (.ref l0), some (.ref l1), some (.int l2), some (.int l3), some (.int v17)], [.int v17, .ref v33, .int 2, .int l2], H)) rfl ?_
        obtain ⟨v38, e38, h⟩ := qv_bind h
        refine qv_ald rfl e38 ?_
        refine qv_call [.int v38] rfl rfl rfl (Nat.le_of_ble_eq_true rfl) (th_X2_takesOf (by omega) rfl) rfl ?_
        refine qv_run 2 (σ := (47, [some (.ref l0), some (.ref l1), some (.int l2), some (.int l3), some (.int v17)], [.int (2 + (fm_X2_takesOf v38)), .int l2], H)) rfl ?_
        exact tb_X5_ellsOfRun_47 hd _ ih hR l0 l1 l3 (2 + (fm_X2_takesOf v38)) l2 (some (.int l2)) rfl (some (.int v17)) rfl h
theorem tb_X5_ellsOfRun_0 {st : xT} {d : Nat} {R : Option Value → qx_H → Prop} (hd : 1 ≤ d) {r : Int32} {H : qx_H} (hR : R (some (.int r)) H) (a0 : Nat) (a1 : Nat) (h : fm_X5_ellsOfRun a0 a1 H = some r) : qx_V (xE st d) R (xc53 st) (0, [some (.ref a0), some (.ref a1), none, none, none], [], H) := by
  unfold fm_X5_ellsOfRun at h
  refine qv_run 4 (σ := (4, [some (.ref a0), some (.ref a1), some (.int 0), some (.int 1), none], [], H)) rfl ?_
  exact tb_X5_ellsOfRun_4 hd hR 5000 a0 a1 0 1 none rfl h
theorem th_X5_ellsOfRun {st : xT} {d : Nat} (hd : 2 ≤ d) {a0 : Nat} {a1 : Nat} {r : Int32} {H : qx_H} (h : fm_X5_ellsOfRun a0 a1 H = some r) : xE st d 53 [.ref a0, .ref a1] H (some (.int r)) H := by
  obtain ⟨d, rfl⟩ : ∃ d', d = d' + 1 := ⟨d - 1, by omega⟩
  exact xE_of (xe53 st) xl53 (Nat.le_of_ble_eq_true rfl) (ls := [some (.ref a0), some (.ref a1), none, none, none]) rfl (tb_X5_ellsOfRun_0 (by omega) ⟨rfl, rfl⟩ a0 a1 h)
def fm_X5_mendRun_b51 (k2 : Nat → Nat → Int32 → Int32 → qx_H → Option qx_H) (l0 : Nat) (l1 : Nat) (l2 : Int32) (l3 : Int32) (H : qx_H) : Option qx_H := k2 l0 l1 l2 (l3 + 1) H
def fm_X5_mendRun_b2 : Nat → Nat → Nat → Int32 → Int32 → qx_H → Option qx_H
  | 0, _, _, _, _, _ => none
  | n + 1, l0, l1, l2, l3, H => (hp_gI H l1 5 2).bind fun v4 => if v4 ≤ l3 then (some H) else ((hp_gR H l1 5 0).bind fun v11 => (hp_ald H v11 (l3 - 1)).bind fun v17 => (hp_gR H l1 5 0).bind fun v19 => (hp_ald H v19 l3).bind fun v23 => if (fm_X0_between v17 v23) < 0 then (fm_X5_mendRun_b51 (fm_X5_mendRun_b2 n) l0 l1 l2 l3 H) else (if hp_is H l0 3 = true then ((fm_X5_renew l0 (fm_X0_between v17 v23) H).bind fun H37 => (hp_gR H37 l1 5 0).bind fun v42 => (hp_ald H37 v42 l3).bind fun v46 => if hp_is H37 l0 3 = true then ((fm_X5_tieAnew l0 v46 l2 H37).bind fun H48 => fm_X5_mendRun_b51 (fm_X5_mendRun_b2 n) l0 l1 l2 l3 H48) else none) else none))
def fm_X5_mendRun (a0 : Nat) (a1 : Nat) (a2 : Int32) (H : qx_H) : Option qx_H := fm_X5_mendRun_b2 5000 a0 a1 a2 1 H
theorem tb_X5_mendRun_51 {st : xT} {d : Nat} {R : Option Value → qx_H → Prop} (hd : 1 ≤ d) {H' : qx_H} (k2 : Nat → Nat → Int32 → Int32 → qx_H → Option qx_H) (hk2 : ∀ (l0 : Nat) (l1 : Nat) (l2 : Int32) (l3 : Int32) (z4 : Option Value) (hz4 : qx_ns z4 = true) (H : qx_H), k2 l0 l1 l2 l3 H = some H' → qx_V (xE st d) R (xc54 st) (2, [some (.ref l0), some (.ref l1), some (.int l2), some (.int l3), z4], [], H)) (hR : R (none) H') (l0 : Nat) (l1 : Nat) (l2 : Int32) (l3 : Int32) (z4 : Option Value) (hz4 : qx_ns z4 = true) (H : qx_H) (h : fm_X5_mendRun_b51 k2 l0 l1 l2 l3 H = some H') : qx_V (xE st d) R (xc54 st) (51, [some (.ref l0), some (.ref l1), some (.int l2), some (.int l3), z4], [], H) := by
  unfold fm_X5_mendRun_b51 at h
  refine qv_run 2 (σ := (2, [some (.ref l0), some (.ref l1), some (.int l2), some (.int (l3 + 1)), z4], [], H)) rfl ?_
  exact hk2 l0 l1 l2 (l3 + 1) z4 hz4 H h
theorem tlb_X5_mendRun_51 {H' : qx_H} (k2 : Nat → Nat → Int32 → Int32 → qx_H → Option qx_H) (hk2 : ∀ (l0 : Nat) (l1 : Nat) (l2 : Int32) (l3 : Int32) (H : qx_H), k2 l0 l1 l2 l3 H = some H' → H'.length = H.length) (l0 : Nat) (l1 : Nat) (l2 : Int32) (l3 : Int32) (H : qx_H) (h : fm_X5_mendRun_b51 k2 l0 l1 l2 l3 H = some H') : H'.length = H.length := by
  unfold fm_X5_mendRun_b51 at h
  exact hk2 l0 l1 l2 (l3 + 1) H h
theorem tb_X5_mendRun_2 {st : xT} {d : Nat} {R : Option Value → qx_H → Prop} (hd : 1 ≤ d) {H' : qx_H} (hR : R (none) H') : ∀ (n : Nat) (l0 : Nat) (l1 : Nat) (l2 : Int32) (l3 : Int32) (z4 : Option Value) (hz4 : qx_ns z4 = true) (H : qx_H) (h : fm_X5_mendRun_b2 n l0 l1 l2 l3 H = some H'), qx_V (xE st d) R (xc54 st) (2, [some (.ref l0), some (.ref l1), some (.int l2), some (.int l3), z4], [], H) := by
  intro n
  induction n with
  | zero => intro l0 l1 l2 l3 z4 hz4 H h; exact nomatch (show (none : Option qx_H) = some H' from h)
  | succ n ih =>
    intro l0 l1 l2 l3 z4 hz4 H h
    unfold fm_X5_mendRun_b2 at h
    refine qv_run 2 (σ := (4, [some (.ref l0), some (.ref l1), some (.int l2), some (.int l3), z4], [.ref l1, .int l3], H)) rfl ?_
    obtain ⟨v4, e4, h⟩ := qv_bind h
    refine qv_getI rfl e4 ?_
    refine qv_br (c := v4 ≤ l3) (a := (57, [some (.ref l0), some (.ref l1), some (.int l2), some (.int l3), z4], [], H)) (b := (10, [some (.ref l0), some (.ref l1), some (.int l2), some (.int l3), z4], [], H)) 1 rfl (fun c7 => ?_) (fun c7 => ?_)
    · replace h := qv_pos c7 h
      cases h
      exact qv_ret0 rfl hR
    · replace h := qv_neg c7 h
      refine qv_run 1 (σ := (11, [some (.ref l0), some (.ref l1), some (.int l2), some (.int l3), z4], [.ref l1], H)) rfl ?_
      obtain ⟨v11, e11, h⟩ := qv_bind h
      refine qv_getR rfl e11 ?_
      refine qv_run 3 (σ := (17, [some (.ref l0), some (.ref l1), some (.int l2), some (.int l3), z4], [.int (l3 - 1), .ref v11], H)) rfl ?_
      obtain ⟨v17, e17, h⟩ := qv_bind h
      refine qv_ald rfl e17 ?_
      refine qv_run 1 (σ := (19, [some (.ref l0), some (.ref l1), some (.int l2), some (.int l3), z4], [.ref l1, .int v17], H)) rfl ?_
      obtain ⟨v19, e19, h⟩ := qv_bind h
      refine qv_getR rfl e19 ?_
      refine qv_run 1 (σ := (23, [some (.ref l0), some (.ref l1), some (.int l2), some (.int l3), z4], [.int l3, .ref v19, .int v17], H)) rfl ?_
      obtain ⟨v23, e23, h⟩ := qv_bind h
      refine qv_ald rfl e23 ?_
      refine qv_call [.int v17, .int v23] rfl rfl rfl (Nat.le_of_ble_eq_true rfl) (th_X0_between (by omega) rfl) rfl ?_
      refine qv_br (c := (fm_X0_between v17 v23) < 0) (a := (51, [some (.ref l0), some (.ref l1), some (.int l2), some (.int l3), some (.int (fm_X0_between v17 v23))], [], H)) (b := (34, [some (.ref l0), some (.ref l1), some (.int l2), some (.int l3), some (.int (fm_X0_between v17 v23))], [], H)) 3 rfl (fun c31 => ?_) (fun c31 => ?_)
      · replace h := qv_pos c31 h
        exact tb_X5_mendRun_51 hd _ ih hR l0 l1 l2 l3 (some (.int (fm_X0_between v17 v23))) rfl H h
      · replace h := qv_neg c31 h
        refine qv_run 2 (σ := (37, [some (.ref l0), some (.ref l1), some (.int l2), some (.int l3), some (.int (fm_X0_between v17 v23))], [.int (fm_X0_between v17 v23), .ref l0], H)) rfl ?_
        obtain ⟨g37, h⟩ := qv_guard h
        obtain ⟨H37, e37, h⟩ := qv_bind h
        refine qv_callV [.int (fm_X0_between v17 v23)] rfl rfl rfl (Nat.le_of_ble_eq_true rfl) g37 (th_X5_renew (by omega) e37) (tl_X5_renew e37) ?_
        refine qv_run 2 (σ := (42, [some (.ref l0), some (.ref l1), some (.int l2), some (.int l3), some (.int (fm_X0_between v17 v23))], [.ref l1, .ref l0], H37)) rfl ?_
        obtain ⟨v42, e42, h⟩ := qv_bind h
        refine qv_getR rfl e42 ?_
        refine qv_run 1 (σ := (46, [some (.ref l0), some (.ref l1), some (.int l2), some (.int l3), some (.int (fm_X0_between v17 v23))], [.int l3, .ref v42, .ref l0], H37)) rfl ?_
        obtain ⟨v46, e46, h⟩ := qv_bind h
        refine qv_ald rfl e46 ?_
        refine qv_run 1 (σ := (48, [some (.ref l0), some (.ref l1), some (.int l2), some (.int l3), some (.int (fm_X0_between v17 v23))], [.int l2, .int v46, .ref l0], H37)) rfl ?_
        obtain ⟨g48, h⟩ := qv_guard h
        obtain ⟨H48, e48, h⟩ := qv_bind h
        refine qv_callV [.int v46, .int l2] rfl rfl rfl (Nat.le_of_ble_eq_true rfl) g48 (th_X5_tieAnew (by omega) e48) (tl_X5_tieAnew e48) ?_
        exact tb_X5_mendRun_51 hd _ ih hR l0 l1 l2 l3 (some (.int (fm_X0_between v17 v23))) rfl H48 h
theorem tlb_X5_mendRun_2 {H' : qx_H} : ∀ (n : Nat) (l0 : Nat) (l1 : Nat) (l2 : Int32) (l3 : Int32) (H : qx_H) (h : fm_X5_mendRun_b2 n l0 l1 l2 l3 H = some H'), H'.length = H.length := by
  intro n
  induction n with
  | zero => intro l0 l1 l2 l3 H h; exact nomatch (show (none : Option qx_H) = some H' from h)
  | succ n ih =>
    intro l0 l1 l2 l3 H h
    unfold fm_X5_mendRun_b2 at h
    obtain ⟨v4, e4, h⟩ := qv_bind h
    by_cases c7 : v4 ≤ l3
    · replace h := qv_pos c7 h
      cases h
      rfl
    · replace h := qv_neg c7 h
      obtain ⟨v11, e11, h⟩ := qv_bind h
      obtain ⟨v17, e17, h⟩ := qv_bind h
      obtain ⟨v19, e19, h⟩ := qv_bind h
      obtain ⟨v23, e23, h⟩ := qv_bind h
      by_cases c31 : (fm_X0_between v17 v23) < 0
      · replace h := qv_pos c31 h
        exact tlb_X5_mendRun_51 _ ih l0 l1 l2 l3 H h
      · replace h := qv_neg c31 h
        obtain ⟨g37, h⟩ := qv_guard h
        obtain ⟨H37, e37, h⟩ := qv_bind h
        have q_H37 := tl_X5_renew e37
        obtain ⟨v42, e42, h⟩ := qv_bind h
        obtain ⟨v46, e46, h⟩ := qv_bind h
        obtain ⟨g48, h⟩ := qv_guard h
        obtain ⟨H48, e48, h⟩ := qv_bind h
        have q_H48 := tl_X5_tieAnew e48
        have q_end := tlb_X5_mendRun_51 _ ih l0 l1 l2 l3 H48 h
        omega
theorem tb_X5_mendRun_0 {st : xT} {d : Nat} {R : Option Value → qx_H → Prop} (hd : 1 ≤ d) {H' : qx_H} (hR : R (none) H') (a0 : Nat) (a1 : Nat) (a2 : Int32) (H : qx_H) (h : fm_X5_mendRun a0 a1 a2 H = some H') : qx_V (xE st d) R (xc54 st) (0, [some (.ref a0), some (.ref a1), some (.int a2), none, none], [], H) := by
  unfold fm_X5_mendRun at h
  refine qv_run 2 (σ := (2, [some (.ref a0), some (.ref a1), some (.int a2), some (.int 1), none], [], H)) rfl ?_
  exact tb_X5_mendRun_2 hd hR 5000 a0 a1 a2 1 none rfl H h
theorem tlb_X5_mendRun_0 {H' : qx_H} (a0 : Nat) (a1 : Nat) (a2 : Int32) (H : qx_H) (h : fm_X5_mendRun a0 a1 a2 H = some H') : H'.length = H.length := by
  unfold fm_X5_mendRun at h
  exact tlb_X5_mendRun_2 5000 a0 a1 a2 1 H h
theorem th_X5_mendRun {st : xT} {d : Nat} (hd : 2 ≤ d) {a0 : Nat} {a1 : Nat} {a2 : Int32} {H : qx_H} {H' : qx_H} (h : fm_X5_mendRun a0 a1 a2 H = some H') : xE st d 54 [.ref a0, .ref a1, .int a2] H (none) H' := by
  obtain ⟨d, rfl⟩ : ∃ d', d = d' + 1 := ⟨d - 1, by omega⟩
  exact xE_of (xe54 st) xl54 (Nat.le_of_ble_eq_true rfl) (ls := [some (.ref a0), some (.ref a1), some (.int a2), none, none]) rfl (tb_X5_mendRun_0 (by omega) ⟨rfl, rfl⟩ a0 a1 a2 H h)
theorem tl_X5_mendRun {a0 : Nat} {a1 : Nat} {a2 : Int32} {H : qx_H} {H' : qx_H} (h : fm_X5_mendRun a0 a1 a2 H = some H') : H'.length = H.length := tlb_X5_mendRun_0 a0 a1 a2 H h
def fm_X6_init_b61 : Nat → Nat → Int32 → qx_H → Option qx_H
  | 0, _, _, _ => none
  | n + 1, l0, l1, H => if 3 ≤ l1 then (some H) else ((hp_gR H l0 4 1).bind fun v67 => (hp_ast H v67 l1 5).bind fun H72 => fm_X6_init_b61 n l0 (l1 + 1) H72)
def fm_X6_init (a0 : Nat) (H : qx_H) : Option qx_H := if qx_ok [some (.ref a0), none] [.ref a0] H = true then (if hp_is (H ++ ([.inr (3, [.null, .null, .null, .null, .null, .null, .null, .null, .null, .int 0, .int 0])] : qx_H)) H.length 3 = true then (if qx_okl (H ++ ([.inr (3, [.null, .null, .null, .null, .null, .null, .null, .null, .null, .int 0, .int 0])] : qx_H)).length [some (.ref a0), none] [.ref H.length, .ref a0] = true then ((fm_X5_init H.length (H ++ ([.inr (3, [.null, .null, .null, .null, .null, .null, .null, .null, .null, .int 0, .int 0])] : qx_H))).bind fun H9 => (hp_put H9 a0 4 0 (.ref H.length)).bind fun H12 => if ¬ ((3 : Int32) < 0 ∨ 100000 < Int32.toNatClampNeg 3) ∧ qx_ok [some (.ref a0), none] [.ref a0] H12 = true then ((hp_put (H12 ++ ([.inl (Int32.toNatClampNeg 3, .inl fun _ => 0)] : qx_H)) a0 4 1 (.ref H12.length)).bind fun H19 => if ¬ ((60 : Int32) < 0 ∨ 100000 < Int32.toNatClampNeg 60) ∧ qx_ok [some (.ref a0), none] [.ref a0] H19 = true then ((hp_put (H19 ++ ([.inl (Int32.toNatClampNeg 60, .inl fun _ => 0)] : qx_H)) a0 4 2 (.ref H19.length)).bind fun H27 => if ¬ ((24 : Int32) < 0 ∨ 100000 < Int32.toNatClampNeg 24) ∧ qx_ok [some (.ref a0), none] [.ref a0] H27 = true then ((hp_put (H27 ++ ([.inl (Int32.toNatClampNeg 24, .inl fun _ => 0)] : qx_H)) a0 4 3 (.ref H27.length)).bind fun H35 => (hp_put H35 a0 4 4 (.int 0)).bind fun H40 => (hp_put H40 a0 4 5 (.int 0)).bind fun H45 => (hp_put H45 a0 4 6 (.int 100)).bind fun H51 => (hp_put H51 a0 4 7 (.int 1)).bind fun H56 => fm_X6_init_b61 5000 a0 0 H56) else none) else none) else none) else none) else none) else none
theorem tb_X6_init_61 {st : xT} {d : Nat} {R : Option Value → qx_H → Prop} (hd : 2 ≤ d) {H' : qx_H} (hR : R (none) H') : ∀ (n : Nat) (l0 : Nat) (l1 : Int32) (H : qx_H) (h : fm_X6_init_b61 n l0 l1 H = some H'), qx_V (xE st d) R (xc55 st) (61, [some (.ref l0), some (.int l1)], [], H) := by
  intro n
  induction n with
  | zero => intro l0 l1 H h; exact nomatch (show (none : Option qx_H) = some H' from h)
  | succ n ih =>
    intro l0 l1 H h
    unfold fm_X6_init_b61 at h
    refine qv_br (c := 3 ≤ l1) (a := (79, [some (.ref l0), some (.int l1)], [], H)) (b := (66, [some (.ref l0), some (.int l1)], [], H)) 3 rfl (fun c63 => ?_) (fun c63 => ?_)
    · replace h := qv_pos c63 h
      cases h
      exact qv_ret0 rfl hR
    · replace h := qv_neg c63 h
      refine qv_run 1 (σ := (67, [some (.ref l0), some (.int l1)], [.ref l0], H)) rfl ?_
      obtain ⟨v67, e67, h⟩ := qv_bind h
      refine qv_getR rfl e67 ?_
      refine qv_run 2 (σ := (72, [some (.ref l0), some (.int l1)], [.int 5, .int l1, .ref v67], H)) rfl ?_
      obtain ⟨H72, e72, h⟩ := qv_bind h
      refine qv_ast rfl e72 ?_
      refine qv_run 2 (σ := (61, [some (.ref l0), some (.int (l1 + 1))], [], H72)) rfl ?_
      exact ih l0 (l1 + 1) H72 h
theorem tb_X6_init_0 {st : xT} {d : Nat} {R : Option Value → qx_H → Prop} (hd : 2 ≤ d) {H' : qx_H} (hR : R (none) H') (a0 : Nat) (H : qx_H) (h : fm_X6_init a0 H = some H') : qx_V (xE st d) R (xc55 st) (0, [some (.ref a0), none], [], H) := by
  unfold fm_X6_init at h
  refine qv_run 3 (σ := (5, [some (.ref a0), none], [.ref a0], H)) rfl ?_
  obtain ⟨e5, h⟩ := qv_guard h
  refine qv_new rfl e5 ?_
  refine qv_run 1 (σ := (9, [some (.ref a0), none], [.ref H.length, .ref H.length, .ref a0], (H ++ ([.inr (3, [.null, .null, .null, .null, .null, .null, .null, .null, .null, .int 0, .int 0])] : qx_H)))) rfl ?_
  obtain ⟨g9, h⟩ := qv_guard h
  obtain ⟨g9l, h⟩ := qv_guard h
  obtain ⟨H9, e9, h⟩ := qv_bind h
  refine qv_callA [] rfl rfl rfl (Nat.le_of_ble_eq_true rfl) g9 (th_X5_init (by omega) e9) g9l ?_
  obtain ⟨H12, e12, h⟩ := qv_bind h
  refine qv_putR rfl e12 ?_
  refine qv_run 2 (σ := (17, [some (.ref a0), none], [.int 3, .ref a0], H12)) rfl ?_
  obtain ⟨e17, h⟩ := qv_guard h
  refine qv_newa rfl e17.1 e17.2 ?_
  obtain ⟨H19, e19, h⟩ := qv_bind h
  refine qv_putR rfl e19 ?_
  refine qv_run 2 (σ := (25, [some (.ref a0), none], [.int 60, .ref a0], H19)) rfl ?_
  obtain ⟨e25, h⟩ := qv_guard h
  refine qv_newa rfl e25.1 e25.2 ?_
  obtain ⟨H27, e27, h⟩ := qv_bind h
  refine qv_putR rfl e27 ?_
  refine qv_run 2 (σ := (33, [some (.ref a0), none], [.int 24, .ref a0], H27)) rfl ?_
  obtain ⟨e33, h⟩ := qv_guard h
  refine qv_newa rfl e33.1 e33.2 ?_
  obtain ⟨H35, e35, h⟩ := qv_bind h
  refine qv_putR rfl e35 ?_
  refine qv_run 2 (σ := (40, [some (.ref a0), none], [.int 0, .ref a0], H35)) rfl ?_
  obtain ⟨H40, e40, h⟩ := qv_bind h
  refine qv_putI rfl e40 ?_
  refine qv_run 2 (σ := (45, [some (.ref a0), none], [.int 0, .ref a0], H40)) rfl ?_
  obtain ⟨H45, e45, h⟩ := qv_bind h
  refine qv_putI rfl e45 ?_
  refine qv_run 2 (σ := (51, [some (.ref a0), none], [.int 100, .ref a0], H45)) rfl ?_
  obtain ⟨H51, e51, h⟩ := qv_bind h
  refine qv_putI rfl e51 ?_
  refine qv_run 2 (σ := (56, [some (.ref a0), none], [.int 1, .ref a0], H51)) rfl ?_
  obtain ⟨H56, e56, h⟩ := qv_bind h
  refine qv_putI rfl e56 ?_
  refine qv_run 2 (σ := (61, [some (.ref a0), some (.int 0)], [], H56)) rfl ?_
  exact tb_X6_init_61 hd hR 5000 a0 0 H56 h
theorem th_X6_init {st : xT} {d : Nat} (hd : 3 ≤ d) {a0 : Nat} {H : qx_H} {H' : qx_H} (h : fm_X6_init a0 H = some H') : xE st d 55 [.ref a0] H (none) H' := by
  obtain ⟨d, rfl⟩ : ∃ d', d = d' + 1 := ⟨d - 1, by omega⟩
  exact xE_of (xe55 st) xl55 (Nat.le_of_ble_eq_true rfl) (ls := [some (.ref a0), none]) rfl (tb_X6_init_0 (by omega) ⟨rfl, rfl⟩ a0 H h)
def fm_X6_become (a0 : Nat) (a1 : Nat) (H : qx_H) : Option qx_H := (hp_gR H a0 4 0).bind fun v1 => (hp_gR H a1 4 0).bind fun v5 => if hp_is H v1 3 = true then ((fm_X5_become v1 v5 H).bind fun H8 => (hp_gR H8 a1 4 1).bind fun v12 => (hp_gR H8 a0 4 1).bind fun v17 => (hp_cpy H8 v12 0 v17 0 3).bind fun H22 => (hp_gR H22 a1 4 2).bind fun v26 => (hp_gR H22 a0 4 2).bind fun v31 => (hp_cpy H22 v26 0 v31 0 60).bind fun H37 => (hp_gR H37 a1 4 3).bind fun v41 => (hp_gR H37 a0 4 3).bind fun v46 => (hp_cpy H37 v41 0 v46 0 24).bind fun H52 => (hp_gI H52 a1 4 4).bind fun v57 => (hp_put H52 a0 4 4 (.int v57)).bind fun H60 => (hp_gI H60 a1 4 5).bind fun v65 => (hp_put H60 a0 4 5 (.int v65)).bind fun H68 => (hp_gI H68 a1 4 6).bind fun v73 => (hp_put H68 a0 4 6 (.int v73)).bind fun H76 => (hp_gI H76 a1 4 7).bind fun v81 => (hp_put H76 a0 4 7 (.int v81)).bind fun H84 => some H84) else none
theorem tb_X6_become_0 {st : xT} {d : Nat} {R : Option Value → qx_H → Prop} (hd : 2 ≤ d) {H' : qx_H} (hR : R (none) H') (a0 : Nat) (a1 : Nat) (H : qx_H) (h : fm_X6_become a0 a1 H = some H') : qx_V (xE st d) R (xc56 st) (0, [some (.ref a0), some (.ref a1)], [], H) := by
  unfold fm_X6_become at h
  refine qv_run 1 (σ := (1, [some (.ref a0), some (.ref a1)], [.ref a0], H)) rfl ?_
  obtain ⟨v1, e1, h⟩ := qv_bind h
  refine qv_getR rfl e1 ?_
  refine qv_run 1 (σ := (5, [some (.ref a0), some (.ref a1)], [.ref a1, .ref v1], H)) rfl ?_
  obtain ⟨v5, e5, h⟩ := qv_bind h
  refine qv_getR rfl e5 ?_
  obtain ⟨g8, h⟩ := qv_guard h
  obtain ⟨H8, e8, h⟩ := qv_bind h
  refine qv_callV [.ref v5] rfl rfl rfl (Nat.le_of_ble_eq_true rfl) g8 (th_X5_become (by omega) e8) (tl_X5_become e8) ?_
  refine qv_run 1 (σ := (12, [some (.ref a0), some (.ref a1)], [.ref a1], H8)) rfl ?_
  obtain ⟨v12, e12, h⟩ := qv_bind h
  refine qv_getR rfl e12 ?_
  refine qv_run 2 (σ := (17, [some (.ref a0), some (.ref a1)], [.ref a0, .int 0, .ref v12], H8)) rfl ?_
  obtain ⟨v17, e17, h⟩ := qv_bind h
  refine qv_getR rfl e17 ?_
  refine qv_run 2 (σ := (22, [some (.ref a0), some (.ref a1)], [.int 3, .int 0, .ref v17, .int 0, .ref v12], H8)) rfl ?_
  obtain ⟨H22, e22, h⟩ := qv_bind h
  refine qv_cpy rfl (Nat.le_of_ble_eq_true rfl) e22 ?_
  refine qv_run 1 (σ := (26, [some (.ref a0), some (.ref a1)], [.ref a1], H22)) rfl ?_
  obtain ⟨v26, e26, h⟩ := qv_bind h
  refine qv_getR rfl e26 ?_
  refine qv_run 2 (σ := (31, [some (.ref a0), some (.ref a1)], [.ref a0, .int 0, .ref v26], H22)) rfl ?_
  obtain ⟨v31, e31, h⟩ := qv_bind h
  refine qv_getR rfl e31 ?_
  refine qv_run 2 (σ := (37, [some (.ref a0), some (.ref a1)], [.int 60, .int 0, .ref v31, .int 0, .ref v26], H22)) rfl ?_
  obtain ⟨H37, e37, h⟩ := qv_bind h
  refine qv_cpy rfl (Nat.le_of_ble_eq_true rfl) e37 ?_
  refine qv_run 1 (σ := (41, [some (.ref a0), some (.ref a1)], [.ref a1], H37)) rfl ?_
  obtain ⟨v41, e41, h⟩ := qv_bind h
  refine qv_getR rfl e41 ?_
  refine qv_run 2 (σ := (46, [some (.ref a0), some (.ref a1)], [.ref a0, .int 0, .ref v41], H37)) rfl ?_
  obtain ⟨v46, e46, h⟩ := qv_bind h
  refine qv_getR rfl e46 ?_
  refine qv_run 2 (σ := (52, [some (.ref a0), some (.ref a1)], [.int 24, .int 0, .ref v46, .int 0, .ref v41], H37)) rfl ?_
  obtain ⟨H52, e52, h⟩ := qv_bind h
  refine qv_cpy rfl (Nat.le_of_ble_eq_true rfl) e52 ?_
  refine qv_run 2 (σ := (57, [some (.ref a0), some (.ref a1)], [.ref a1, .ref a0], H52)) rfl ?_
  obtain ⟨v57, e57, h⟩ := qv_bind h
  refine qv_getI rfl e57 ?_
  obtain ⟨H60, e60, h⟩ := qv_bind h
  refine qv_putI rfl e60 ?_
  refine qv_run 2 (σ := (65, [some (.ref a0), some (.ref a1)], [.ref a1, .ref a0], H60)) rfl ?_
  obtain ⟨v65, e65, h⟩ := qv_bind h
  refine qv_getI rfl e65 ?_
  obtain ⟨H68, e68, h⟩ := qv_bind h
  refine qv_putI rfl e68 ?_
  refine qv_run 2 (σ := (73, [some (.ref a0), some (.ref a1)], [.ref a1, .ref a0], H68)) rfl ?_
  obtain ⟨v73, e73, h⟩ := qv_bind h
  refine qv_getI rfl e73 ?_
  obtain ⟨H76, e76, h⟩ := qv_bind h
  refine qv_putI rfl e76 ?_
  refine qv_run 2 (σ := (81, [some (.ref a0), some (.ref a1)], [.ref a1, .ref a0], H76)) rfl ?_
  obtain ⟨v81, e81, h⟩ := qv_bind h
  refine qv_getI rfl e81 ?_
  obtain ⟨H84, e84, h⟩ := qv_bind h
  refine qv_putI rfl e84 ?_
  cases h
  exact qv_ret0 rfl hR
theorem tlb_X6_become_0 {H' : qx_H} (a0 : Nat) (a1 : Nat) (H : qx_H) (h : fm_X6_become a0 a1 H = some H') : H'.length = H.length := by
  unfold fm_X6_become at h
  obtain ⟨v1, e1, h⟩ := qv_bind h
  obtain ⟨v5, e5, h⟩ := qv_bind h
  obtain ⟨g8, h⟩ := qv_guard h
  obtain ⟨H8, e8, h⟩ := qv_bind h
  have q_H8 := tl_X5_become e8
  obtain ⟨v12, e12, h⟩ := qv_bind h
  obtain ⟨v17, e17, h⟩ := qv_bind h
  obtain ⟨H22, e22, h⟩ := qv_bind h
  have q_H22 := hp_cpy_len e22
  obtain ⟨v26, e26, h⟩ := qv_bind h
  obtain ⟨v31, e31, h⟩ := qv_bind h
  obtain ⟨H37, e37, h⟩ := qv_bind h
  have q_H37 := hp_cpy_len e37
  obtain ⟨v41, e41, h⟩ := qv_bind h
  obtain ⟨v46, e46, h⟩ := qv_bind h
  obtain ⟨H52, e52, h⟩ := qv_bind h
  have q_H52 := hp_cpy_len e52
  obtain ⟨v57, e57, h⟩ := qv_bind h
  obtain ⟨H60, e60, h⟩ := qv_bind h
  have q_H60 := hp_put_len e60
  obtain ⟨v65, e65, h⟩ := qv_bind h
  obtain ⟨H68, e68, h⟩ := qv_bind h
  have q_H68 := hp_put_len e68
  obtain ⟨v73, e73, h⟩ := qv_bind h
  obtain ⟨H76, e76, h⟩ := qv_bind h
  have q_H76 := hp_put_len e76
  obtain ⟨v81, e81, h⟩ := qv_bind h
  obtain ⟨H84, e84, h⟩ := qv_bind h
  have q_H84 := hp_put_len e84
  cases h
  omega
theorem th_X6_become {st : xT} {d : Nat} (hd : 3 ≤ d) {a0 : Nat} {a1 : Nat} {H : qx_H} {H' : qx_H} (h : fm_X6_become a0 a1 H = some H') : xE st d 56 [.ref a0, .ref a1] H (none) H' := by
  obtain ⟨d, rfl⟩ : ∃ d', d = d' + 1 := ⟨d - 1, by omega⟩
  exact xE_of (xe56 st) xl56 (Nat.le_of_ble_eq_true rfl) (ls := [some (.ref a0), some (.ref a1)]) rfl (tb_X6_become_0 (by omega) ⟨rfl, rfl⟩ a0 a1 H h)
theorem tl_X6_become {a0 : Nat} {a1 : Nat} {H : qx_H} {H' : qx_H} (h : fm_X6_become a0 a1 H = some H') : H'.length = H.length := tlb_X6_become_0 a0 a1 H h
def fm_X6_nextDraw (a0 : Nat) (H : qx_H) : Option (Int32 × qx_H) := (hp_gI H a0 4 7).bind fun v2 => (hp_put H a0 4 7 (.int ((v2 * 1103515245) + 12345))).bind fun H12 => (hp_gI H12 a0 4 7).bind fun v16 => some (ji_ushr v16 8, H12)
theorem tb_X6_nextDraw_0 {st : xT} {d : Nat} {R : Option Value → qx_H → Prop} (hd : 0 ≤ d) {r : Int32} {H' : qx_H} (hR : R (some (.int r)) H') (a0 : Nat) (H : qx_H) (h : fm_X6_nextDraw a0 H = some (r, H')) : qx_V (xE st d) R (xc57 st) (0, [some (.ref a0)], [], H) := by
  unfold fm_X6_nextDraw at h
  refine qv_run 2 (σ := (2, [some (.ref a0)], [.ref a0, .ref a0], H)) rfl ?_
  obtain ⟨v2, e2, h⟩ := qv_bind h
  refine qv_getI rfl e2 ?_
  refine qv_run 4 (σ := (12, [some (.ref a0)], [.int ((v2 * 1103515245) + 12345), .ref a0], H)) rfl ?_
  obtain ⟨H12, e12, h⟩ := qv_bind h
  refine qv_putI rfl e12 ?_
  refine qv_run 1 (σ := (16, [some (.ref a0)], [.ref a0], H12)) rfl ?_
  obtain ⟨v16, e16, h⟩ := qv_bind h
  refine qv_getI rfl e16 ?_
  refine qv_run 2 (σ := (22, [some (.ref a0)], [.int (ji_ushr v16 8)], H12)) rfl ?_
  obtain ⟨rfl, rfl⟩ := qv_pair h
  exact qv_reti rfl hR
theorem tlb_X6_nextDraw_0 {r : Int32} {H' : qx_H} (a0 : Nat) (H : qx_H) (h : fm_X6_nextDraw a0 H = some (r, H')) : H'.length = H.length := by
  unfold fm_X6_nextDraw at h
  obtain ⟨v2, e2, h⟩ := qv_bind h
  obtain ⟨H12, e12, h⟩ := qv_bind h
  have q_H12 := hp_put_len e12
  obtain ⟨v16, e16, h⟩ := qv_bind h
  obtain ⟨rfl, rfl⟩ := qv_pair h
  omega
theorem th_X6_nextDraw {st : xT} {d : Nat} (hd : 1 ≤ d) {a0 : Nat} {H : qx_H} {r : Int32} {H' : qx_H} (h : fm_X6_nextDraw a0 H = some (r, H')) : xE st d 57 [.ref a0] H (some (.int r)) H' := by
  obtain ⟨d, rfl⟩ : ∃ d', d = d' + 1 := ⟨d - 1, by omega⟩
  exact xE_of (xe57 st) xl57 (Nat.le_of_ble_eq_true rfl) (ls := [some (.ref a0)]) rfl (tb_X6_nextDraw_0 (by omega) ⟨rfl, rfl⟩ a0 H h)
theorem tl_X6_nextDraw {a0 : Nat} {H : qx_H} {r : Int32} {H' : qx_H} (h : fm_X6_nextDraw a0 H = some (r, H')) : H'.length = H.length := tlb_X6_nextDraw_0 a0 H h
def fm_X7_init (a0 : Nat) (H : qx_H) : Option qx_H := if ¬ ((40 : Int32) < 0 ∨ 100000 < Int32.toNatClampNeg 40) ∧ qx_ok [some (.ref a0)] [.ref a0] H = true then ((hp_put (H ++ ([.inl (Int32.toNatClampNeg 40, .inl fun _ => 0)] : qx_H)) a0 5 0 (.ref H.length)).bind fun H9 => (hp_put H9 a0 5 1 (.int 0)).bind fun H14 => (hp_put H14 a0 5 2 (.int 0)).bind fun H19 => some H19) else none
theorem tb_X7_init_0 {st : xT} {d : Nat} {R : Option Value → qx_H → Prop} (hd : 0 ≤ d) {H' : qx_H} (hR : R (none) H') (a0 : Nat) (H : qx_H) (h : fm_X7_init a0 H = some H') : qx_V (xE st d) R (xc58 st) (0, [some (.ref a0)], [], H) := by
  unfold fm_X7_init at h
  refine qv_run 4 (σ := (7, [some (.ref a0)], [.int 40, .ref a0], H)) rfl ?_
  obtain ⟨e7, h⟩ := qv_guard h
  refine qv_newa rfl e7.1 e7.2 ?_
  obtain ⟨H9, e9, h⟩ := qv_bind h
  refine qv_putR rfl e9 ?_
  refine qv_run 2 (σ := (14, [some (.ref a0)], [.int 0, .ref a0], H9)) rfl ?_
  obtain ⟨H14, e14, h⟩ := qv_bind h
  refine qv_putI rfl e14 ?_
  refine qv_run 2 (σ := (19, [some (.ref a0)], [.int 0, .ref a0], H14)) rfl ?_
  obtain ⟨H19, e19, h⟩ := qv_bind h
  refine qv_putI rfl e19 ?_
  cases h
  exact qv_ret0 rfl hR
theorem th_X7_init {st : xT} {d : Nat} (hd : 1 ≤ d) {a0 : Nat} {H : qx_H} {H' : qx_H} (h : fm_X7_init a0 H = some H') : xE st d 58 [.ref a0] H (none) H' := by
  obtain ⟨d, rfl⟩ : ∃ d', d = d' + 1 := ⟨d - 1, by omega⟩
  exact xE_of (xe58 st) xl58 (Nat.le_of_ble_eq_true rfl) (ls := [some (.ref a0)]) rfl (tb_X7_init_0 (by omega) ⟨rfl, rfl⟩ a0 H h)
def fm_X7_isMissing (a0 : Nat) (H : qx_H) : Option Int32 := (hp_gI H a0 5 1).bind fun v1 => if v1 = 0 then (some 1) else (some 0)
theorem tb_X7_isMissing_0 {st : xT} {d : Nat} {R : Option Value → qx_H → Prop} (hd : 0 ≤ d) {r : Int32} {H : qx_H} (hR : R (some (.int r)) H) (a0 : Nat) (h : fm_X7_isMissing a0 H = some r) : qx_V (xE st d) R (xc59 st) (0, [some (.ref a0)], [], H) := by
  unfold fm_X7_isMissing at h
  refine qv_run 1 (σ := (1, [some (.ref a0)], [.ref a0], H)) rfl ?_
  obtain ⟨v1, e1, h⟩ := qv_bind h
  refine qv_getI rfl e1 ?_
  refine qv_br (c := v1 = 0) (a := (7, [some (.ref a0)], [], H)) (b := (11, [some (.ref a0)], [], H)) 1 rfl (fun c4 => ?_) (fun c4 => ?_)
  · replace h := qv_pos c4 h
    refine qv_run 2 (σ := (12, [some (.ref a0)], [.int 1], H)) rfl ?_
    cases h
    exact qv_retz rfl (Or.inr rfl) hR
  · replace h := qv_neg c4 h
    refine qv_run 1 (σ := (12, [some (.ref a0)], [.int 0], H)) rfl ?_
    cases h
    exact qv_retz rfl (Or.inl rfl) hR
theorem tzb_X7_isMissing_0 {r : Int32} {H : qx_H} (a0 : Nat) (h : fm_X7_isMissing a0 H = some r) : r = 0 ∨ r = 1 := by
  unfold fm_X7_isMissing at h
  obtain ⟨v1, e1, h⟩ := qv_bind h
  by_cases c4 : v1 = 0
  · replace h := qv_pos c4 h
    cases h
    exact Or.inr rfl
  · replace h := qv_neg c4 h
    cases h
    exact Or.inl rfl
theorem th_X7_isMissing {st : xT} {d : Nat} (hd : 1 ≤ d) {a0 : Nat} {r : Int32} {H : qx_H} (h : fm_X7_isMissing a0 H = some r) : xE st d 59 [.ref a0] H (some (.int r)) H := by
  obtain ⟨d, rfl⟩ : ∃ d', d = d' + 1 := ⟨d - 1, by omega⟩
  exact xE_of (xe59 st) xl59 (Nat.le_of_ble_eq_true rfl) (ls := [some (.ref a0)]) rfl (tb_X7_isMissing_0 (by omega) ⟨rfl, rfl⟩ a0 h)
theorem tz_X7_isMissing {a0 : Nat} {r : Int32} {H : qx_H} (h : fm_X7_isMissing a0 H = some r) : r = 0 ∨ r = 1 := tzb_X7_isMissing_0 a0 h
def fm_X7_begin_b12 : Nat → Nat → Int32 → qx_H → Option qx_H
  | 0, _, _, _ => none
  | n + 1, l0, l3, H => if 40 ≤ l3 then (some H) else ((hp_gR H l0 5 0).bind fun v19 => (hp_ast H v19 l3 0).bind fun H24 => fm_X7_begin_b12 n l0 (l3 + 1) H24)
def fm_X7_begin (a0 : Nat) (a1 : Int32) (a2 : Int32) (H : qx_H) : Option qx_H := (hp_put H a0 5 1 (.int a1)).bind fun H2 => (hp_put H2 a0 5 2 (.int a2)).bind fun H7 => fm_X7_begin_b12 5000 a0 0 H7
theorem tb_X7_begin_12 {st : xT} {d : Nat} {R : Option Value → qx_H → Prop} (hd : 0 ≤ d) {H' : qx_H} (hR : R (none) H') : ∀ (n : Nat) (l0 : Nat) (l3 : Int32) (z1 : Option Value) (hz1 : qx_ns z1 = true) (z2 : Option Value) (hz2 : qx_ns z2 = true) (H : qx_H) (h : fm_X7_begin_b12 n l0 l3 H = some H'), qx_V (xE st d) R (xc60 st) (12, [some (.ref l0), z1, z2, some (.int l3)], [], H) := by
  intro n
  induction n with
  | zero => intro l0 l3 z1 hz1 z2 hz2 H h; exact nomatch (show (none : Option qx_H) = some H' from h)
  | succ n ih =>
    intro l0 l3 z1 hz1 z2 hz2 H h
    unfold fm_X7_begin_b12 at h
    refine qv_br (c := 40 ≤ l3) (a := (31, [some (.ref l0), z1, z2, some (.int l3)], [], H)) (b := (18, [some (.ref l0), z1, z2, some (.int l3)], [], H)) 3 rfl (fun c15 => ?_) (fun c15 => ?_)
    · replace h := qv_pos c15 h
      cases h
      exact qv_ret0 rfl hR
    · replace h := qv_neg c15 h
      refine qv_run 1 (σ := (19, [some (.ref l0), z1, z2, some (.int l3)], [.ref l0], H)) rfl ?_
      obtain ⟨v19, e19, h⟩ := qv_bind h
      refine qv_getR rfl e19 ?_
      refine qv_run 2 (σ := (24, [some (.ref l0), z1, z2, some (.int l3)], [.int 0, .int l3, .ref v19], H)) rfl ?_
      obtain ⟨H24, e24, h⟩ := qv_bind h
      refine qv_ast rfl e24 ?_
      refine qv_incN (ls' := [some (.ref l0), z1, z2, some (.int (l3 + 1))]) rfl rfl (qx_kl_ns rfl hz2) rfl ?_
      refine qv_run 1 (σ := (12, [some (.ref l0), z1, z2, some (.int (l3 + 1))], [], H24)) rfl ?_
      exact ih l0 (l3 + 1) z1 hz1 z2 hz2 H24 h
theorem tlb_X7_begin_12 {H' : qx_H} : ∀ (n : Nat) (l0 : Nat) (l3 : Int32) (H : qx_H) (h : fm_X7_begin_b12 n l0 l3 H = some H'), H'.length = H.length := by
  intro n
  induction n with
  | zero => intro l0 l3 H h; exact nomatch (show (none : Option qx_H) = some H' from h)
  | succ n ih =>
    intro l0 l3 H h
    unfold fm_X7_begin_b12 at h
    by_cases c15 : 40 ≤ l3
    · replace h := qv_pos c15 h
      cases h
      rfl
    · replace h := qv_neg c15 h
      obtain ⟨v19, e19, h⟩ := qv_bind h
      obtain ⟨H24, e24, h⟩ := qv_bind h
      have q_H24 := hp_ast_len e24
      have q_end := ih l0 (l3 + 1) H24 h
      omega
theorem tb_X7_begin_0 {st : xT} {d : Nat} {R : Option Value → qx_H → Prop} (hd : 0 ≤ d) {H' : qx_H} (hR : R (none) H') (a0 : Nat) (a1 : Int32) (a2 : Int32) (H : qx_H) (h : fm_X7_begin a0 a1 a2 H = some H') : qx_V (xE st d) R (xc60 st) (0, [some (.ref a0), some (.int a1), some (.int a2), none], [], H) := by
  unfold fm_X7_begin at h
  refine qv_run 2 (σ := (2, [some (.ref a0), some (.int a1), some (.int a2), none], [.int a1, .ref a0], H)) rfl ?_
  obtain ⟨H2, e2, h⟩ := qv_bind h
  refine qv_putI rfl e2 ?_
  refine qv_run 2 (σ := (7, [some (.ref a0), some (.int a1), some (.int a2), none], [.int a2, .ref a0], H2)) rfl ?_
  obtain ⟨H7, e7, h⟩ := qv_bind h
  refine qv_putI rfl e7 ?_
  refine qv_run 2 (σ := (12, [some (.ref a0), some (.int a1), some (.int a2), some (.int 0)], [], H7)) rfl ?_
  exact tb_X7_begin_12 hd hR 5000 a0 0 (some (.int a1)) rfl (some (.int a2)) rfl H7 h
theorem tlb_X7_begin_0 {H' : qx_H} (a0 : Nat) (a1 : Int32) (a2 : Int32) (H : qx_H) (h : fm_X7_begin a0 a1 a2 H = some H') : H'.length = H.length := by
  unfold fm_X7_begin at h
  obtain ⟨H2, e2, h⟩ := qv_bind h
  have q_H2 := hp_put_len e2
  obtain ⟨H7, e7, h⟩ := qv_bind h
  have q_H7 := hp_put_len e7
  have q_end := tlb_X7_begin_12 5000 a0 0 H7 h
  omega
theorem th_X7_begin {st : xT} {d : Nat} (hd : 1 ≤ d) {a0 : Nat} {a1 : Int32} {a2 : Int32} {H : qx_H} {H' : qx_H} (h : fm_X7_begin a0 a1 a2 H = some H') : xE st d 60 [.ref a0, .int a1, .int a2] H (none) H' := by
  obtain ⟨d, rfl⟩ : ∃ d', d = d' + 1 := ⟨d - 1, by omega⟩
  exact xE_of (xe60 st) xl60 (Nat.le_of_ble_eq_true rfl) (ls := [some (.ref a0), some (.int a1), some (.int a2), none]) rfl (tb_X7_begin_0 (by omega) ⟨rfl, rfl⟩ a0 a1 a2 H h)
theorem tl_X7_begin {a0 : Nat} {a1 : Int32} {a2 : Int32} {H : qx_H} {H' : qx_H} (h : fm_X7_begin a0 a1 a2 H = some H') : H'.length = H.length := tlb_X7_begin_0 a0 a1 a2 H h
def fm_X7_write_b28 (t0 : Int32) (t1 : Int32) (t2 : Nat) (H : qx_H) : Option qx_H := (hp_ast H t2 t1 t0).bind fun H28 => some H28
def fm_X7_write (a0 : Nat) (a1 : Int32) (a2 : Int32) (H : qx_H) : Option qx_H := (hp_gR H a0 5 0).bind fun v1 => (hp_gI H a0 5 1).bind fun v6 => if v6 = 32 then (fm_X7_write_b28 a2 a1 v1 H) else ((hp_gI H a0 5 1).bind fun v21 => fm_X7_write_b28 (a2 &&& ((ji_shl 1 v21) - 1)) a1 v1 H)
theorem tb_X7_write_28 {st : xT} {d : Nat} {R : Option Value → qx_H → Prop} (hd : 0 ≤ d) {H' : qx_H} (hR : R (none) H') (t0 : Int32) (t1 : Int32) (t2 : Nat) (z0 : Option Value) (hz0 : qx_ns z0 = true) (z1 : Option Value) (hz1 : qx_ns z1 = true) (z2 : Option Value) (hz2 : qx_ns z2 = true) (H : qx_H) (h : fm_X7_write_b28 t0 t1 t2 H = some H') : qx_V (xE st d) R (xc61 st) (28, [z0, z1, z2], [.int t0, .int t1, .ref t2], H) := by
  unfold fm_X7_write_b28 at h
  obtain ⟨H28, e28, h⟩ := qv_bind h
  refine qv_ast rfl e28 ?_
  cases h
  exact qv_ret0 rfl hR
theorem tlb_X7_write_28 {H' : qx_H} (t0 : Int32) (t1 : Int32) (t2 : Nat) (H : qx_H) (h : fm_X7_write_b28 t0 t1 t2 H = some H') : H'.length = H.length := by
  unfold fm_X7_write_b28 at h
  obtain ⟨H28, e28, h⟩ := qv_bind h
  have q_H28 := hp_ast_len e28
  cases h
  omega
theorem tb_X7_write_0 {st : xT} {d : Nat} {R : Option Value → qx_H → Prop} (hd : 0 ≤ d) {H' : qx_H} (hR : R (none) H') (a0 : Nat) (a1 : Int32) (a2 : Int32) (H : qx_H) (h : fm_X7_write a0 a1 a2 H = some H') : qx_V (xE st d) R (xc61 st) (0, [some (.ref a0), some (.int a1), some (.int a2)], [], H) := by
  unfold fm_X7_write at h
  refine qv_run 1 (σ := (1, [some (.ref a0), some (.int a1), some (.int a2)], [.ref a0], H)) rfl ?_
  obtain ⟨v1, e1, h⟩ := qv_bind h
  refine qv_getR rfl e1 ?_
  refine qv_run 2 (σ := (6, [some (.ref a0), some (.int a1), some (.int a2)], [.ref a0, .int a1, .ref v1], H)) rfl ?_
  obtain ⟨v6, e6, h⟩ := qv_bind h
  refine qv_getI rfl e6 ?_
  refine qv_br (c := v6 = 32) (a := (14, [some (.ref a0), some (.int a1), some (.int a2)], [.int a1, .ref v1], H)) (b := (18, [some (.ref a0), some (.int a1), some (.int a2)], [.int a1, .ref v1], H)) 2 rfl (fun c11 => ?_) (fun c11 => ?_)
  · replace h := qv_pos c11 h
    refine qv_run 2 (σ := (28, [some (.ref a0), some (.int a1), some (.int a2)], [.int a2, .int a1, .ref v1], H)) rfl ?_
    exact tb_X7_write_28 hd hR a2 a1 v1 (some (.ref a0)) rfl (some (.int a1)) rfl (some (.int a2)) rfl H h
  · replace h := qv_neg c11 h
    refine qv_run 3 (σ := (21, [some (.ref a0), some (.int a1), some (.int a2)], [.ref a0, .int 1, .int a2, .int a1, .ref v1], H)) rfl ?_
    obtain ⟨v21, e21, h⟩ := qv_bind h
    refine qv_getI rfl e21 ?_
    refine qv_run 4 (σ := (28, [some (.ref a0), some (.int a1), some (.int a2)], [.int (a2 &&& ((ji_shl 1 v21) - 1)), .int a1, .ref v1], H)) rfl ?_
    exact tb_X7_write_28 hd hR (a2 &&& ((ji_shl 1 v21) - 1)) a1 v1 (some (.ref a0)) rfl (some (.int a1)) rfl (some (.int a2)) rfl H h
theorem tlb_X7_write_0 {H' : qx_H} (a0 : Nat) (a1 : Int32) (a2 : Int32) (H : qx_H) (h : fm_X7_write a0 a1 a2 H = some H') : H'.length = H.length := by
  unfold fm_X7_write at h
  obtain ⟨v1, e1, h⟩ := qv_bind h
  obtain ⟨v6, e6, h⟩ := qv_bind h
  by_cases c11 : v6 = 32
  · replace h := qv_pos c11 h
    exact tlb_X7_write_28 a2 a1 v1 H h
  · replace h := qv_neg c11 h
    obtain ⟨v21, e21, h⟩ := qv_bind h
    exact tlb_X7_write_28 (a2 &&& ((ji_shl 1 v21) - 1)) a1 v1 H h
theorem th_X7_write {st : xT} {d : Nat} (hd : 1 ≤ d) {a0 : Nat} {a1 : Int32} {a2 : Int32} {H : qx_H} {H' : qx_H} (h : fm_X7_write a0 a1 a2 H = some H') : xE st d 61 [.ref a0, .int a1, .int a2] H (none) H' := by
  obtain ⟨d, rfl⟩ : ∃ d', d = d' + 1 := ⟨d - 1, by omega⟩
  exact xE_of (xe61 st) xl61 (Nat.le_of_ble_eq_true rfl) (ls := [some (.ref a0), some (.int a1), some (.int a2)]) rfl (tb_X7_write_0 (by omega) ⟨rfl, rfl⟩ a0 a1 a2 H h)
theorem tl_X7_write {a0 : Nat} {a1 : Int32} {a2 : Int32} {H : qx_H} {H' : qx_H} (h : fm_X7_write a0 a1 a2 H = some H') : H'.length = H.length := tlb_X7_write_0 a0 a1 a2 H h
def fm_X7_hasStretch (a0 : Nat) (a1 : Int32) (a2 : Int32) (H : qx_H) : Option Int32 := if a1 < 0 then (some 0) else (if a2 < 0 then (some 0) else ((hp_gI H a0 5 2).bind fun v10 => if v10 < a2 then (some 0) else ((hp_gI H a0 5 2).bind fun v18 => if (v18 - a2) < a1 then (some 0) else (some 1))))
theorem tb_X7_hasStretch_0 {st : xT} {d : Nat} {R : Option Value → qx_H → Prop} (hd : 0 ≤ d) {r : Int32} {H : qx_H} (hR : R (some (.int r)) H) (a0 : Nat) (a1 : Int32) (a2 : Int32) (h : fm_X7_hasStretch a0 a1 a2 H = some r) : qx_V (xE st d) R (xc62 st) (0, [some (.ref a0), some (.int a1), some (.int a2)], [], H) := by
  unfold fm_X7_hasStretch at h
  refine qv_br (c := a1 < 0) (a := (30, [some (.ref a0), some (.int a1), some (.int a2)], [], H)) (b := (4, [some (.ref a0), some (.int a1), some (.int a2)], [], H)) 2 rfl (fun c1 => ?_) (fun c1 => ?_)
  · replace h := qv_pos c1 h
    refine qv_run 1 (σ := (31, [some (.ref a0), some (.int a1), some (.int a2)], [.int 0], H)) rfl ?_
    cases h
    exact qv_retz rfl (Or.inl rfl) hR
  · replace h := qv_neg c1 h
    refine qv_br (c := a2 < 0) (a := (30, [some (.ref a0), some (.int a1), some (.int a2)], [], H)) (b := (8, [some (.ref a0), some (.int a1), some (.int a2)], [], H)) 2 rfl (fun c5 => ?_) (fun c5 => ?_)
    · replace h := qv_pos c5 h
      refine qv_run 1 (σ := (31, [some (.ref a0), some (.int a1), some (.int a2)], [.int 0], H)) rfl ?_
      cases h
      exact qv_retz rfl (Or.inl rfl) hR
    · replace h := qv_neg c5 h
      refine qv_run 2 (σ := (10, [some (.ref a0), some (.int a1), some (.int a2)], [.ref a0, .int a2], H)) rfl ?_
      obtain ⟨v10, e10, h⟩ := qv_bind h
      refine qv_getI rfl e10 ?_
      refine qv_br (c := v10 < a2) (a := (30, [some (.ref a0), some (.int a1), some (.int a2)], [], H)) (b := (16, [some (.ref a0), some (.int a1), some (.int a2)], [], H)) 1 rfl (fun c13 => ?_) (fun c13 => ?_)
      · replace h := qv_pos c13 h
        refine qv_run 1 (σ := (31, [some (.ref a0), some (.int a1), some (.int a2)], [.int 0], H)) rfl ?_
        cases h
        exact qv_retz rfl (Or.inl rfl) hR
      · replace h := qv_neg c13 h
        refine qv_run 2 (σ := (18, [some (.ref a0), some (.int a1), some (.int a2)], [.ref a0, .int a1], H)) rfl ?_
        obtain ⟨v18, e18, h⟩ := qv_bind h
        refine qv_getI rfl e18 ?_
        refine qv_br (c := (v18 - a2) < a1) (a := (30, [some (.ref a0), some (.int a1), some (.int a2)], [], H)) (b := (26, [some (.ref a0), some (.int a1), some (.int a2)], [], H)) 3 rfl (fun c23 => ?_) (fun c23 => ?_)
        · replace h := qv_pos c23 h
          refine qv_run 1 (σ := (31, [some (.ref a0), some (.int a1), some (.int a2)], [.int 0], H)) rfl ?_
          cases h
          exact qv_retz rfl (Or.inl rfl) hR
        · replace h := qv_neg c23 h
          refine qv_run 2 (σ := (31, [some (.ref a0), some (.int a1), some (.int a2)], [.int 1], H)) rfl ?_
          cases h
          exact qv_retz rfl (Or.inr rfl) hR
theorem tzb_X7_hasStretch_0 {r : Int32} {H : qx_H} (a0 : Nat) (a1 : Int32) (a2 : Int32) (h : fm_X7_hasStretch a0 a1 a2 H = some r) : r = 0 ∨ r = 1 := by
  unfold fm_X7_hasStretch at h
  by_cases c1 : a1 < 0
  · replace h := qv_pos c1 h
    cases h
    exact Or.inl rfl
  · replace h := qv_neg c1 h
    by_cases c5 : a2 < 0
    · replace h := qv_pos c5 h
      cases h
      exact Or.inl rfl
    · replace h := qv_neg c5 h
      obtain ⟨v10, e10, h⟩ := qv_bind h
      by_cases c13 : v10 < a2
      · replace h := qv_pos c13 h
        cases h
        exact Or.inl rfl
      · replace h := qv_neg c13 h
        obtain ⟨v18, e18, h⟩ := qv_bind h
        by_cases c23 : (v18 - a2) < a1
        · replace h := qv_pos c23 h
          cases h
          exact Or.inl rfl
        · replace h := qv_neg c23 h
          cases h
          exact Or.inr rfl
theorem th_X7_hasStretch {st : xT} {d : Nat} (hd : 1 ≤ d) {a0 : Nat} {a1 : Int32} {a2 : Int32} {r : Int32} {H : qx_H} (h : fm_X7_hasStretch a0 a1 a2 H = some r) : xE st d 62 [.ref a0, .int a1, .int a2] H (some (.int r)) H := by
  obtain ⟨d, rfl⟩ : ∃ d', d = d' + 1 := ⟨d - 1, by omega⟩
  exact xE_of (xe62 st) xl62 (Nat.le_of_ble_eq_true rfl) (ls := [some (.ref a0), some (.int a1), some (.int a2)]) rfl (tb_X7_hasStretch_0 (by omega) ⟨rfl, rfl⟩ a0 a1 a2 h)
theorem tz_X7_hasStretch {a0 : Nat} {a1 : Int32} {a2 : Int32} {r : Int32} {H : qx_H} (h : fm_X7_hasStretch a0 a1 a2 H = some r) : r = 0 ∨ r = 1 := tzb_X7_hasStretch_0 a0 a1 a2 h
