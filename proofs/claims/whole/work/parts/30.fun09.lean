def fm_X11_sheet_b29 (l0 : Nat) (H : qx_H) : Option (Int32 × qx_H) := if hp_is H l0 9 = true then (ob2 (fm_X11_error l0 1 H) fun v31 H31 => some (v31, H31)) else none
def fm_X11_sheet_b90 : Nat → Nat → Int32 → Int32 → qx_H → Option (Int32 × qx_H)
  | 0, _, _, _, _ => none
  | n + 1, l0, l1, l4, H => if 40 ≤ l4 then (some (1, H)) else ((hp_gR H l0 9 21).bind fun v98 => (hp_ast H v98 ((40 * l1) + l4) 0).bind fun H109 => fm_X11_sheet_b90 n l0 l1 (l4 + 1) H109)
def fm_X11_sheet_b65 (l0 : Nat) (l1 : Int32) (l2 : Int32) (l3 : Int32) (H : qx_H) : Option (Int32 × qx_H) := (hp_gR H l0 9 19).bind fun v66 => (hp_ast H v66 l1 l2).bind fun H71 => (hp_gR H71 l0 9 20).bind fun v73 => (hp_ast H71 v73 l1 (if l2 = 0 then 0 else l3)).bind fun H86 => fm_X11_sheet_b90 5000 l0 l1 0 H86
def fm_X11_sheet_b49 (l0 : Nat) (l1 : Int32) (l2 : Int32) (l3 : Int32) (H : qx_H) : Option (Int32 × qx_H) := if l2 = 0 then (fm_X11_sheet_b65 l0 l1 l2 l3 H) else (if l3 ≤ 40 then (fm_X11_sheet_b65 l0 l1 l2 l3 H) else (if hp_is H l0 9 = true then (ob2 (fm_X11_error l0 1 H) fun v61 H61 => some (v61, H61)) else none))
def fm_X11_sheet_b35 (l0 : Nat) (l1 : Int32) (l2 : Int32) (l3 : Int32) (H : qx_H) : Option (Int32 × qx_H) := if l2 = 0 then (fm_X11_sheet_b49 l0 l1 l2 l3 H) else (if 0 ≤ l3 then (fm_X11_sheet_b49 l0 l1 l2 l3 H) else (if hp_is H l0 9 = true then (ob2 (fm_X11_error l0 3 H) fun v45 H45 => some (v45, H45)) else none))
def fm_X11_sheet (a0 : Nat) (a1 : Int32) (a2 : Int32) (a3 : Int32) (H : qx_H) : Option (Int32 × qx_H) := if (fm_X11_isSheet a1) = 0 then (fm_X11_sheet_b29 a0 H) else (if a2 = 0 then (fm_X11_sheet_b35 a0 a1 a2 a3 H) else (if a2 = 8 then (fm_X11_sheet_b35 a0 a1 a2 a3 H) else (if a2 = 16 then (fm_X11_sheet_b35 a0 a1 a2 a3 H) else (if a2 = 32 then (fm_X11_sheet_b35 a0 a1 a2 a3 H) else (fm_X11_sheet_b29 a0 H)))))
theorem tb_X11_sheet_29 {st : xT} {d : Nat} {R : Option Value → qx_H → Prop} (hd : 2 ≤ d) {r : Int32} {H' : qx_H} (hR : R (some (.int r)) H') (l0 : Nat) (z1 : Option Value) (hz1 : qx_ns z1 = true) (z2 : Option Value) (hz2 : qx_ns z2 = true) (z3 : Option Value) (hz3 : qx_ns z3 = true) (H : qx_H) (h : fm_X11_sheet_b29 l0 H = some (r, H')) : qx_V (xE st d) R (xc220 st) (29, [some (.ref l0), z1, z2, z3, none], [], H) := by
  unfold fm_X11_sheet_b29 at h
  refine qv_run 2 (σ := (31, [some (.ref l0), z1, z2, z3, none], [.int 1, .ref l0], H)) rfl ?_
  obtain ⟨g31, h⟩ := qv_guard h
  obtain ⟨v31, H31, e31, h⟩ := qv_bind2 h
  refine qv_callV [.int 1] rfl rfl rfl (Nat.le_of_ble_eq_true rfl) g31 (th_X11_error (by omega) e31) (tl_X11_error e31) ?_
  obtain ⟨rfl, rfl⟩ := qv_pair h
  exact qv_reti rfl hR
theorem tlb_X11_sheet_29 {r : Int32} {H' : qx_H} (l0 : Nat) (H : qx_H) (h : fm_X11_sheet_b29 l0 H = some (r, H')) : H'.length = H.length := by
  unfold fm_X11_sheet_b29 at h
  obtain ⟨g31, h⟩ := qv_guard h
  obtain ⟨v31, H31, e31, h⟩ := qv_bind2 h
  have q_H31 := tl_X11_error e31
  obtain ⟨rfl, rfl⟩ := qv_pair h
  omega
theorem tb_X11_sheet_90 {st : xT} {d : Nat} {R : Option Value → qx_H → Prop} (hd : 2 ≤ d) {r : Int32} {H' : qx_H} (hR : R (some (.int r)) H') : ∀ (n : Nat) (l0 : Nat) (l1 : Int32) (l4 : Int32) (z2 : Option Value) (hz2 : qx_ns z2 = true) (z3 : Option Value) (hz3 : qx_ns z3 = true) (H : qx_H) (h : fm_X11_sheet_b90 n l0 l1 l4 H = some (r, H')), qx_V (xE st d) R (xc220 st) (90, [some (.ref l0), some (.int l1), z2, z3, some (.int l4)], [], H) := by
  intro n
  induction n with
  | zero => intro l0 l1 l4 z2 hz2 z3 hz3 H h; exact nomatch (show (none : Option (Int32 × qx_H)) = some (r, H') from h)
  | succ n ih =>
    intro l0 l1 l4 z2 hz2 z3 hz3 H h
    unfold fm_X11_sheet_b90 at h
    refine qv_br (c := 40 ≤ l4) (a := (116, [some (.ref l0), some (.int l1), z2, z3, some (.int l4)], [], H)) (b := (97, [some (.ref l0), some (.int l1), z2, z3, some (.int l4)], [], H)) 3 rfl (fun c94 => ?_) (fun c94 => ?_)
    · replace h := qv_pos c94 h
      refine qv_run 1 (σ := (117, [some (.ref l0), some (.int l1), z2, z3, some (.int l4)], [.int 1], H)) rfl ?_
      obtain ⟨rfl, rfl⟩ := qv_pair h
      exact qv_reti rfl hR
    · replace h := qv_neg c94 h
      refine qv_run 1 (σ := (98, [some (.ref l0), some (.int l1), z2, z3, some (.int l4)], [.ref l0], H)) rfl ?_
      obtain ⟨v98, e98, h⟩ := qv_bind h
      refine qv_getR rfl e98 ?_
      refine qv_run 6 (σ := (109, [some (.ref l0), some (.int l1), z2, z3, some (.int l4)], [.int 0, .int ((40 * l1) + l4), .ref v98], H)) rfl ?_
      obtain ⟨H109, e109, h⟩ := qv_bind h
      refine qv_ast rfl e109 ?_
      refine qv_incN (ls' := [some (.ref l0), some (.int l1), z2, z3, some (.int (l4 + 1))]) rfl rfl (qx_kl_ns rfl hz3) rfl ?_
      refine qv_run 1 (σ := (90, [some (.ref l0), some (.int l1), z2, z3, some (.int (l4 + 1))], [], H109)) rfl ?_
      exact ih l0 l1 (l4 + 1) z2 hz2 z3 hz3 H109 h
theorem tlb_X11_sheet_90 {r : Int32} {H' : qx_H} : ∀ (n : Nat) (l0 : Nat) (l1 : Int32) (l4 : Int32) (H : qx_H) (h : fm_X11_sheet_b90 n l0 l1 l4 H = some (r, H')), H'.length = H.length := by
  intro n
  induction n with
  | zero => intro l0 l1 l4 H h; exact nomatch (show (none : Option (Int32 × qx_H)) = some (r, H') from h)
  | succ n ih =>
    intro l0 l1 l4 H h
    unfold fm_X11_sheet_b90 at h
    by_cases c94 : 40 ≤ l4
    · replace h := qv_pos c94 h
      obtain ⟨rfl, rfl⟩ := qv_pair h
      rfl
    · replace h := qv_neg c94 h
      obtain ⟨v98, e98, h⟩ := qv_bind h
      obtain ⟨H109, e109, h⟩ := qv_bind h
      have q_H109 := hp_ast_len e109
      have q_end := ih l0 l1 (l4 + 1) H109 h
      omega
theorem tb_X11_sheet_65 {st : xT} {d : Nat} {R : Option Value → qx_H → Prop} (hd : 2 ≤ d) {r : Int32} {H' : qx_H} (hR : R (some (.int r)) H') (l0 : Nat) (l1 : Int32) (l2 : Int32) (l3 : Int32) (H : qx_H) (h : fm_X11_sheet_b65 l0 l1 l2 l3 H = some (r, H')) : qx_V (xE st d) R (xc220 st) (65, [some (.ref l0), some (.int l1), some (.int l2), some (.int l3), none], [], H) := by
  unfold fm_X11_sheet_b65 at h
  refine qv_run 1 (σ := (66, [some (.ref l0), some (.int l1), some (.int l2), some (.int l3), none], [.ref l0], H)) rfl ?_
  obtain ⟨v66, e66, h⟩ := qv_bind h
  refine qv_getR rfl e66 ?_
  refine qv_run 2 (σ := (71, [some (.ref l0), some (.int l1), some (.int l2), some (.int l3), none], [.int l2, .int l1, .ref v66], H)) rfl ?_
  obtain ⟨H71, e71, h⟩ := qv_bind h
  refine qv_ast rfl e71 ?_
  refine qv_run 1 (σ := (73, [some (.ref l0), some (.int l1), some (.int l2), some (.int l3), none], [.ref l0], H71)) rfl ?_
  obtain ⟨v73, e73, h⟩ := qv_bind h
  refine qv_getR rfl e73 ?_
  refine qv_dia (c := l2 = 0) (a := (81, [some (.ref l0), some (.int l1), some (.int l2), some (.int l3), none], [.int l1, .ref v73], H71)) (b := (85, [some (.ref l0), some (.int l1), some (.int l2), some (.int l3), none], [.int l1, .ref v73], H71)) (σ' := (86, [some (.ref l0), some (.int l1), some (.int l2), some (.int l3), none], [.int (if l2 = 0 then 0 else l3), .int l1, .ref v73], H71)) 3 rfl ?_ (fun c78 kk => qv_run 2 (σ := (86, [some (.ref l0), some (.int l1), some (.int l2), some (.int l3), none], [.int 0, .int l1, .ref v73], H71)) rfl (qv_eq (by simp only [if_pos c78]) kk)) (fun c78 kk => qv_run 1 (σ := (86, [some (.ref l0), some (.int l1), some (.int l2), some (.int l3), none], [.int l3, .int l1, .ref v73], H71)) rfl (qv_eq (by simp only [if_neg c78]) kk))
  obtain ⟨H86, e86, h⟩ := qv_bind h
  refine qv_ast rfl e86 ?_
  refine qv_run 2 (σ := (90, [some (.ref l0), some (.int l1), some (.int l2), some (.int l3), some (.int 0)], [], H86)) rfl ?_
  exact tb_X11_sheet_90 hd hR 5000 l0 l1 0 (some (.int l2)) rfl (some (.int l3)) rfl H86 h
theorem tlb_X11_sheet_65 {r : Int32} {H' : qx_H} (l0 : Nat) (l1 : Int32) (l2 : Int32) (l3 : Int32) (H : qx_H) (h : fm_X11_sheet_b65 l0 l1 l2 l3 H = some (r, H')) : H'.length = H.length := by
  unfold fm_X11_sheet_b65 at h
  obtain ⟨v66, e66, h⟩ := qv_bind h
  obtain ⟨H71, e71, h⟩ := qv_bind h
  have q_H71 := hp_ast_len e71
  obtain ⟨v73, e73, h⟩ := qv_bind h
  obtain ⟨H86, e86, h⟩ := qv_bind h
  have q_H86 := hp_ast_len e86
  have q_end := tlb_X11_sheet_90 5000 l0 l1 0 H86 h
  omega
theorem tb_X11_sheet_49 {st : xT} {d : Nat} {R : Option Value → qx_H → Prop} (hd : 2 ≤ d) {r : Int32} {H' : qx_H} (hR : R (some (.int r)) H') (l0 : Nat) (l1 : Int32) (l2 : Int32) (l3 : Int32) (H : qx_H) (h : fm_X11_sheet_b49 l0 l1 l2 l3 H = some (r, H')) : qx_V (xE st d) R (xc220 st) (49, [some (.ref l0), some (.int l1), some (.int l2), some (.int l3), none], [], H) := by
  unfold fm_X11_sheet_b49 at h
  refine qv_br (c := l2 = 0) (a := (65, [some (.ref l0), some (.int l1), some (.int l2), some (.int l3), none], [], H)) (b := (53, [some (.ref l0), some (.int l1), some (.int l2), some (.int l3), none], [], H)) 2 rfl (fun c50 => ?_) (fun c50 => ?_)
  · replace h := qv_pos c50 h
    exact tb_X11_sheet_65 hd hR l0 l1 l2 l3 H h
  · replace h := qv_neg c50 h
    refine qv_br (c := l3 ≤ 40) (a := (65, [some (.ref l0), some (.int l1), some (.int l2), some (.int l3), none], [], H)) (b := (59, [some (.ref l0), some (.int l1), some (.int l2), some (.int l3), none], [], H)) 3 rfl (fun c56 => ?_) (fun c56 => ?_)
    · replace h := qv_pos c56 h
      exact tb_X11_sheet_65 hd hR l0 l1 l2 l3 H h
    · replace h := qv_neg c56 h
      refine qv_run 2 (σ := (61, [some (.ref l0), some (.int l1), some (.int l2), some (.int l3), none], [.int 1, .ref l0], H)) rfl ?_
      obtain ⟨g61, h⟩ := qv_guard h
      obtain ⟨v61, H61, e61, h⟩ := qv_bind2 h
      refine qv_callV [.int 1] rfl rfl rfl (Nat.le_of_ble_eq_true rfl) g61 (th_X11_error (by omega) e61) (tl_X11_error e61) ?_
      obtain ⟨rfl, rfl⟩ := qv_pair h
      exact qv_reti rfl hR
theorem tlb_X11_sheet_49 {r : Int32} {H' : qx_H} (l0 : Nat) (l1 : Int32) (l2 : Int32) (l3 : Int32) (H : qx_H) (h : fm_X11_sheet_b49 l0 l1 l2 l3 H = some (r, H')) : H'.length = H.length := by
  unfold fm_X11_sheet_b49 at h
  by_cases c50 : l2 = 0
  · replace h := qv_pos c50 h
    exact tlb_X11_sheet_65 l0 l1 l2 l3 H h
  · replace h := qv_neg c50 h
    by_cases c56 : l3 ≤ 40
    · replace h := qv_pos c56 h
      exact tlb_X11_sheet_65 l0 l1 l2 l3 H h
    · replace h := qv_neg c56 h
      obtain ⟨g61, h⟩ := qv_guard h
      obtain ⟨v61, H61, e61, h⟩ := qv_bind2 h
      have q_H61 := tl_X11_error e61
      obtain ⟨rfl, rfl⟩ := qv_pair h
      omega
theorem tb_X11_sheet_35 {st : xT} {d : Nat} {R : Option Value → qx_H → Prop} (hd : 2 ≤ d) {r : Int32} {H' : qx_H} (hR : R (some (.int r)) H') (l0 : Nat) (l1 : Int32) (l2 : Int32) (l3 : Int32) (H : qx_H) (h : fm_X11_sheet_b35 l0 l1 l2 l3 H = some (r, H')) : qx_V (xE st d) R (xc220 st) (35, [some (.ref l0), some (.int l1), some (.int l2), some (.int l3), none], [], H) := by
  unfold fm_X11_sheet_b35 at h
  refine qv_br (c := l2 = 0) (a := (49, [some (.ref l0), some (.int l1), some (.int l2), some (.int l3), none], [], H)) (b := (39, [some (.ref l0), some (.int l1), some (.int l2), some (.int l3), none], [], H)) 2 rfl (fun c36 => ?_) (fun c36 => ?_)
  · replace h := qv_pos c36 h
    exact tb_X11_sheet_49 hd hR l0 l1 l2 l3 H h
  · replace h := qv_neg c36 h
    refine qv_br (c := 0 ≤ l3) (a := (49, [some (.ref l0), some (.int l1), some (.int l2), some (.int l3), none], [], H)) (b := (43, [some (.ref l0), some (.int l1), some (.int l2), some (.int l3), none], [], H)) 2 rfl (fun c40 => ?_) (fun c40 => ?_)
    · replace h := qv_pos c40 h
      exact tb_X11_sheet_49 hd hR l0 l1 l2 l3 H h
    · replace h := qv_neg c40 h
      refine qv_run 2 (σ := (45, [some (.ref l0), some (.int l1), some (.int l2), some (.int l3), none], [.int 3, .ref l0], H)) rfl ?_
      obtain ⟨g45, h⟩ := qv_guard h
      obtain ⟨v45, H45, e45, h⟩ := qv_bind2 h
      refine qv_callV [.int 3] rfl rfl rfl (Nat.le_of_ble_eq_true rfl) g45 (th_X11_error (by omega) e45) (tl_X11_error e45) ?_
      obtain ⟨rfl, rfl⟩ := qv_pair h
      exact qv_reti rfl hR
theorem tlb_X11_sheet_35 {r : Int32} {H' : qx_H} (l0 : Nat) (l1 : Int32) (l2 : Int32) (l3 : Int32) (H : qx_H) (h : fm_X11_sheet_b35 l0 l1 l2 l3 H = some (r, H')) : H'.length = H.length := by
  unfold fm_X11_sheet_b35 at h
  by_cases c36 : l2 = 0
  · replace h := qv_pos c36 h
    exact tlb_X11_sheet_49 l0 l1 l2 l3 H h
  · replace h := qv_neg c36 h
    by_cases c40 : 0 ≤ l3
    · replace h := qv_pos c40 h
      exact tlb_X11_sheet_49 l0 l1 l2 l3 H h
    · replace h := qv_neg c40 h
      obtain ⟨g45, h⟩ := qv_guard h
      obtain ⟨v45, H45, e45, h⟩ := qv_bind2 h
      have q_H45 := tl_X11_error e45
      obtain ⟨rfl, rfl⟩ := qv_pair h
      omega
theorem tb_X11_sheet_0 {st : xT} {d : Nat} {R : Option Value → qx_H → Prop} (hd : 2 ≤ d) {r : Int32} {H' : qx_H} (hR : R (some (.int r)) H') (a0 : Nat) (a1 : Int32) (a2 : Int32) (a3 : Int32) (H : qx_H) (h : fm_X11_sheet a0 a1 a2 a3 H = some (r, H')) : qx_V (xE st d) R (xc220 st) (0, [some (.ref a0), some (.int a1), some (.int a2), some (.int a3), none], [], H) := by
  unfold fm_X11_sheet at h
  refine qv_run 1 (σ := (1, [some (.ref a0), some (.int a1), some (.int a2), some (.int a3), none], [.int a1], H)) rfl ?_
  refine qv_call [.int a1] rfl rfl rfl (Nat.le_of_ble_eq_true rfl) (th_X11_isSheet (by omega) rfl) rfl ?_
  refine qv_br (c := (fm_X11_isSheet a1) = 0) (a := (29, [some (.ref a0), some (.int a1), some (.int a2), some (.int a3), none], [], H)) (b := (7, [some (.ref a0), some (.int a1), some (.int a2), some (.int a3), none], [], H)) 1 rfl (fun c4 => ?_) (fun c4 => ?_)
  · replace h := qv_pos c4 h
    exact tb_X11_sheet_29 hd hR a0 (some (.int a1)) rfl (some (.int a2)) rfl (some (.int a3)) rfl H h
  · replace h := qv_neg c4 h
    refine qv_br (c := a2 = 0) (a := (35, [some (.ref a0), some (.int a1), some (.int a2), some (.int a3), none], [], H)) (b := (11, [some (.ref a0), some (.int a1), some (.int a2), some (.int a3), none], [], H)) 2 rfl (fun c8 => ?_) (fun c8 => ?_)
    · replace h := qv_pos c8 h
      exact tb_X11_sheet_35 hd hR a0 a1 a2 a3 H h
    · replace h := qv_neg c8 h
      refine qv_br (c := a2 = 8) (a := (35, [some (.ref a0), some (.int a1), some (.int a2), some (.int a3), none], [], H)) (b := (17, [some (.ref a0), some (.int a1), some (.int a2), some (.int a3), none], [], H)) 3 rfl (fun c14 => ?_) (fun c14 => ?_)
      · replace h := qv_pos c14 h
        exact tb_X11_sheet_35 hd hR a0 a1 a2 a3 H h
      · replace h := qv_neg c14 h
        refine qv_br (c := a2 = 16) (a := (35, [some (.ref a0), some (.int a1), some (.int a2), some (.int a3), none], [], H)) (b := (23, [some (.ref a0), some (.int a1), some (.int a2), some (.int a3), none], [], H)) 3 rfl (fun c20 => ?_) (fun c20 => ?_)
        · replace h := qv_pos c20 h
          exact tb_X11_sheet_35 hd hR a0 a1 a2 a3 H h
        · replace h := qv_neg c20 h
          refine qv_br (c := a2 = 32) (a := (35, [some (.ref a0), some (.int a1), some (.int a2), some (.int a3), none], [], H)) (b := (29, [some (.ref a0), some (.int a1), some (.int a2), some (.int a3), none], [], H)) 3 rfl (fun c26 => ?_) (fun c26 => ?_)
          · replace h := qv_pos c26 h
            exact tb_X11_sheet_35 hd hR a0 a1 a2 a3 H h
          · replace h := qv_neg c26 h
            exact tb_X11_sheet_29 hd hR a0 (some (.int a1)) rfl (some (.int a2)) rfl (some (.int a3)) rfl H h
theorem tlb_X11_sheet_0 {r : Int32} {H' : qx_H} (a0 : Nat) (a1 : Int32) (a2 : Int32) (a3 : Int32) (H : qx_H) (h : fm_X11_sheet a0 a1 a2 a3 H = some (r, H')) : H'.length = H.length := by
  unfold fm_X11_sheet at h
  by_cases c4 : (fm_X11_isSheet a1) = 0
  · replace h := qv_pos c4 h
    exact tlb_X11_sheet_29 a0 H h
  · replace h := qv_neg c4 h
    by_cases c8 : a2 = 0
    · replace h := qv_pos c8 h
      exact tlb_X11_sheet_35 a0 a1 a2 a3 H h
    · replace h := qv_neg c8 h
      by_cases c14 : a2 = 8
      · replace h := qv_pos c14 h
        exact tlb_X11_sheet_35 a0 a1 a2 a3 H h
      · replace h := qv_neg c14 h
        by_cases c20 : a2 = 16
        · replace h := qv_pos c20 h
          exact tlb_X11_sheet_35 a0 a1 a2 a3 H h
        · replace h := qv_neg c20 h
          by_cases c26 : a2 = 32
          · replace h := qv_pos c26 h
            exact tlb_X11_sheet_35 a0 a1 a2 a3 H h
          · replace h := qv_neg c26 h
            exact tlb_X11_sheet_29 a0 H h
theorem th_X11_sheet {st : xT} {d : Nat} (hd : 3 ≤ d) {a0 : Nat} {a1 : Int32} {a2 : Int32} {a3 : Int32} {H : qx_H} {r : Int32} {H' : qx_H} (h : fm_X11_sheet a0 a1 a2 a3 H = some (r, H')) : xE st d 220 [.ref a0, .int a1, .int a2, .int a3] H (some (.int r)) H' := by
  obtain ⟨d, rfl⟩ : ∃ d', d = d' + 1 := ⟨d - 1, by omega⟩
  exact xE_of (xe220 st) xl220 (Nat.le_of_ble_eq_true rfl) (ls := [some (.ref a0), some (.int a1), some (.int a2), some (.int a3), none]) rfl (tb_X11_sheet_0 (by omega) ⟨rfl, rfl⟩ a0 a1 a2 a3 H h)
theorem tl_X11_sheet {a0 : Nat} {a1 : Int32} {a2 : Int32} {a3 : Int32} {H : qx_H} {r : Int32} {H' : qx_H} (h : fm_X11_sheet a0 a1 a2 a3 H = some (r, H')) : H'.length = H.length := tlb_X11_sheet_0 a0 a1 a2 a3 H h
def fm_X11_put (a0 : Nat) (a1 : Int32) (a2 : Int32) (a3 : Int32) (H : qx_H) : Option (Int32 × qx_H) := if (fm_X11_isSheet a1) = 0 then (if hp_is H a0 9 = true then (ob2 (fm_X11_error a0 1 H) fun v9 H9 => some (v9, H9)) else none) else ((hp_gR H a0 9 19).bind fun v14 => (hp_ald H v14 a1).bind fun v18 => if v18 = 0 then (if hp_is H a0 9 = true then (ob2 (fm_X11_error a0 2 H) fun v24 H24 => some (v24, H24)) else none) else ((hp_gR H a0 9 20).bind fun v31 => (hp_ald H v31 a1).bind fun v35 => if (fm_X11_in a2 0 (v35 - 1)) = 0 then (if hp_is H a0 9 = true then (ob2 (fm_X11_error a0 1 H) fun v46 H46 => some (v46, H46)) else none) else ((hp_gR H a0 9 19).bind fun v53 => (hp_ald H v53 a1).bind fun v57 => (hp_gR H a0 9 21).bind fun v62 => (hp_ast H v62 ((40 * a1) + a2) (ji_shr (ji_shl a3 (32 - v57)) (32 - v57))).bind fun H78 => some (1, H78))))
theorem tb_X11_put_0 {st : xT} {d : Nat} {R : Option Value → qx_H → Prop} (hd : 2 ≤ d) {r : Int32} {H' : qx_H} (hR : R (some (.int r)) H') (a0 : Nat) (a1 : Int32) (a2 : Int32) (a3 : Int32) (H : qx_H) (h : fm_X11_put a0 a1 a2 a3 H = some (r, H')) : qx_V (xE st d) R (xc221 st) (0, [some (.ref a0), some (.int a1), some (.int a2), some (.int a3), none], [], H) := by
  unfold fm_X11_put at h
  refine qv_run 1 (σ := (1, [some (.ref a0), some (.int a1), some (.int a2), some (.int a3), none], [.int a1], H)) rfl ?_
  refine qv_call [.int a1] rfl rfl rfl (Nat.le_of_ble_eq_true rfl) (th_X11_isSheet (by omega) rfl) rfl ?_
  refine qv_br (c := (fm_X11_isSheet a1) = 0) (a := (7, [some (.ref a0), some (.int a1), some (.int a2), some (.int a3), none], [], H)) (b := (13, [some (.ref a0), some (.int a1), some (.int a2), some (.int a3), none], [], H)) 1 rfl (fun c4 => ?_) (fun c4 => ?_)
  · replace h := qv_pos c4 h
    refine qv_run 2 (σ := (9, [some (.ref a0), some (.int a1), some (.int a2), some (.int a3), none], [.int 1, .ref a0], H)) rfl ?_
    obtain ⟨g9, h⟩ := qv_guard h
    obtain ⟨v9, H9, e9, h⟩ := qv_bind2 h
    refine qv_callV [.int 1] rfl rfl rfl (Nat.le_of_ble_eq_true rfl) g9 (th_X11_error (by omega) e9) (tl_X11_error e9) ?_
    obtain ⟨rfl, rfl⟩ := qv_pair h
    exact qv_reti rfl hR
  · replace h := qv_neg c4 h
    refine qv_run 1 (σ := (14, [some (.ref a0), some (.int a1), some (.int a2), some (.int a3), none], [.ref a0], H)) rfl ?_
    obtain ⟨v14, e14, h⟩ := qv_bind h
    refine qv_getR rfl e14 ?_
    refine qv_run 1 (σ := (18, [some (.ref a0), some (.int a1), some (.int a2), some (.int a3), none], [.int a1, .ref v14], H)) rfl ?_
    obtain ⟨v18, e18, h⟩ := qv_bind h
    refine qv_ald rfl e18 ?_
    refine qv_br (c := v18 = 0) (a := (22, [some (.ref a0), some (.int a1), some (.int a2), some (.int a3), none], [], H)) (b := (28, [some (.ref a0), some (.int a1), some (.int a2), some (.int a3), none], [], H)) 1 rfl (fun c19 => ?_) (fun c19 => ?_)
    · replace h := qv_pos c19 h
      refine qv_run 2 (σ := (24, [some (.ref a0), some (.int a1), some (.int a2), some (.int a3), none], [.int 2, .ref a0], H)) rfl ?_
      obtain ⟨g24, h⟩ := qv_guard h
      obtain ⟨v24, H24, e24, h⟩ := qv_bind2 h
      refine qv_callV [.int 2] rfl rfl rfl (Nat.le_of_ble_eq_true rfl) g24 (th_X11_error (by omega) e24) (tl_X11_error e24) ?_
      obtain ⟨rfl, rfl⟩ := qv_pair h
      exact qv_reti rfl hR
    · replace h := qv_neg c19 h
      refine qv_run 3 (σ := (31, [some (.ref a0), some (.int a1), some (.int a2), some (.int a3), none], [.ref a0, .int 0, .int a2], H)) rfl ?_
      obtain ⟨v31, e31, h⟩ := qv_bind h
      refine qv_getR rfl e31 ?_
      refine qv_run 1 (σ := (35, [some (.ref a0), some (.int a1), some (.int a2), some (.int a3), none], [.int a1, .ref v31, .int 0, .int a2], H)) rfl ?_
      obtain ⟨v35, e35, h⟩ := qv_bind h
      refine qv_ald rfl e35 ?_
      refine qv_run 2 (σ := (38, [some (.ref a0), some (.int a1), some (.int a2), some (.int a3), none], [.int (v35 - 1), .int 0, .int a2], H)) rfl ?_
      refine qv_call [.int a2, .int 0, .int (v35 - 1)] rfl rfl rfl (Nat.le_of_ble_eq_true rfl) (th_X11_in (by omega) rfl) rfl ?_
      refine qv_br (c := (fm_X11_in a2 0 (v35 - 1)) = 0) (a := (44, [some (.ref a0), some (.int a1), some (.int a2), some (.int a3), none], [], H)) (b := (50, [some (.ref a0), some (.int a1), some (.int a2), some (.int a3), none], [], H)) 1 rfl (fun c41 => ?_) (fun c41 => ?_)
      · replace h := qv_pos c41 h
        refine qv_run 2 (σ := (46, [some (.ref a0), some (.int a1), some (.int a2), some (.int a3), none], [.int 1, .ref a0], H)) rfl ?_
        obtain ⟨g46, h⟩ := qv_guard h
        obtain ⟨v46, H46, e46, h⟩ := qv_bind2 h
        refine qv_callV [.int 1] rfl rfl rfl (Nat.le_of_ble_eq_true rfl) g46 (th_X11_error (by omega) e46) (tl_X11_error e46) ?_
        obtain ⟨rfl, rfl⟩ := qv_pair h
        exact qv_reti rfl hR
      · replace h := qv_neg c41 h
        refine qv_run 2 (σ := (53, [some (.ref a0), some (.int a1), some (.int a2), some (.int a3), none], [.ref a0, .int 32], H)) rfl ?_
        obtain ⟨v53, e53, h⟩ := qv_bind h
        refine qv_getR rfl e53 ?_
        refine qv_run 1 (σ := (57, [some (.ref a0), some (.int a1), some (.int a2), some (.int a3), none], [.int a1, .ref v53, .int 32], H)) rfl ?_
        obtain ⟨v57, e57, h⟩ := qv_bind h
        refine qv_ald rfl e57 ?_
        refine qv_run 3 (σ := (62, [some (.ref a0), some (.int a1), some (.int a2), some (.int a3), some (.int (32 - v57))], [.ref a0], H)) rfl ?_
        obtain ⟨v62, e62, h⟩ := qv_bind h
        refine qv_getR rfl e62 ?_
        refine qv_run 10 (σ := (78, [some (.ref a0), some (.int a1), some (.int a2), some (.int a3), some (.int (32 - v57))], [.int (ji_shr (ji_shl a3 (32 - v57)) (32 - v57)), .int ((40 * a1) + a2), .ref v62], H)) rfl ?_
        obtain ⟨H78, e78, h⟩ := qv_bind h
        refine qv_ast rfl e78 ?_
        refine qv_run 1 (σ := (80, [some (.ref a0), some (.int a1), some (.int a2), some (.int a3), some (.int (32 - v57))], [.int 1], H78)) rfl ?_
        obtain ⟨rfl, rfl⟩ := qv_pair h
        exact qv_reti rfl hR
theorem tlb_X11_put_0 {r : Int32} {H' : qx_H} (a0 : Nat) (a1 : Int32) (a2 : Int32) (a3 : Int32) (H : qx_H) (h : fm_X11_put a0 a1 a2 a3 H = some (r, H')) : H'.length = H.length := by
  unfold fm_X11_put at h
  by_cases c4 : (fm_X11_isSheet a1) = 0
  · replace h := qv_pos c4 h
    obtain ⟨g9, h⟩ := qv_guard h
    obtain ⟨v9, H9, e9, h⟩ := qv_bind2 h
    have q_H9 := tl_X11_error e9
    obtain ⟨rfl, rfl⟩ := qv_pair h
    omega
  · replace h := qv_neg c4 h
    obtain ⟨v14, e14, h⟩ := qv_bind h
    obtain ⟨v18, e18, h⟩ := qv_bind h
    by_cases c19 : v18 = 0
    · replace h := qv_pos c19 h
      obtain ⟨g24, h⟩ := qv_guard h
      obtain ⟨v24, H24, e24, h⟩ := qv_bind2 h
      have q_H24 := tl_X11_error e24
      obtain ⟨rfl, rfl⟩ := qv_pair h
      omega
    · replace h := qv_neg c19 h
      obtain ⟨v31, e31, h⟩ := qv_bind h
      obtain ⟨v35, e35, h⟩ := qv_bind h
      by_cases c41 : (fm_X11_in a2 0 (v35 - 1)) = 0
      · replace h := qv_pos c41 h
        obtain ⟨g46, h⟩ := qv_guard h
        obtain ⟨v46, H46, e46, h⟩ := qv_bind2 h
        have q_H46 := tl_X11_error e46
        obtain ⟨rfl, rfl⟩ := qv_pair h
        omega
      · replace h := qv_neg c41 h
        obtain ⟨v53, e53, h⟩ := qv_bind h
        obtain ⟨v57, e57, h⟩ := qv_bind h
        obtain ⟨v62, e62, h⟩ := qv_bind h
        obtain ⟨H78, e78, h⟩ := qv_bind h
        have q_H78 := hp_ast_len e78
        obtain ⟨rfl, rfl⟩ := qv_pair h
        omega
theorem th_X11_put {st : xT} {d : Nat} (hd : 3 ≤ d) {a0 : Nat} {a1 : Int32} {a2 : Int32} {a3 : Int32} {H : qx_H} {r : Int32} {H' : qx_H} (h : fm_X11_put a0 a1 a2 a3 H = some (r, H')) : xE st d 221 [.ref a0, .int a1, .int a2, .int a3] H (some (.int r)) H' := by
  obtain ⟨d, rfl⟩ : ∃ d', d = d' + 1 := ⟨d - 1, by omega⟩
  exact xE_of (xe221 st) xl221 (Nat.le_of_ble_eq_true rfl) (ls := [some (.ref a0), some (.int a1), some (.int a2), some (.int a3), none]) rfl (tb_X11_put_0 (by omega) ⟨rfl, rfl⟩ a0 a1 a2 a3 H h)
theorem tl_X11_put {a0 : Nat} {a1 : Int32} {a2 : Int32} {a3 : Int32} {H : qx_H} {r : Int32} {H' : qx_H} (h : fm_X11_put a0 a1 a2 a3 H = some (r, H')) : H'.length = H.length := tlb_X11_put_0 a0 a1 a2 a3 H h
def fm_X11_move_b14 (l0 : Nat) (H : qx_H) : Option (Int32 × qx_H) := if hp_is H l0 9 = true then (ob2 (fm_X11_error l0 1 H) fun v16 H16 => some (v16, H16)) else none
def fm_X11_move_b38 (l0 : Nat) (H : qx_H) : Option (Int32 × qx_H) := if hp_is H l0 9 = true then (ob2 (fm_X11_error l0 2 H) fun v40 H40 => some (v40, H40)) else none
def fm_X11_move_b106 (l0 : Nat) (H : qx_H) : Option (Int32 × qx_H) := if hp_is H l0 9 = true then (ob2 (fm_X11_error l0 1 H) fun v108 H108 => some (v108, H108)) else none
def fm_X11_move_b152 : Nat → Nat → Int32 → Int32 → Int32 → Int32 → qx_H → Option (Int32 × qx_H)
  | 0, _, _, _, _, _, _ => none
  | n + 1, l0, l3, l4, l5, l6, H => if l5 ≤ l6 then (some (l5, H)) else ((hp_gR H l0 9 21).bind fun v160 => (hp_gR H l0 9 22).bind fun v174 => (hp_ald H v174 l6).bind fun v179 => (hp_ast H v160 (((40 * l3) + l4) + l6) v179).bind fun H180 => fm_X11_move_b152 n l0 l3 l4 l5 (l6 + 1) H180)
def fm_X11_move_b115 : Nat → Nat → Int32 → Int32 → Int32 → Int32 → Int32 → Int32 → qx_H → Option (Int32 × qx_H)
  | 0, _, _, _, _, _, _, _, _ => none
  | n + 1, l0, l1, l2, l3, l4, l5, l6, H => if l5 ≤ l6 then (fm_X11_move_b152 5000 l0 l3 l4 l5 0 H) else ((hp_gR H l0 9 22).bind fun v123 => (hp_gR H l0 9 21).bind fun v129 => (hp_ald H v129 (((40 * l1) + l2) + l6)).bind fun v141 => (hp_ast H v123 l6 v141).bind fun H142 => fm_X11_move_b115 n l0 l1 l2 l3 l4 l5 (l6 + 1) H142)
def fm_X11_move (a0 : Nat) (a1 : Int32) (a2 : Int32) (a3 : Int32) (a4 : Int32) (a5 : Int32) (H : qx_H) : Option (Int32 × qx_H) := if (fm_X11_isSheet a1) = 0 then (fm_X11_move_b14 a0 H) else (if (fm_X11_isSheet a3) = 0 then (fm_X11_move_b14 a0 H) else ((hp_gR H a0 9 19).bind fun v21 => (hp_ald H v21 a1).bind fun v25 => if v25 = 0 then (fm_X11_move_b38 a0 H) else ((hp_gR H a0 9 19).bind fun v30 => (hp_ald H v30 a3).bind fun v34 => if v34 = 0 then (fm_X11_move_b38 a0 H) else ((hp_gR H a0 9 19).bind fun v45 => (hp_ald H v45 a1).bind fun v49 => (hp_gR H a0 9 19).bind fun v51 => (hp_ald H v51 a3).bind fun v55 => if v49 = v55 then (if a5 < 0 then (fm_X11_move_b106 a0 H) else (if a2 < 0 then (fm_X11_move_b106 a0 H) else (if a4 < 0 then (fm_X11_move_b106 a0 H) else ((hp_gR H a0 9 20).bind fun v81 => (hp_ald H v81 a1).bind fun v85 => if (v85 - a5) < a2 then (fm_X11_move_b106 a0 H) else ((hp_gR H a0 9 20).bind fun v95 => (hp_ald H v95 a3).bind fun v99 => if a4 ≤ (v99 - a5) then (fm_X11_move_b115 5000 a0 a1 a2 a3 a4 a5 0 H) else (fm_X11_move_b106 a0 H)))))) else (if hp_is H a0 9 = true then (ob2 (fm_X11_error a0 5 H) fun v61 H61 => some (v61, H61)) else none)))))
theorem tb_X11_move_14 {st : xT} {d : Nat} {R : Option Value → qx_H → Prop} (hd : 2 ≤ d) {r : Int32} {H' : qx_H} (hR : R (some (.int r)) H') (l0 : Nat) (z1 : Option Value) (hz1 : qx_ns z1 = true) (z2 : Option Value) (hz2 : qx_ns z2 = true) (z3 : Option Value) (hz3 : qx_ns z3 = true) (z4 : Option Value) (hz4 : qx_ns z4 = true) (z5 : Option Value) (hz5 : qx_ns z5 = true) (H : qx_H) (h : fm_X11_move_b14 l0 H = some (r, H')) : qx_V (xE st d) R (xc222 st) (14, [some (.ref l0), z1, z2, z3, z4, z5, none], [], H) := by
  unfold fm_X11_move_b14 at h
  refine qv_run 2 (σ := (16, [some (.ref l0), z1, z2, z3, z4, z5, none], [.int 1, .ref l0], H)) rfl ?_
  obtain ⟨g16, h⟩ := qv_guard h
  obtain ⟨v16, H16, e16, h⟩ := qv_bind2 h
  refine qv_callV [.int 1] rfl rfl rfl (Nat.le_of_ble_eq_true rfl) g16 (th_X11_error (by omega) e16) (tl_X11_error e16) ?_
  obtain ⟨rfl, rfl⟩ := qv_pair h
  exact qv_reti rfl hR
theorem tlb_X11_move_14 {r : Int32} {H' : qx_H} (l0 : Nat) (H : qx_H) (h : fm_X11_move_b14 l0 H = some (r, H')) : H'.length = H.length := by
  unfold fm_X11_move_b14 at h
  obtain ⟨g16, h⟩ := qv_guard h
  obtain ⟨v16, H16, e16, h⟩ := qv_bind2 h
  have q_H16 := tl_X11_error e16
  obtain ⟨rfl, rfl⟩ := qv_pair h
  omega
theorem tb_X11_move_38 {st : xT} {d : Nat} {R : Option Value → qx_H → Prop} (hd : 2 ≤ d) {r : Int32} {H' : qx_H} (hR : R (some (.int r)) H') (l0 : Nat) (z1 : Option Value) (hz1 : qx_ns z1 = true) (z2 : Option Value) (hz2 : qx_ns z2 = true) (z3 : Option Value) (hz3 : qx_ns z3 = true) (z4 : Option Value) (hz4 : qx_ns z4 = true) (z5 : Option Value) (hz5 : qx_ns z5 = true) (H : qx_H) (h : fm_X11_move_b38 l0 H = some (r, H')) : qx_V (xE st d) R (xc222 st) (38, [some (.ref l0), z1, z2, z3, z4, z5, none], [], H) := by
  unfold fm_X11_move_b38 at h
  refine qv_run 2 (σ := (40, [some (.ref l0), z1, z2, z3, z4, z5, none], [.int 2, .ref l0], H)) rfl ?_
  obtain ⟨g40, h⟩ := qv_guard h
  obtain ⟨v40, H40, e40, h⟩ := qv_bind2 h
  refine qv_callV [.int 2] rfl rfl rfl (Nat.le_of_ble_eq_true rfl) g40 (th_X11_error (by omega) e40) (tl_X11_error e40) ?_
  obtain ⟨rfl, rfl⟩ := qv_pair h
  exact qv_reti rfl hR
theorem tlb_X11_move_38 {r : Int32} {H' : qx_H} (l0 : Nat) (H : qx_H) (h : fm_X11_move_b38 l0 H = some (r, H')) : H'.length = H.length := by
  unfold fm_X11_move_b38 at h
  obtain ⟨g40, h⟩ := qv_guard h
  obtain ⟨v40, H40, e40, h⟩ := qv_bind2 h
  have q_H40 := tl_X11_error e40
  obtain ⟨rfl, rfl⟩ := qv_pair h
  omega
theorem tb_X11_move_106 {st : xT} {d : Nat} {R : Option Value → qx_H → Prop} (hd : 2 ≤ d) {r : Int32} {H' : qx_H} (hR : R (some (.int r)) H') (l0 : Nat) (z1 : Option Value) (hz1 : qx_ns z1 = true) (z2 : Option Value) (hz2 : qx_ns z2 = true) (z3 : Option Value) (hz3 : qx_ns z3 = true) (z4 : Option Value) (hz4 : qx_ns z4 = true) (z5 : Option Value) (hz5 : qx_ns z5 = true) (H : qx_H) (h : fm_X11_move_b106 l0 H = some (r, H')) : qx_V (xE st d) R (xc222 st) (106, [some (.ref l0), z1, z2, z3, z4, z5, none], [], H) := by
  unfold fm_X11_move_b106 at h
  refine qv_run 2 (σ := (108, [some (.ref l0), z1, z2, z3, z4, z5, none], [.int 1, .ref l0], H)) rfl ?_
  obtain ⟨g108, h⟩ := qv_guard h
  obtain ⟨v108, H108, e108, h⟩ := qv_bind2 h
  refine qv_callV [.int 1] rfl rfl rfl (Nat.le_of_ble_eq_true rfl) g108 (th_X11_error (by omega) e108) (tl_X11_error e108) ?_
  obtain ⟨rfl, rfl⟩ := qv_pair h
  exact qv_reti rfl hR
theorem tlb_X11_move_106 {r : Int32} {H' : qx_H} (l0 : Nat) (H : qx_H) (h : fm_X11_move_b106 l0 H = some (r, H')) : H'.length = H.length := by
  unfold fm_X11_move_b106 at h
  obtain ⟨g108, h⟩ := qv_guard h
  obtain ⟨v108, H108, e108, h⟩ := qv_bind2 h
  have q_H108 := tl_X11_error e108
  obtain ⟨rfl, rfl⟩ := qv_pair h
  omega
theorem tb_X11_move_152 {st : xT} {d : Nat} {R : Option Value → qx_H → Prop} (hd : 2 ≤ d) {r : Int32} {H' : qx_H} (hR : R (some (.int r)) H') : ∀ (n : Nat) (l0 : Nat) (l3 : Int32) (l4 : Int32) (l5 : Int32) (l6 : Int32) (z1 : Option Value) (hz1 : qx_ns z1 = true) (z2 : Option Value) (hz2 : qx_ns z2 = true) (H : qx_H) (h : fm_X11_move_b152 n l0 l3 l4 l5 l6 H = some (r, H')), qx_V (xE st d) R (xc222 st) (152, [some (.ref l0), z1, z2, some (.int l3), some (.int l4), some (.int l5), some (.int l6)], [], H) := by
  intro n
  induction n with
  | zero => intro l0 l3 l4 l5 l6 z1 hz1 z2 hz2 H h; exact nomatch (show (none : Option (Int32 × qx_H)) = some (r, H') from h)
  | succ n ih =>
    intro l0 l3 l4 l5 l6 z1 hz1 z2 hz2 H h
    unfold fm_X11_move_b152 at h
    refine qv_br (c := l5 ≤ l6) (a := (187, [some (.ref l0), z1, z2, some (.int l3), some (.int l4), some (.int l5), some (.int l6)], [], H)) (b := (159, [some (.ref l0), z1, z2, some (.int l3), some (.int l4), some (.int l5), some (.int l6)], [], H)) 3 rfl (fun c156 => ?_) (fun c156 => ?_)
    · replace h := qv_pos c156 h
      refine qv_run 1 (σ := (189, [some (.ref l0), z1, z2, some (.int l3), some (.int l4), some (.int l5), some (.int l6)], [.int l5], H)) rfl ?_
      obtain ⟨rfl, rfl⟩ := qv_pair h
      exact qv_reti rfl hR
    · replace h := qv_neg c156 h
      refine qv_run 1 (σ := (160, [some (.ref l0), z1, z2, some (.int l3), some (.int l4), some (.int l5), some (.int l6)], [.ref l0], H)) rfl ?_
      obtain ⟨v160, e160, h⟩ := qv_bind h
      refine qv_getR rfl e160 ?_
      refine qv_run 8 (σ := (174, [some (.ref l0), z1, z2, some (.int l3), some (.int l4), some (.int l5), some (.int l6)], [.ref l0, .int (((40 * l3) + l4) + l6), .ref v160], H)) rfl ?_
      obtain ⟨v174, e174, h⟩ := qv_bind h
      refine qv_getR rfl e174 ?_
      refine qv_run 1 (σ := (179, [some (.ref l0), z1, z2, some (.int l3), some (.int l4), some (.int l5), some (.int l6)], [.int l6, .ref v174, .int (((40 * l3) + l4) + l6), .ref v160], H)) rfl ?_
      obtain ⟨v179, e179, h⟩ := qv_bind h
      refine qv_ald rfl e179 ?_
      obtain ⟨H180, e180, h⟩ := qv_bind h
      refine qv_ast rfl e180 ?_
      refine qv_run 2 (σ := (152, [some (.ref l0), z1, z2, some (.int l3), some (.int l4), some (.int l5), some (.int (l6 + 1))], [], H180)) rfl ?_
      exact ih l0 l3 l4 l5 (l6 + 1) z1 hz1 z2 hz2 H180 h
theorem tlb_X11_move_152 {r : Int32} {H' : qx_H} : ∀ (n : Nat) (l0 : Nat) (l3 : Int32) (l4 : Int32) (l5 : Int32) (l6 : Int32) (H : qx_H) (h : fm_X11_move_b152 n l0 l3 l4 l5 l6 H = some (r, H')), H'.length = H.length := by
  intro n
  induction n with
  | zero => intro l0 l3 l4 l5 l6 H h; exact nomatch (show (none : Option (Int32 × qx_H)) = some (r, H') from h)
  | succ n ih =>
    intro l0 l3 l4 l5 l6 H h
    unfold fm_X11_move_b152 at h
    by_cases c156 : l5 ≤ l6
    · replace h := qv_pos c156 h
      obtain ⟨rfl, rfl⟩ := qv_pair h
      rfl
    · replace h := qv_neg c156 h
      obtain ⟨v160, e160, h⟩ := qv_bind h
      obtain ⟨v174, e174, h⟩ := qv_bind h
      obtain ⟨v179, e179, h⟩ := qv_bind h
      obtain ⟨H180, e180, h⟩ := qv_bind h
      have q_H180 := hp_ast_len e180
      have q_end := ih l0 l3 l4 l5 (l6 + 1) H180 h
      omega
theorem tb_X11_move_115 {st : xT} {d : Nat} {R : Option Value → qx_H → Prop} (hd : 2 ≤ d) {r : Int32} {H' : qx_H} (hR : R (some (.int r)) H') : ∀ (n : Nat) (l0 : Nat) (l1 : Int32) (l2 : Int32) (l3 : Int32) (l4 : Int32) (l5 : Int32) (l6 : Int32) (H : qx_H) (h : fm_X11_move_b115 n l0 l1 l2 l3 l4 l5 l6 H = some (r, H')), qx_V (xE st d) R (xc222 st) (115, [some (.ref l0), some (.int l1), some (.int l2), some (.int l3), some (.int l4), some (.int l5), some (.int l6)], [], H) := by
  intro n
  induction n with
  | zero => intro l0 l1 l2 l3 l4 l5 l6 H h; exact nomatch (show (none : Option (Int32 × qx_H)) = some (r, H') from h)
  | succ n ih =>
    intro l0 l1 l2 l3 l4 l5 l6 H h
    unfold fm_X11_move_b115 at h
    refine qv_br (c := l5 ≤ l6) (a := (149, [some (.ref l0), some (.int l1), some (.int l2), some (.int l3), some (.int l4), some (.int l5), some (.int l6)], [], H)) (b := (122, [some (.ref l0), some (.int l1), some (.int l2), some (.int l3), some (.int l4), some (.int l5), some (.int l6)], [], H)) 3 rfl (fun c119 => ?_) (fun c119 => ?_)
    · replace h := qv_pos c119 h
      refine qv_run 2 (σ := (152, [some (.ref l0), some (.int l1), some (.int l2), some (.int l3), some (.int l4), some (.int l5), some (.int 0)], [], H)) rfl ?_
      exact tb_X11_move_152 hd hR 5000 l0 l3 l4 l5 0 (some (.int l1)) rfl (some (.int l2)) rfl H h
    · replace h := qv_neg c119 h
      refine qv_run 1 (σ := (123, [some (.ref l0), some (.int l1), some (.int l2), some (.int l3), some (.int l4), some (.int l5), some (.int l6)], [.ref l0], H)) rfl ?_
      obtain ⟨v123, e123, h⟩ := qv_bind h
      refine qv_getR rfl e123 ?_
      refine qv_run 2 (σ := (129, [some (.ref l0), some (.int l1), some (.int l2), some (.int l3), some (.int l4), some (.int l5), some (.int l6)], [.ref l0, .int l6, .ref v123], H)) rfl ?_
      obtain ⟨v129, e129, h⟩ := qv_bind h
      refine qv_getR rfl e129 ?_
      refine qv_run 7 (σ := (141, [some (.ref l0), some (.int l1), some (.int l2), some (.int l3), some (.int l4), some (.int l5), some (.int l6)], [.int (((40 * l1) + l2) + l6), .ref v129, .int l6, .ref v123], H)) rfl ?_
      obtain ⟨v141, e141, h⟩ := qv_bind h
      refine qv_ald rfl e141 ?_
      obtain ⟨H142, e142, h⟩ := qv_bind h
      refine qv_ast rfl e142 ?_
      refine qv_run 2 (σ := (115, [some (.ref l0), some (.int l1), some (.int l2), some (.int l3), some (.int l4), some (.int l5), some (.int (l6 + 1))], [], H142)) rfl ?_
      exact ih l0 l1 l2 l3 l4 l5 (l6 + 1) H142 h
theorem tlb_X11_move_115 {r : Int32} {H' : qx_H} : ∀ (n : Nat) (l0 : Nat) (l1 : Int32) (l2 : Int32) (l3 : Int32) (l4 : Int32) (l5 : Int32) (l6 : Int32) (H : qx_H) (h : fm_X11_move_b115 n l0 l1 l2 l3 l4 l5 l6 H = some (r, H')), H'.length = H.length := by
  intro n
  induction n with
  | zero => intro l0 l1 l2 l3 l4 l5 l6 H h; exact nomatch (show (none : Option (Int32 × qx_H)) = some (r, H') from h)
  | succ n ih =>
    intro l0 l1 l2 l3 l4 l5 l6 H h
    unfold fm_X11_move_b115 at h
    by_cases c119 : l5 ≤ l6
    · replace h := qv_pos c119 h
      exact tlb_X11_move_152 5000 l0 l3 l4 l5 0 H h
    · replace h := qv_neg c119 h
      obtain ⟨v123, e123, h⟩ := qv_bind h
      obtain ⟨v129, e129, h⟩ := qv_bind h
      obtain ⟨v141, e141, h⟩ := qv_bind h
      obtain ⟨H142, e142, h⟩ := qv_bind h
      have q_H142 := hp_ast_len e142
      have q_end := ih l0 l1 l2 l3 l4 l5 (l6 + 1) H142 h
      omega
theorem tb_X11_move_0 {st : xT} {d : Nat} {R : Option Value → qx_H → Prop} (hd : 2 ≤ d) {r : Int32} {H' : qx_H} (hR : R (some (.int r)) H') (a0 : Nat) (a1 : Int32) (a2 : Int32) (a3 : Int32) (a4 : Int32) (a5 : Int32) (H : qx_H) (h : fm_X11_move a0 a1 a2 a3 a4 a5 H = some (r, H')) : qx_V (xE st d) R (xc222 st) (0, [some (.ref a0), some (.int a1), some (.int a2), some (.int a3), some (.int a4), some (.int a5), none], [], H) := by
  unfold fm_X11_move at h
  refine qv_run 1 (σ := (1, [some (.ref a0), some (.int a1), some (.int a2), some (.int a3), some (.int a4), some (.int a5), none], [.int a1], H)) rfl ?_
  refine qv_call [.int a1] rfl rfl rfl (Nat.le_of_ble_eq_true rfl) (th_X11_isSheet (by omega) rfl) rfl ?_
  refine qv_br (c := (fm_X11_isSheet a1) = 0) (a := (14, [some (.ref a0), some (.int a1), some (.int a2), some (.int a3), some (.int a4), some (.int a5), none], [], H)) (b := (7, [some (.ref a0), some (.int a1), some (.int a2), some (.int a3), some (.int a4), some (.int a5), none], [], H)) 1 rfl (fun c4 => ?_) (fun c4 => ?_)
  · replace h := qv_pos c4 h
    exact tb_X11_move_14 hd hR a0 (some (.int a1)) rfl (some (.int a2)) rfl (some (.int a3)) rfl (some (.int a4)) rfl (some (.int a5)) rfl H h
  · replace h := qv_neg c4 h
    refine qv_run 1 (σ := (8, [some (.ref a0), some (.int a1), some (.int a2), some (.int a3), some (.int a4), some (.int a5), none], [.int a3], H)) rfl ?_
    refine qv_call [.int a3] rfl rfl rfl (Nat.le_of_ble_eq_true rfl) (th_X11_isSheet (by omega) rfl) rfl ?_
    refine qv_br (c := (fm_X11_isSheet a3) = 0) (a := (14, [some (.ref a0), some (.int a1), some (.int a2), some (.int a3), some (.int a4), some (.int a5), none], [], H)) (b := (20, [some (.ref a0), some (.int a1), some (.int a2), some (.int a3), some (.int a4), some (.int a5), none], [], H)) 1 rfl (fun c11 => ?_) (fun c11 => ?_)
    · replace h := qv_pos c11 h
      exact tb_X11_move_14 hd hR a0 (some (.int a1)) rfl (some (.int a2)) rfl (some (.int a3)) rfl (some (.int a4)) rfl (some (.int a5)) rfl H h
    · replace h := qv_neg c11 h
      refine qv_run 1 (σ := (21, [some (.ref a0), some (.int a1), some (.int a2), some (.int a3), some (.int a4), some (.int a5), none], [.ref a0], H)) rfl ?_
      obtain ⟨v21, e21, h⟩ := qv_bind h
      refine qv_getR rfl e21 ?_
      refine qv_run 1 (σ := (25, [some (.ref a0), some (.int a1), some (.int a2), some (.int a3), some (.int a4), some (.int a5), none], [.int a1, .ref v21], H)) rfl ?_
      obtain ⟨v25, e25, h⟩ := qv_bind h
      refine qv_ald rfl e25 ?_
      refine qv_br (c := v25 = 0) (a := (38, [some (.ref a0), some (.int a1), some (.int a2), some (.int a3), some (.int a4), some (.int a5), none], [], H)) (b := (29, [some (.ref a0), some (.int a1), some (.int a2), some (.int a3), some (.int a4), some (.int a5), none], [], H)) 1 rfl (fun c26 => ?_) (fun c26 => ?_)
      · replace h := qv_pos c26 h
        exact tb_X11_move_38 hd hR a0 (some (.int a1)) rfl (some (.int a2)) rfl (some (.int a3)) rfl (some (.int a4)) rfl (some (.int a5)) rfl H h
      · replace h := qv_neg c26 h
        refine qv_run 1 (σ := (30, [some (.ref a0), some (.int a1), some (.int a2), some (.int a3), some (.int a4), some (.int a5), none], [.ref a0], H)) rfl ?_
        obtain ⟨v30, e30, h⟩ := qv_bind h
        refine qv_getR rfl e30 ?_
        refine qv_run 1 (σ := (34, [some (.ref a0), some (.int a1), some (.int a2), some (.int a3), some (.int a4), some (.int a5), none], [.int a3, .ref v30], H)) rfl ?_
        obtain ⟨v34, e34, h⟩ := qv_bind h
        refine qv_ald rfl e34 ?_
        refine qv_br (c := v34 = 0) (a := (38, [some (.ref a0), some (.int a1), some (.int a2), some (.int a3), some (.int a4), some (.int a5), none], [], H)) (b := (44, [some (.ref a0), some (.int a1), some (.int a2), some (.int a3), some (.int a4), some (.int a5), none], [], H)) 1 rfl (fun c35 => ?_) (fun c35 => ?_)
        · replace h := qv_pos c35 h
          exact tb_X11_move_38 hd hR a0 (some (.int a1)) rfl (some (.int a2)) rfl (some (.int a3)) rfl (some (.int a4)) rfl (some (.int a5)) rfl H h
        · replace h := qv_neg c35 h
          refine qv_run 1 (σ := (45, [some (.ref a0), some (.int a1), some (.int a2), some (.int a3), some (.int a4), some (.int a5), none], [.ref a0], H)) rfl ?_
          obtain ⟨v45, e45, h⟩ := qv_bind h
          refine qv_getR rfl e45 ?_
          refine qv_run 1 (σ := (49, [some (.ref a0), some (.int a1), some (.int a2), some (.int a3), some (.int a4), some (.int a5), none], [.int a1, .ref v45], H)) rfl ?_
          obtain ⟨v49, e49, h⟩ := qv_bind h
          refine qv_ald rfl e49 ?_
          refine qv_run 1 (σ := (51, [some (.ref a0), some (.int a1), some (.int a2), some (.int a3), some (.int a4), some (.int a5), none], [.ref a0, .int v49], H)) rfl ?_
          obtain ⟨v51, e51, h⟩ := qv_bind h
          refine qv_getR rfl e51 ?_
          refine qv_run 1 (σ := (55, [some (.ref a0), some (.int a1), some (.int a2), some (.int a3), some (.int a4), some (.int a5), none], [.int a3, .ref v51, .int v49], H)) rfl ?_
          obtain ⟨v55, e55, h⟩ := qv_bind h
          refine qv_ald rfl e55 ?_
          refine qv_br (c := v49 = v55) (a := (65, [some (.ref a0), some (.int a1), some (.int a2), some (.int a3), some (.int a4), some (.int a5), none], [], H)) (b := (59, [some (.ref a0), some (.int a1), some (.int a2), some (.int a3), some (.int a4), some (.int a5), none], [], H)) 1 rfl (fun c56 => ?_) (fun c56 => ?_)
          · replace h := qv_pos c56 h
            refine qv_br (c := a5 < 0) (a := (106, [some (.ref a0), some (.int a1), some (.int a2), some (.int a3), some (.int a4), some (.int a5), none], [], H)) (b := (70, [some (.ref a0), some (.int a1), some (.int a2), some (.int a3), some (.int a4), some (.int a5), none], [], H)) 2 rfl (fun c67 => ?_) (fun c67 => ?_)
            · replace h := qv_pos c67 h
              exact tb_X11_move_106 hd hR a0 (some (.int a1)) rfl (some (.int a2)) rfl (some (.int a3)) rfl (some (.int a4)) rfl (some (.int a5)) rfl H h
            · replace h := qv_neg c67 h
              refine qv_br (c := a2 < 0) (a := (106, [some (.ref a0), some (.int a1), some (.int a2), some (.int a3), some (.int a4), some (.int a5), none], [], H)) (b := (74, [some (.ref a0), some (.int a1), some (.int a2), some (.int a3), some (.int a4), some (.int a5), none], [], H)) 2 rfl (fun c71 => ?_) (fun c71 => ?_)
              · replace h := qv_pos c71 h
                exact tb_X11_move_106 hd hR a0 (some (.int a1)) rfl (some (.int a2)) rfl (some (.int a3)) rfl (some (.int a4)) rfl (some (.int a5)) rfl H h
              · replace h := qv_neg c71 h
                refine qv_br (c := a4 < 0) (a := (106, [some (.ref a0), some (.int a1), some (.int a2), some (.int a3), some (.int a4), some (.int a5), none], [], H)) (b := (79, [some (.ref a0), some (.int a1), some (.int a2), some (.int a3), some (.int a4), some (.int a5), none], [], H)) 2 rfl (fun c76 => ?_) (fun c76 => ?_)
                · replace h := qv_pos c76 h
                  exact tb_X11_move_106 hd hR a0 (some (.int a1)) rfl (some (.int a2)) rfl (some (.int a3)) rfl (some (.int a4)) rfl (some (.int a5)) rfl H h
                · replace h := qv_neg c76 h
                  refine qv_run 2 (σ := (81, [some (.ref a0), some (.int a1), some (.int a2), some (.int a3), some (.int a4), some (.int a5), none], [.ref a0, .int a2], H)) rfl ?_
                  obtain ⟨v81, e81, h⟩ := qv_bind h
                  refine qv_getR rfl e81 ?_
                  refine qv_run 1 (σ := (85, [some (.ref a0), some (.int a1), some (.int a2), some (.int a3), some (.int a4), some (.int a5), none], [.int a1, .ref v81, .int a2], H)) rfl ?_
                  obtain ⟨v85, e85, h⟩ := qv_bind h
                  refine qv_ald rfl e85 ?_
                  refine qv_br (c := (v85 - a5) < a2) (a := (106, [some (.ref a0), some (.int a1), some (.int a2), some (.int a3), some (.int a4), some (.int a5), none], [], H)) (b := (92, [some (.ref a0), some (.int a1), some (.int a2), some (.int a3), some (.int a4), some (.int a5), none], [], H)) 3 rfl (fun c89 => ?_) (fun c89 => ?_)
                  · replace h := qv_pos c89 h
                    exact tb_X11_move_106 hd hR a0 (some (.int a1)) rfl (some (.int a2)) rfl (some (.int a3)) rfl (some (.int a4)) rfl (some (.int a5)) rfl H h
                  · replace h := qv_neg c89 h
                    refine qv_run 2 (σ := (95, [some (.ref a0), some (.int a1), some (.int a2), some (.int a3), some (.int a4), some (.int a5), none], [.ref a0, .int a4], H)) rfl ?_
                    obtain ⟨v95, e95, h⟩ := qv_bind h
                    refine qv_getR rfl e95 ?_
                    refine qv_run 1 (σ := (99, [some (.ref a0), some (.int a1), some (.int a2), some (.int a3), some (.int a4), some (.int a5), none], [.int a3, .ref v95, .int a4], H)) rfl ?_
                    obtain ⟨v99, e99, h⟩ := qv_bind h
                    refine qv_ald rfl e99 ?_
                    refine qv_br (c := a4 ≤ (v99 - a5)) (a := (112, [some (.ref a0), some (.int a1), some (.int a2), some (.int a3), some (.int a4), some (.int a5), none], [], H)) (b := (106, [some (.ref a0), some (.int a1), some (.int a2), some (.int a3), some (.int a4), some (.int a5), none], [], H)) 3 rfl (fun c103 => ?_) (fun c103 => ?_)
                    · replace h := qv_pos c103 h
                      refine qv_run 2 (σ := (115, [some (.ref a0), some (.int a1), some (.int a2), some (.int a3), some (.int a4), some (.int a5), some (.int 0)], [], H)) rfl ?_
                      exact tb_X11_move_115 hd hR 5000 a0 a1 a2 a3 a4 a5 0 H h
                    · replace h := qv_neg c103 h
                      exact tb_X11_move_106 hd hR a0 (some (.int a1)) rfl (some (.int a2)) rfl (some (.int a3)) rfl (some (.int a4)) rfl (some (.int a5)) rfl H h
          · replace h := qv_neg c56 h
            refine qv_run 2 (σ := (61, [some (.ref a0), some (.int a1), some (.int a2), some (.int a3), some (.int a4), some (.int a5), none], [.int 5, .ref a0], H)) rfl ?_
            obtain ⟨g61, h⟩ := qv_guard h
            obtain ⟨v61, H61, e61, h⟩ := qv_bind2 h
            refine qv_callV [.int 5] rfl rfl rfl (Nat.le_of_ble_eq_true rfl) g61 (th_X11_error (by omega) e61) (tl_X11_error e61) ?_
            obtain ⟨rfl, rfl⟩ := qv_pair h
            exact qv_reti rfl hR
theorem tlb_X11_move_0 {r : Int32} {H' : qx_H} (a0 : Nat) (a1 : Int32) (a2 : Int32) (a3 : Int32) (a4 : Int32) (a5 : Int32) (H : qx_H) (h : fm_X11_move a0 a1 a2 a3 a4 a5 H = some (r, H')) : H'.length = H.length := by
  unfold fm_X11_move at h
  by_cases c4 : (fm_X11_isSheet a1) = 0
  · replace h := qv_pos c4 h
    exact tlb_X11_move_14 a0 H h
  · replace h := qv_neg c4 h
    by_cases c11 : (fm_X11_isSheet a3) = 0
    · replace h := qv_pos c11 h
      exact tlb_X11_move_14 a0 H h
    · replace h := qv_neg c11 h
      obtain ⟨v21, e21, h⟩ := qv_bind h
      obtain ⟨v25, e25, h⟩ := qv_bind h
      by_cases c26 : v25 = 0
      · replace h := qv_pos c26 h
        exact tlb_X11_move_38 a0 H h
      · replace h := qv_neg c26 h
        obtain ⟨v30, e30, h⟩ := qv_bind h
        obtain ⟨v34, e34, h⟩ := qv_bind h
        by_cases c35 : v34 = 0
        · replace h := qv_pos c35 h
          exact tlb_X11_move_38 a0 H h
        · replace h := qv_neg c35 h
          obtain ⟨v45, e45, h⟩ := qv_bind h
          obtain ⟨v49, e49, h⟩ := qv_bind h
          obtain ⟨v51, e51, h⟩ := qv_bind h
          obtain ⟨v55, e55, h⟩ := qv_bind h
          by_cases c56 : v49 = v55
          · replace h := qv_pos c56 h
            by_cases c67 : a5 < 0
            · replace h := qv_pos c67 h
              exact tlb_X11_move_106 a0 H h
            · replace h := qv_neg c67 h
              by_cases c71 : a2 < 0
              · replace h := qv_pos c71 h
                exact tlb_X11_move_106 a0 H h
              · replace h := qv_neg c71 h
                by_cases c76 : a4 < 0
                · replace h := qv_pos c76 h
                  exact tlb_X11_move_106 a0 H h
                · replace h := qv_neg c76 h
                  obtain ⟨v81, e81, h⟩ := qv_bind h
                  obtain ⟨v85, e85, h⟩ := qv_bind h
                  by_cases c89 : (v85 - a5) < a2
                  · replace h := qv_pos c89 h
                    exact tlb_X11_move_106 a0 H h
                  · replace h := qv_neg c89 h
                    obtain ⟨v95, e95, h⟩ := qv_bind h
                    obtain ⟨v99, e99, h⟩ := qv_bind h
                    by_cases c103 : a4 ≤ (v99 - a5)
                    · replace h := qv_pos c103 h
                      exact tlb_X11_move_115 5000 a0 a1 a2 a3 a4 a5 0 H h
                    · replace h := qv_neg c103 h
                      exact tlb_X11_move_106 a0 H h
          · replace h := qv_neg c56 h
            obtain ⟨g61, h⟩ := qv_guard h
            obtain ⟨v61, H61, e61, h⟩ := qv_bind2 h
            have q_H61 := tl_X11_error e61
            obtain ⟨rfl, rfl⟩ := qv_pair h
            omega
theorem th_X11_move {st : xT} {d : Nat} (hd : 3 ≤ d) {a0 : Nat} {a1 : Int32} {a2 : Int32} {a3 : Int32} {a4 : Int32} {a5 : Int32} {H : qx_H} {r : Int32} {H' : qx_H} (h : fm_X11_move a0 a1 a2 a3 a4 a5 H = some (r, H')) : xE st d 222 [.ref a0, .int a1, .int a2, .int a3, .int a4, .int a5] H (some (.int r)) H' := by
  obtain ⟨d, rfl⟩ : ∃ d', d = d' + 1 := ⟨d - 1, by omega⟩
  exact xE_of (xe222 st) xl222 (Nat.le_of_ble_eq_true rfl) (ls := [some (.ref a0), some (.int a1), some (.int a2), some (.int a3), some (.int a4), some (.int a5), none]) rfl (tb_X11_move_0 (by omega) ⟨rfl, rfl⟩ a0 a1 a2 a3 a4 a5 H h)
theorem tl_X11_move {a0 : Nat} {a1 : Int32} {a2 : Int32} {a3 : Int32} {a4 : Int32} {a5 : Int32} {H : qx_H} {r : Int32} {H' : qx_H} (h : fm_X11_move a0 a1 a2 a3 a4 a5 H = some (r, H')) : H'.length = H.length := tlb_X11_move_0 a0 a1 a2 a3 a4 a5 H h
def fm_X11_lacks (a0 : Nat) (a1 : Int32) (H : qx_H) : Option Int32 := if (fm_X11_isSheet a1) = 0 then (some 1) else ((hp_gR H a0 9 19).bind fun v12 => (hp_ald H v12 a1).bind fun v16 => if v16 = 0 then (some 2) else (some 0))
theorem tb_X11_lacks_0 {st : xT} {d : Nat} {R : Option Value → qx_H → Prop} (hd : 2 ≤ d) {r : Int32} {H : qx_H} (hR : R (some (.int r)) H) (a0 : Nat) (a1 : Int32) (h : fm_X11_lacks a0 a1 H = some r) : qx_V (xE st d) R (xc223 st) (0, [some (.ref a0), some (.int a1)], [], H) := by
  unfold fm_X11_lacks at h
  refine qv_run 1 (σ := (1, [some (.ref a0), some (.int a1)], [.int a1], H)) rfl ?_
  refine qv_call [.int a1] rfl rfl rfl (Nat.le_of_ble_eq_true rfl) (th_X11_isSheet (by omega) rfl) rfl ?_
  refine qv_br (c := (fm_X11_isSheet a1) = 0) (a := (7, [some (.ref a0), some (.int a1)], [], H)) (b := (11, [some (.ref a0), some (.int a1)], [], H)) 1 rfl (fun c4 => ?_) (fun c4 => ?_)
  · replace h := qv_pos c4 h
    refine qv_run 2 (σ := (25, [some (.ref a0), some (.int a1)], [.int 1], H)) rfl ?_
    cases h
    exact qv_reti rfl hR
  · replace h := qv_neg c4 h
    refine qv_run 1 (σ := (12, [some (.ref a0), some (.int a1)], [.ref a0], H)) rfl ?_
    obtain ⟨v12, e12, h⟩ := qv_bind h
    refine qv_getR rfl e12 ?_
    refine qv_run 1 (σ := (16, [some (.ref a0), some (.int a1)], [.int a1, .ref v12], H)) rfl ?_
    obtain ⟨v16, e16, h⟩ := qv_bind h
    refine qv_ald rfl e16 ?_
    refine qv_br (c := v16 = 0) (a := (20, [some (.ref a0), some (.int a1)], [], H)) (b := (24, [some (.ref a0), some (.int a1)], [], H)) 1 rfl (fun c17 => ?_) (fun c17 => ?_)
    · replace h := qv_pos c17 h
      refine qv_run 2 (σ := (25, [some (.ref a0), some (.int a1)], [.int 2], H)) rfl ?_
      cases h
      exact qv_reti rfl hR
    · replace h := qv_neg c17 h
      refine qv_run 1 (σ := (25, [some (.ref a0), some (.int a1)], [.int 0], H)) rfl ?_
      cases h
      exact qv_reti rfl hR
theorem th_X11_lacks {st : xT} {d : Nat} (hd : 3 ≤ d) {a0 : Nat} {a1 : Int32} {r : Int32} {H : qx_H} (h : fm_X11_lacks a0 a1 H = some r) : xE st d 223 [.ref a0, .int a1] H (some (.int r)) H := by
  obtain ⟨d, rfl⟩ : ∃ d', d = d' + 1 := ⟨d - 1, by omega⟩
  exact xE_of (xe223 st) xl223 (Nat.le_of_ble_eq_true rfl) (ls := [some (.ref a0), some (.int a1)]) rfl (tb_X11_lacks_0 (by omega) ⟨rfl, rfl⟩ a0 a1 h)
def fm_X11_cutAll_b18 : Nat → Nat → Int32 → Int32 → qx_H → Option (Int32 × qx_H)
  | 0, _, _, _, _ => none
  | n + 1, l0, l1, l3, H => (hp_gR H l0 9 20).bind fun v20 => (hp_ald H v20 l1).bind fun v24 => if v24 ≤ l3 then (some (l3, H)) else ((hp_gR H l0 9 21).bind fun v29 => (hp_ald H v29 ((40 * l1) + l3)).bind fun v38 => if (fm_X11_isThread v38) = 0 then (some (l3, H)) else ((hp_gR H l0 9 21).bind fun v47 => (hp_ald H v47 ((40 * l1) + l3)).bind fun v56 => if hp_is H l0 9 = true then ((fm_X11_isMissing l0 v56 H).bind fun v57 => if v57 = 0 then ((hp_gR H l0 9 21).bind fun v65 => (hp_ald H v65 ((40 * l1) + l3)).bind fun v74 => (fm_X11_loses l0 v74 H).bind fun H75 => fm_X11_cutAll_b18 n l0 l1 (l3 + 1) H75) else (some (l3, H))) else none))
def fm_X11_cutAll (a0 : Nat) (a1 : Int32) (H : qx_H) : Option (Int32 × qx_H) := if hp_is H a0 9 = true then ((fm_X11_lacks a0 a1 H).bind fun v2 => if v2 ≤ 0 then (fm_X11_cutAll_b18 5000 a0 a1 0 H) else (ob2 (fm_X11_error a0 v2 H) fun v12 H12 => some (v12, H12))) else none
theorem tb_X11_cutAll_18 {st : xT} {d : Nat} {R : Option Value → qx_H → Prop} (hd : 3 ≤ d) {r : Int32} {H' : qx_H} (hR : R (some (.int r)) H') : ∀ (n : Nat) (l0 : Nat) (l1 : Int32) (l3 : Int32) (z2 : Option Value) (hz2 : qx_ns z2 = true) (H : qx_H) (h : fm_X11_cutAll_b18 n l0 l1 l3 H = some (r, H')), qx_V (xE st d) R (xc224 st) (18, [some (.ref l0), some (.int l1), z2, some (.int l3)], [], H) := by
  intro n
  induction n with
  | zero => intro l0 l1 l3 z2 hz2 H h; exact nomatch (show (none : Option (Int32 × qx_H)) = some (r, H') from h)
  | succ n ih =>
    intro l0 l1 l3 z2 hz2 H h
    unfold fm_X11_cutAll_b18 at h
    refine qv_run 2 (σ := (20, [some (.ref l0), some (.int l1), z2, some (.int l3)], [.ref l0, .int l3], H)) rfl ?_
    obtain ⟨v20, e20, h⟩ := qv_bind h
    refine qv_getR rfl e20 ?_
    refine qv_run 1 (σ := (24, [some (.ref l0), some (.int l1), z2, some (.int l3)], [.int l1, .ref v20, .int l3], H)) rfl ?_
    obtain ⟨v24, e24, h⟩ := qv_bind h
    refine qv_ald rfl e24 ?_
    refine qv_br (c := v24 ≤ l3) (a := (84, [some (.ref l0), some (.int l1), z2, some (.int l3)], [], H)) (b := (28, [some (.ref l0), some (.int l1), z2, some (.int l3)], [], H)) 1 rfl (fun c25 => ?_) (fun c25 => ?_)
    · replace h := qv_pos c25 h
      refine qv_run 1 (σ := (85, [some (.ref l0), some (.int l1), z2, some (.int l3)], [.int l3], H)) rfl ?_
      obtain ⟨rfl, rfl⟩ := qv_pair h
      exact qv_reti rfl hR
    · replace h := qv_neg c25 h
      refine qv_run 1 (σ := (29, [some (.ref l0), some (.int l1), z2, some (.int l3)], [.ref l0], H)) rfl ?_
      obtain ⟨v29, e29, h⟩ := qv_bind h
      refine qv_getR rfl e29 ?_
      refine qv_run 5 (σ := (38, [some (.ref l0), some (.int l1), z2, some (.int l3)], [.int ((40 * l1) + l3), .ref v29], H)) rfl ?_
      obtain ⟨v38, e38, h⟩ := qv_bind h
      refine qv_ald rfl e38 ?_
      refine qv_call [.int v38] rfl rfl rfl (Nat.le_of_ble_eq_true rfl) (th_X11_isThread (by omega) rfl) rfl ?_
      refine qv_br (c := (fm_X11_isThread v38) = 0) (a := (84, [some (.ref l0), some (.int l1), z2, some (.int l3)], [], H)) (b := (45, [some (.ref l0), some (.int l1), z2, some (.int l3)], [], H)) 1 rfl (fun c42 => ?_) (fun c42 => ?_)
      · replace h := qv_pos c42 h
        refine qv_run 1 (σ := (85, [some (.ref l0), some (.int l1), z2, some (.int l3)], [.int l3], H)) rfl ?_
        obtain ⟨rfl, rfl⟩ := qv_pair h
        exact qv_reti rfl hR
      · replace h := qv_neg c42 h
        refine qv_run 2 (σ := (47, [some (.ref l0), some (.int l1), z2, some (.int l3)], [.ref l0, .ref l0], H)) rfl ?_
        obtain ⟨v47, e47, h⟩ := qv_bind h
        refine qv_getR rfl e47 ?_
        refine qv_run 5 (σ := (56, [some (.ref l0), some (.int l1), z2, some (.int l3)], [.int ((40 * l1) + l3), .ref v47, .ref l0], H)) rfl ?_
        obtain ⟨v56, e56, h⟩ := qv_bind h
        refine qv_ald rfl e56 ?_
        obtain ⟨g57, h⟩ := qv_guard h
        obtain ⟨v57, e57, h⟩ := qv_bind h
        refine qv_callV [.int v56] rfl rfl rfl (Nat.le_of_ble_eq_true rfl) g57 (th_X11_isMissing (by omega) e57) rfl ?_
        refine qv_br (c := v57 = 0) (a := (63, [some (.ref l0), some (.int l1), z2, some (.int l3)], [], H)) (b := (84, [some (.ref l0), some (.int l1), z2, some (.int l3)], [], H)) 1 rfl (fun c60 => ?_) (fun c60 => ?_)
        · replace h := qv_pos c60 h
          refine qv_run 2 (σ := (65, [some (.ref l0), some (.int l1), z2, some (.int l3)], [.ref l0, .ref l0], H)) rfl ?_
          obtain ⟨v65, e65, h⟩ := qv_bind h
          refine qv_getR rfl e65 ?_
          refine qv_run 5 (σ := (74, [some (.ref l0), some (.int l1), z2, some (.int l3)], [.int ((40 * l1) + l3), .ref v65, .ref l0], H)) rfl ?_
          obtain ⟨v74, e74, h⟩ := qv_bind h
          refine qv_ald rfl e74 ?_
          obtain ⟨H75, e75, h⟩ := qv_bind h
          refine qv_callV [.int v74] rfl rfl rfl (Nat.le_of_ble_eq_true rfl) g57 (th_X11_loses (by omega) e75) (tl_X11_loses e75) ?_
          refine qv_incN (ls' := [some (.ref l0), some (.int l1), z2, some (.int (l3 + 1))]) rfl rfl (qx_kl_ns rfl hz2) rfl ?_
          refine qv_run 1 (σ := (18, [some (.ref l0), some (.int l1), z2, some (.int (l3 + 1))], [], H75)) rfl ?_
          exact ih l0 l1 (l3 + 1) z2 hz2 H75 h
        · replace h := qv_neg c60 h
          refine qv_run 1 (σ := (85, [some (.ref l0), some (.int l1), z2, some (.int l3)], [.int l3], H)) rfl ?_
          obtain ⟨rfl, rfl⟩ := qv_pair h
          exact qv_reti rfl hR
theorem tlb_X11_cutAll_18 {r : Int32} {H' : qx_H} : ∀ (n : Nat) (l0 : Nat) (l1 : Int32) (l3 : Int32) (H : qx_H) (h : fm_X11_cutAll_b18 n l0 l1 l3 H = some (r, H')), H'.length = H.length := by
  intro n
  induction n with
  | zero => intro l0 l1 l3 H h; exact nomatch (show (none : Option (Int32 × qx_H)) = some (r, H') from h)
  | succ n ih =>
    intro l0 l1 l3 H h
    unfold fm_X11_cutAll_b18 at h
    obtain ⟨v20, e20, h⟩ := qv_bind h
    obtain ⟨v24, e24, h⟩ := qv_bind h
    by_cases c25 : v24 ≤ l3
    · replace h := qv_pos c25 h
      obtain ⟨rfl, rfl⟩ := qv_pair h
      rfl
    · replace h := qv_neg c25 h
      obtain ⟨v29, e29, h⟩ := qv_bind h
      obtain ⟨v38, e38, h⟩ := qv_bind h
      by_cases c42 : (fm_X11_isThread v38) = 0
      · replace h := qv_pos c42 h
        obtain ⟨rfl, rfl⟩ := qv_pair h
        rfl
      · replace h := qv_neg c42 h
        obtain ⟨v47, e47, h⟩ := qv_bind h
        obtain ⟨v56, e56, h⟩ := qv_bind h
        obtain ⟨g57, h⟩ := qv_guard h
        obtain ⟨v57, e57, h⟩ := qv_bind h
        by_cases c60 : v57 = 0
        · replace h := qv_pos c60 h
          obtain ⟨v65, e65, h⟩ := qv_bind h
          obtain ⟨v74, e74, h⟩ := qv_bind h
          obtain ⟨H75, e75, h⟩ := qv_bind h
          have q_H75 := tl_X11_loses e75
          have q_end := ih l0 l1 (l3 + 1) H75 h
          omega
        · replace h := qv_neg c60 h
          obtain ⟨rfl, rfl⟩ := qv_pair h
          rfl
theorem tb_X11_cutAll_0 {st : xT} {d : Nat} {R : Option Value → qx_H → Prop} (hd : 3 ≤ d) {r : Int32} {H' : qx_H} (hR : R (some (.int r)) H') (a0 : Nat) (a1 : Int32) (H : qx_H) (h : fm_X11_cutAll a0 a1 H = some (r, H')) : qx_V (xE st d) R (xc224 st) (0, [some (.ref a0), some (.int a1), none, none], [], H) := by
  unfold fm_X11_cutAll at h
  refine qv_run 2 (σ := (2, [some (.ref a0), some (.int a1), none, none], [.int a1, .ref a0], H)) rfl ?_
  obtain ⟨g2, h⟩ := qv_guard h
  obtain ⟨v2, e2, h⟩ := qv_bind h
  refine qv_callV [.int a1] rfl rfl rfl (Nat.le_of_ble_eq_true rfl) g2 (th_X11_lacks (by omega) e2) rfl ?_
  refine qv_br (c := v2 ≤ 0) (a := (16, [some (.ref a0), some (.int a1), some (.int v2), none], [], H)) (b := (10, [some (.ref a0), some (.int a1), some (.int v2), none], [], H)) 3 rfl (fun c7 => ?_) (fun c7 => ?_)
  · replace h := qv_pos c7 h
    refine qv_run 2 (σ := (18, [some (.ref a0), some (.int a1), some (.int v2), some (.int 0)], [], H)) rfl ?_
    exact tb_X11_cutAll_18 hd hR 5000 a0 a1 0 (some (.int v2)) rfl H h
  · replace h := qv_neg c7 h
    refine qv_run 2 (σ := (12, [some (.ref a0), some (.int a1), some (.int v2), none], [.int v2, .ref a0], H)) rfl ?_
    obtain ⟨v12, H12, e12, h⟩ := qv_bind2 h
    refine qv_callV [.int v2] rfl rfl rfl (Nat.le_of_ble_eq_true rfl) g2 (th_X11_error (by omega) e12) (tl_X11_error e12) ?_
    obtain ⟨rfl, rfl⟩ := qv_pair h
    exact qv_reti rfl hR
theorem tlb_X11_cutAll_0 {r : Int32} {H' : qx_H} (a0 : Nat) (a1 : Int32) (H : qx_H) (h : fm_X11_cutAll a0 a1 H = some (r, H')) : H'.length = H.length := by
  unfold fm_X11_cutAll at h
  obtain ⟨g2, h⟩ := qv_guard h
  obtain ⟨v2, e2, h⟩ := qv_bind h
  by_cases c7 : v2 ≤ 0
  · replace h := qv_pos c7 h
    exact tlb_X11_cutAll_18 5000 a0 a1 0 H h
  · replace h := qv_neg c7 h
    obtain ⟨v12, H12, e12, h⟩ := qv_bind2 h
    have q_H12 := tl_X11_error e12
    obtain ⟨rfl, rfl⟩ := qv_pair h
    omega
theorem th_X11_cutAll {st : xT} {d : Nat} (hd : 4 ≤ d) {a0 : Nat} {a1 : Int32} {H : qx_H} {r : Int32} {H' : qx_H} (h : fm_X11_cutAll a0 a1 H = some (r, H')) : xE st d 224 [.ref a0, .int a1] H (some (.int r)) H' := by
  obtain ⟨d, rfl⟩ : ∃ d', d = d' + 1 := ⟨d - 1, by omega⟩
  exact xE_of (xe224 st) xl224 (Nat.le_of_ble_eq_true rfl) (ls := [some (.ref a0), some (.int a1), none, none]) rfl (tb_X11_cutAll_0 (by omega) ⟨rfl, rfl⟩ a0 a1 H h)
theorem tl_X11_cutAll {a0 : Nat} {a1 : Int32} {H : qx_H} {r : Int32} {H' : qx_H} (h : fm_X11_cutAll a0 a1 H = some (r, H')) : H'.length = H.length := tlb_X11_cutAll_0 a0 a1 H h
def fm_X11_judge_b18 : Nat → Nat → Int32 → Int32 → qx_H → Option (Int32 × qx_H)
  | 0, _, _, _, _ => none
  | n + 1, l0, l1, l3, H => (hp_gR H l0 9 20).bind fun v20 => (hp_ald H v20 l1).bind fun v24 => if v24 ≤ l3 then (some (l3, H)) else (if 31 ≤ l3 then (some (l3, H)) else ((hp_gR H l0 9 21).bind fun v35 => (hp_ald H v35 ((40 * l1) + l3)).bind fun v44 => if hp_is H l0 9 = true then ((fm_X11_of l0 l3 1 H).bind fun v48 => if v44 = v48 then (fm_X11_judge_b18 n l0 l1 (l3 + 1) H) else (some (l3, H))) else none))
def fm_X11_judge (a0 : Nat) (a1 : Int32) (H : qx_H) : Option (Int32 × qx_H) := if hp_is H a0 9 = true then ((fm_X11_lacks a0 a1 H).bind fun v2 => if v2 ≤ 0 then (fm_X11_judge_b18 5000 a0 a1 0 H) else (ob2 (fm_X11_error a0 v2 H) fun v12 H12 => some (v12, H12))) else none
theorem tb_X11_judge_18 {st : xT} {d : Nat} {R : Option Value → qx_H → Prop} (hd : 3 ≤ d) {r : Int32} {H' : qx_H} (hR : R (some (.int r)) H') : ∀ (n : Nat) (l0 : Nat) (l1 : Int32) (l3 : Int32) (z2 : Option Value) (hz2 : qx_ns z2 = true) (H : qx_H) (h : fm_X11_judge_b18 n l0 l1 l3 H = some (r, H')), qx_V (xE st d) R (xc225 st) (18, [some (.ref l0), some (.int l1), z2, some (.int l3)], [], H) := by
  intro n
  induction n with
  | zero => intro l0 l1 l3 z2 hz2 H h; exact nomatch (show (none : Option (Int32 × qx_H)) = some (r, H') from h)
  | succ n ih =>
    intro l0 l1 l3 z2 hz2 H h
    unfold fm_X11_judge_b18 at h
    refine qv_run 2 (σ := (20, [some (.ref l0), some (.int l1), z2, some (.int l3)], [.ref l0, .int l3], H)) rfl ?_
    obtain ⟨v20, e20, h⟩ := qv_bind h
    refine qv_getR rfl e20 ?_
    refine qv_run 1 (σ := (24, [some (.ref l0), some (.int l1), z2, some (.int l3)], [.int l1, .ref v20, .int l3], H)) rfl ?_
    obtain ⟨v24, e24, h⟩ := qv_bind h
    refine qv_ald rfl e24 ?_
    refine qv_br (c := v24 ≤ l3) (a := (60, [some (.ref l0), some (.int l1), z2, some (.int l3)], [], H)) (b := (28, [some (.ref l0), some (.int l1), z2, some (.int l3)], [], H)) 1 rfl (fun c25 => ?_) (fun c25 => ?_)
    · replace h := qv_pos c25 h
      refine qv_run 1 (σ := (61, [some (.ref l0), some (.int l1), z2, some (.int l3)], [.int l3], H)) rfl ?_
      obtain ⟨rfl, rfl⟩ := qv_pair h
      exact qv_reti rfl hR
    · replace h := qv_neg c25 h
      refine qv_br (c := 31 ≤ l3) (a := (60, [some (.ref l0), some (.int l1), z2, some (.int l3)], [], H)) (b := (34, [some (.ref l0), some (.int l1), z2, some (.int l3)], [], H)) 3 rfl (fun c31 => ?_) (fun c31 => ?_)
      · replace h := qv_pos c31 h
        refine qv_run 1 (σ := (61, [some (.ref l0), some (.int l1), z2, some (.int l3)], [.int l3], H)) rfl ?_
        obtain ⟨rfl, rfl⟩ := qv_pair h
        exact qv_reti rfl hR
      · replace h := qv_neg c31 h
        refine qv_run 1 (σ := (35, [some (.ref l0), some (.int l1), z2, some (.int l3)], [.ref l0], H)) rfl ?_
        obtain ⟨v35, e35, h⟩ := qv_bind h
        refine qv_getR rfl e35 ?_
        refine qv_run 5 (σ := (44, [some (.ref l0), some (.int l1), z2, some (.int l3)], [.int ((40 * l1) + l3), .ref v35], H)) rfl ?_
        obtain ⟨v44, e44, h⟩ := qv_bind h
        refine qv_ald rfl e44 ?_
        refine qv_run 3 (σ := (48, [some (.ref l0), some (.int l1), z2, some (.int l3)], [.int 1, .int l3, .ref l0, .int v44], H)) rfl ?_
        obtain ⟨g48, h⟩ := qv_guard h
        obtain ⟨v48, e48, h⟩ := qv_bind h
        refine qv_callV [.int l3, .int 1] rfl rfl rfl (Nat.le_of_ble_eq_true rfl) g48 (th_X11_of (by omega) e48) rfl ?_
        refine qv_br (c := v44 = v48) (a := (54, [some (.ref l0), some (.int l1), z2, some (.int l3)], [], H)) (b := (60, [some (.ref l0), some (.int l1), z2, some (.int l3)], [], H)) 1 rfl (fun c51 => ?_) (fun c51 => ?_)
        · replace h := qv_pos c51 h
          refine qv_incN (ls' := [some (.ref l0), some (.int l1), z2, some (.int (l3 + 1))]) rfl rfl (qx_kl_ns rfl hz2) rfl ?_
          refine qv_run 1 (σ := (18, [some (.ref l0), some (.int l1), z2, some (.int (l3 + 1))], [], H)) rfl ?_
          exact ih l0 l1 (l3 + 1) z2 hz2 H h
        · replace h := qv_neg c51 h
          refine qv_run 1 (σ := (61, [some (.ref l0), some (.int l1), z2, some (.int l3)], [.int l3], H)) rfl ?_
          obtain ⟨rfl, rfl⟩ := qv_pair h
          exact qv_reti rfl hR
theorem tlb_X11_judge_18 {r : Int32} {H' : qx_H} : ∀ (n : Nat) (l0 : Nat) (l1 : Int32) (l3 : Int32) (H : qx_H) (h : fm_X11_judge_b18 n l0 l1 l3 H = some (r, H')), H'.length = H.length := by
  intro n
  induction n with
  | zero => intro l0 l1 l3 H h; exact nomatch (show (none : Option (Int32 × qx_H)) = some (r, H') from h)
  | succ n ih =>
    intro l0 l1 l3 H h
    unfold fm_X11_judge_b18 at h
    obtain ⟨v20, e20, h⟩ := qv_bind h
    obtain ⟨v24, e24, h⟩ := qv_bind h
    by_cases c25 : v24 ≤ l3
    · replace h := qv_pos c25 h
      obtain ⟨rfl, rfl⟩ := qv_pair h
      rfl
    · replace h := qv_neg c25 h
      by_cases c31 : 31 ≤ l3
      · replace h := qv_pos c31 h
        obtain ⟨rfl, rfl⟩ := qv_pair h
        rfl
      · replace h := qv_neg c31 h
        obtain ⟨v35, e35, h⟩ := qv_bind h
        obtain ⟨v44, e44, h⟩ := qv_bind h
        obtain ⟨g48, h⟩ := qv_guard h
        obtain ⟨v48, e48, h⟩ := qv_bind h
        by_cases c51 : v44 = v48
        · replace h := qv_pos c51 h
          exact ih l0 l1 (l3 + 1) H h
        · replace h := qv_neg c51 h
          obtain ⟨rfl, rfl⟩ := qv_pair h
          rfl
theorem tb_X11_judge_0 {st : xT} {d : Nat} {R : Option Value → qx_H → Prop} (hd : 3 ≤ d) {r : Int32} {H' : qx_H} (hR : R (some (.int r)) H') (a0 : Nat) (a1 : Int32) (H : qx_H) (h : fm_X11_judge a0 a1 H = some (r, H')) : qx_V (xE st d) R (xc225 st) (0, [some (.ref a0), some (.int a1), none, none], [], H) := by
  unfold fm_X11_judge at h
  refine qv_run 2 (σ := (2, [some (.ref a0), some (.int a1), none, none], [.int a1, .ref a0], H)) rfl ?_
  obtain ⟨g2, h⟩ := qv_guard h
  obtain ⟨v2, e2, h⟩ := qv_bind h
  refine qv_callV [.int a1] rfl rfl rfl (Nat.le_of_ble_eq_true rfl) g2 (th_X11_lacks (by omega) e2) rfl ?_
  refine qv_br (c := v2 ≤ 0) (a := (16, [some (.ref a0), some (.int a1), some (.int v2), none], [], H)) (b := (10, [some (.ref a0), some (.int a1), some (.int v2), none], [], H)) 3 rfl (fun c7 => ?_) (fun c7 => ?_)
  · replace h := qv_pos c7 h
    refine qv_run 2 (σ := (18, [some (.ref a0), some (.int a1), some (.int v2), some (.int 0)], [], H)) rfl ?_
    exact tb_X11_judge_18 hd hR 5000 a0 a1 0 (some (.int v2)) rfl H h
  · replace h := qv_neg c7 h
    refine qv_run 2 (σ := (12, [some (.ref a0), some (.int a1), some (.int v2), none], [.int v2, .ref a0], H)) rfl ?_
    obtain ⟨v12, H12, e12, h⟩ := qv_bind2 h
    refine qv_callV [.int v2] rfl rfl rfl (Nat.le_of_ble_eq_true rfl) g2 (th_X11_error (by omega) e12) (tl_X11_error e12) ?_
    obtain ⟨rfl, rfl⟩ := qv_pair h
    exact qv_reti rfl hR
theorem tlb_X11_judge_0 {r : Int32} {H' : qx_H} (a0 : Nat) (a1 : Int32) (H : qx_H) (h : fm_X11_judge a0 a1 H = some (r, H')) : H'.length = H.length := by
  unfold fm_X11_judge at h
  obtain ⟨g2, h⟩ := qv_guard h
  obtain ⟨v2, e2, h⟩ := qv_bind h
  by_cases c7 : v2 ≤ 0
  · replace h := qv_pos c7 h
    exact tlb_X11_judge_18 5000 a0 a1 0 H h
  · replace h := qv_neg c7 h
    obtain ⟨v12, H12, e12, h⟩ := qv_bind2 h
    have q_H12 := tl_X11_error e12
    obtain ⟨rfl, rfl⟩ := qv_pair h
    omega
theorem th_X11_judge {st : xT} {d : Nat} (hd : 4 ≤ d) {a0 : Nat} {a1 : Int32} {H : qx_H} {r : Int32} {H' : qx_H} (h : fm_X11_judge a0 a1 H = some (r, H')) : xE st d 225 [.ref a0, .int a1] H (some (.int r)) H' := by
  obtain ⟨d, rfl⟩ : ∃ d', d = d' + 1 := ⟨d - 1, by omega⟩
  exact xE_of (xe225 st) xl225 (Nat.le_of_ble_eq_true rfl) (ls := [some (.ref a0), some (.int a1), none, none]) rfl (tb_X11_judge_0 (by omega) ⟨rfl, rfl⟩ a0 a1 H h)
theorem tl_X11_judge {a0 : Nat} {a1 : Int32} {H : qx_H} {r : Int32} {H' : qx_H} (h : fm_X11_judge a0 a1 H = some (r, H')) : H'.length = H.length := tlb_X11_judge_0 a0 a1 H h
def fm_X11_image (a0 : Nat) (H : qx_H) : Option (Int32 × qx_H) := (hp_gR H a0 9 0).bind fun v1 => (hp_gR H a0 9 1).bind fun v5 => (fm_X11_carry v1 v5 515 H).bind fun H11 => (hp_gI H11 a0 9 3).bind fun v16 => (hp_put H11 a0 9 3 (.int (v16 + 1))).bind fun H21 => (hp_gI H21 a0 9 3).bind fun v25 => some (v25, H21)
theorem tb_X11_image_0 {st : xT} {d : Nat} {R : Option Value → qx_H → Prop} (hd : 1 ≤ d) {r : Int32} {H' : qx_H} (hR : R (some (.int r)) H') (a0 : Nat) (H : qx_H) (h : fm_X11_image a0 H = some (r, H')) : qx_V (xE st d) R (xc226 st) (0, [some (.ref a0)], [], H) := by
  unfold fm_X11_image at h
  refine qv_run 1 (σ := (1, [some (.ref a0)], [.ref a0], H)) rfl ?_
  obtain ⟨v1, e1, h⟩ := qv_bind h
  refine qv_getR rfl e1 ?_
  refine qv_run 1 (σ := (5, [some (.ref a0)], [.ref a0, .ref v1], H)) rfl ?_
  obtain ⟨v5, e5, h⟩ := qv_bind h
  refine qv_getR rfl e5 ?_
  refine qv_run 1 (σ := (11, [some (.ref a0)], [.int 515, .ref v5, .ref v1], H)) rfl ?_
  obtain ⟨H11, e11, h⟩ := qv_bind h
  refine qv_call [.ref v1, .ref v5, .int 515] rfl rfl rfl (Nat.le_of_ble_eq_true rfl) (th_X11_carry (by omega) e11) (tl_X11_carry e11) ?_
  refine qv_run 2 (σ := (16, [some (.ref a0)], [.ref a0, .ref a0], H11)) rfl ?_
  obtain ⟨v16, e16, h⟩ := qv_bind h
  refine qv_getI rfl e16 ?_
  refine qv_run 2 (σ := (21, [some (.ref a0)], [.int (v16 + 1), .ref a0], H11)) rfl ?_
  obtain ⟨H21, e21, h⟩ := qv_bind h
  refine qv_putI rfl e21 ?_
  refine qv_run 1 (σ := (25, [some (.ref a0)], [.ref a0], H21)) rfl ?_
  obtain ⟨v25, e25, h⟩ := qv_bind h
  refine qv_getI rfl e25 ?_
  obtain ⟨rfl, rfl⟩ := qv_pair h
  exact qv_reti rfl hR
theorem tlb_X11_image_0 {r : Int32} {H' : qx_H} (a0 : Nat) (H : qx_H) (h : fm_X11_image a0 H = some (r, H')) : H'.length = H.length := by
  unfold fm_X11_image at h
  obtain ⟨v1, e1, h⟩ := qv_bind h
  obtain ⟨v5, e5, h⟩ := qv_bind h
  obtain ⟨H11, e11, h⟩ := qv_bind h
  have q_H11 := tl_X11_carry e11
  obtain ⟨v16, e16, h⟩ := qv_bind h
  obtain ⟨H21, e21, h⟩ := qv_bind h
  have q_H21 := hp_put_len e21
  obtain ⟨v25, e25, h⟩ := qv_bind h
  obtain ⟨rfl, rfl⟩ := qv_pair h
  omega
theorem th_X11_image {st : xT} {d : Nat} (hd : 2 ≤ d) {a0 : Nat} {H : qx_H} {r : Int32} {H' : qx_H} (h : fm_X11_image a0 H = some (r, H')) : xE st d 226 [.ref a0] H (some (.int r)) H' := by
  obtain ⟨d, rfl⟩ : ∃ d', d = d' + 1 := ⟨d - 1, by omega⟩
  exact xE_of (xe226 st) xl226 (Nat.le_of_ble_eq_true rfl) (ls := [some (.ref a0)]) rfl (tb_X11_image_0 (by omega) ⟨rfl, rfl⟩ a0 H h)
theorem tl_X11_image {a0 : Nat} {H : qx_H} {r : Int32} {H' : qx_H} (h : fm_X11_image a0 H = some (r, H')) : H'.length = H.length := tlb_X11_image_0 a0 H h
def fm_X11_restore (a0 : Nat) (H : qx_H) : Option (Int32 × qx_H) := (hp_gI H a0 9 3).bind fun v1 => if v1 = 0 then (if hp_is H a0 9 = true then (ob2 (fm_X11_error a0 2 H) fun v9 H9 => some (v9, H9)) else none) else ((hp_gR H a0 9 1).bind fun v14 => (hp_gR H a0 9 0).bind fun v18 => (fm_X11_carry v14 v18 515 H).bind fun H24 => (hp_gR H24 a0 9 0).bind fun v28 => (hp_ald H24 v28 0).bind fun v32 => some (v32, H24))
theorem tb_X11_restore_0 {st : xT} {d : Nat} {R : Option Value → qx_H → Prop} (hd : 1 ≤ d) {r : Int32} {H' : qx_H} (hR : R (some (.int r)) H') (a0 : Nat) (H : qx_H) (h : fm_X11_restore a0 H = some (r, H')) : qx_V (xE st d) R (xc227 st) (0, [some (.ref a0)], [], H) := by
  unfold fm_X11_restore at h
  refine qv_run 1 (σ := (1, [some (.ref a0)], [.ref a0], H)) rfl ?_
  obtain ⟨v1, e1, h⟩ := qv_bind h
  refine qv_getI rfl e1 ?_
  refine qv_br (c := v1 = 0) (a := (7, [some (.ref a0)], [], H)) (b := (13, [some (.ref a0)], [], H)) 1 rfl (fun c4 => ?_) (fun c4 => ?_)
  · replace h := qv_pos c4 h
    refine qv_run 2 (σ := (9, [some (.ref a0)], [.int 2, .ref a0], H)) rfl ?_
    obtain ⟨g9, h⟩ := qv_guard h
    obtain ⟨v9, H9, e9, h⟩ := qv_bind2 h
    refine qv_callV [.int 2] rfl rfl rfl (Nat.le_of_ble_eq_true rfl) g9 (th_X11_error (by omega) e9) (tl_X11_error e9) ?_
    obtain ⟨rfl, rfl⟩ := qv_pair h
    exact qv_reti rfl hR
  · replace h := qv_neg c4 h
    refine qv_run 1 (σ := (14, [some (.ref a0)], [.ref a0], H)) rfl ?_
    obtain ⟨v14, e14, h⟩ := qv_bind h
    refine qv_getR rfl e14 ?_
    refine qv_run 1 (σ := (18, [some (.ref a0)], [.ref a0, .ref v14], H)) rfl ?_
    obtain ⟨v18, e18, h⟩ := qv_bind h
    refine qv_getR rfl e18 ?_
    refine qv_run 1 (σ := (24, [some (.ref a0)], [.int 515, .ref v18, .ref v14], H)) rfl ?_
    obtain ⟨H24, e24, h⟩ := qv_bind h
    refine qv_call [.ref v14, .ref v18, .int 515] rfl rfl rfl (Nat.le_of_ble_eq_true rfl) (th_X11_carry (by omega) e24) (tl_X11_carry e24) ?_
    refine qv_run 1 (σ := (28, [some (.ref a0)], [.ref a0], H24)) rfl ?_
    obtain ⟨v28, e28, h⟩ := qv_bind h
    refine qv_getR rfl e28 ?_
    refine qv_run 1 (σ := (32, [some (.ref a0)], [.int 0, .ref v28], H24)) rfl ?_
    obtain ⟨v32, e32, h⟩ := qv_bind h
    refine qv_ald rfl e32 ?_
    obtain ⟨rfl, rfl⟩ := qv_pair h
    exact qv_reti rfl hR
theorem tlb_X11_restore_0 {r : Int32} {H' : qx_H} (a0 : Nat) (H : qx_H) (h : fm_X11_restore a0 H = some (r, H')) : H'.length = H.length := by
  unfold fm_X11_restore at h
  obtain ⟨v1, e1, h⟩ := qv_bind h
  by_cases c4 : v1 = 0
  · replace h := qv_pos c4 h
    obtain ⟨g9, h⟩ := qv_guard h
    obtain ⟨v9, H9, e9, h⟩ := qv_bind2 h
    have q_H9 := tl_X11_error e9
    obtain ⟨rfl, rfl⟩ := qv_pair h
    omega
  · replace h := qv_neg c4 h
    obtain ⟨v14, e14, h⟩ := qv_bind h
    obtain ⟨v18, e18, h⟩ := qv_bind h
    obtain ⟨H24, e24, h⟩ := qv_bind h
    have q_H24 := tl_X11_carry e24
    obtain ⟨v28, e28, h⟩ := qv_bind h
    obtain ⟨v32, e32, h⟩ := qv_bind h
    obtain ⟨rfl, rfl⟩ := qv_pair h
    omega
theorem th_X11_restore {st : xT} {d : Nat} (hd : 2 ≤ d) {a0 : Nat} {H : qx_H} {r : Int32} {H' : qx_H} (h : fm_X11_restore a0 H = some (r, H')) : xE st d 227 [.ref a0] H (some (.int r)) H' := by
  obtain ⟨d, rfl⟩ : ∃ d', d = d' + 1 := ⟨d - 1, by omega⟩
  exact xE_of (xe227 st) xl227 (Nat.le_of_ble_eq_true rfl) (ls := [some (.ref a0)]) rfl (tb_X11_restore_0 (by omega) ⟨rfl, rfl⟩ a0 H h)
theorem tl_X11_restore {a0 : Nat} {H : qx_H} {r : Int32} {H' : qx_H} (h : fm_X11_restore a0 H = some (r, H')) : H'.length = H.length := tlb_X11_restore_0 a0 H h
def fm_X11_tell (a0 : Nat) (a1 : Int32) (H : qx_H) : Option (Int32 × qx_H) := (hp_gR H a0 9 0).bind fun v1 => (hp_ald H v1 3).bind fun v5 => if v5 = 24 then (if hp_is H a0 9 = true then (ob2 (fm_X11_error a0 4 H) fun v13 H13 => some (v13, H13)) else none) else ((hp_gR H a0 9 0).bind fun v18 => (hp_gR H a0 9 0).bind fun v25 => (hp_ald H v25 3).bind fun v29 => (hp_ast H v18 (491 + v29) a1).bind fun H32 => (hp_gR H32 a0 9 0).bind fun v34 => (hp_ald H32 v34 3).bind fun v39 => (hp_ast H32 v34 3 (v39 + 1)).bind fun H42 => (hp_gR H42 a0 9 0).bind fun v44 => (hp_ald H42 v44 3).bind fun v48 => some (v48, H42))
theorem tb_X11_tell_0 {st : xT} {d : Nat} {R : Option Value → qx_H → Prop} (hd : 1 ≤ d) {r : Int32} {H' : qx_H} (hR : R (some (.int r)) H') (a0 : Nat) (a1 : Int32) (H : qx_H) (h : fm_X11_tell a0 a1 H = some (r, H')) : qx_V (xE st d) R (xc228 st) (0, [some (.ref a0), some (.int a1)], [], H) := by
  unfold fm_X11_tell at h
  refine qv_run 1 (σ := (1, [some (.ref a0), some (.int a1)], [.ref a0], H)) rfl ?_
  obtain ⟨v1, e1, h⟩ := qv_bind h
  refine qv_getR rfl e1 ?_
  refine qv_run 1 (σ := (5, [some (.ref a0), some (.int a1)], [.int 3, .ref v1], H)) rfl ?_
  obtain ⟨v5, e5, h⟩ := qv_bind h
  refine qv_ald rfl e5 ?_
  refine qv_br (c := v5 = 24) (a := (11, [some (.ref a0), some (.int a1)], [], H)) (b := (17, [some (.ref a0), some (.int a1)], [], H)) 2 rfl (fun c8 => ?_) (fun c8 => ?_)
  · replace h := qv_pos c8 h
    refine qv_run 2 (σ := (13, [some (.ref a0), some (.int a1)], [.int 4, .ref a0], H)) rfl ?_
    obtain ⟨g13, h⟩ := qv_guard h
    obtain ⟨v13, H13, e13, h⟩ := qv_bind2 h
    refine qv_callV [.int 4] rfl rfl rfl (Nat.le_of_ble_eq_true rfl) g13 (th_X11_error (by omega) e13) (tl_X11_error e13) ?_
    obtain ⟨rfl, rfl⟩ := qv_pair h
    exact qv_reti rfl hR
  · replace h := qv_neg c8 h
    refine qv_run 1 (σ := (18, [some (.ref a0), some (.int a1)], [.ref a0], H)) rfl ?_
    obtain ⟨v18, e18, h⟩ := qv_bind h
    refine qv_getR rfl e18 ?_
    refine qv_run 2 (σ := (25, [some (.ref a0), some (.int a1)], [.ref a0, .int 491, .ref v18], H)) rfl ?_
    obtain ⟨v25, e25, h⟩ := qv_bind h
    refine qv_getR rfl e25 ?_
    refine qv_run 1 (σ := (29, [some (.ref a0), some (.int a1)], [.int 3, .ref v25, .int 491, .ref v18], H)) rfl ?_
    obtain ⟨v29, e29, h⟩ := qv_bind h
    refine qv_ald rfl e29 ?_
    refine qv_run 2 (σ := (32, [some (.ref a0), some (.int a1)], [.int a1, .int (491 + v29), .ref v18], H)) rfl ?_
    obtain ⟨H32, e32, h⟩ := qv_bind h
    refine qv_ast rfl e32 ?_
    refine qv_run 1 (σ := (34, [some (.ref a0), some (.int a1)], [.ref a0], H32)) rfl ?_
    obtain ⟨v34, e34, h⟩ := qv_bind h
    refine qv_getR rfl e34 ?_
    refine qv_run 2 (σ := (39, [some (.ref a0), some (.int a1)], [.int 3, .ref v34, .int 3, .ref v34], H32)) rfl ?_
    obtain ⟨v39, e39, h⟩ := qv_bind h
    refine qv_ald rfl e39 ?_
    refine qv_run 2 (σ := (42, [some (.ref a0), some (.int a1)], [.int (v39 + 1), .int 3, .ref v34], H32)) rfl ?_
    obtain ⟨H42, e42, h⟩ := qv_bind h
    refine qv_ast rfl e42 ?_
    refine qv_run 1 (σ := (44, [some (.ref a0), some (.int a1)], [.ref a0], H42)) rfl ?_
    obtain ⟨v44, e44, h⟩ := qv_bind h
    refine qv_getR rfl e44 ?_
    refine qv_run 1 (σ := (48, [some (.ref a0), some (.int a1)], [.int 3, .ref v44], H42)) rfl ?_
    obtain ⟨v48, e48, h⟩ := qv_bind h
    refine qv_ald rfl e48 ?_
    obtain ⟨rfl, rfl⟩ := qv_pair h
    exact qv_reti rfl hR
theorem tlb_X11_tell_0 {r : Int32} {H' : qx_H} (a0 : Nat) (a1 : Int32) (H : qx_H) (h : fm_X11_tell a0 a1 H = some (r, H')) : H'.length = H.length := by
  unfold fm_X11_tell at h
  obtain ⟨v1, e1, h⟩ := qv_bind h
  obtain ⟨v5, e5, h⟩ := qv_bind h
  by_cases c8 : v5 = 24
  · replace h := qv_pos c8 h
    obtain ⟨g13, h⟩ := qv_guard h
    obtain ⟨v13, H13, e13, h⟩ := qv_bind2 h
    have q_H13 := tl_X11_error e13
    obtain ⟨rfl, rfl⟩ := qv_pair h
    omega
  · replace h := qv_neg c8 h
    obtain ⟨v18, e18, h⟩ := qv_bind h
    obtain ⟨v25, e25, h⟩ := qv_bind h
    obtain ⟨v29, e29, h⟩ := qv_bind h
    obtain ⟨H32, e32, h⟩ := qv_bind h
    have q_H32 := hp_ast_len e32
    obtain ⟨v34, e34, h⟩ := qv_bind h
    obtain ⟨v39, e39, h⟩ := qv_bind h
    obtain ⟨H42, e42, h⟩ := qv_bind h
    have q_H42 := hp_ast_len e42
    obtain ⟨v44, e44, h⟩ := qv_bind h
    obtain ⟨v48, e48, h⟩ := qv_bind h
    obtain ⟨rfl, rfl⟩ := qv_pair h
    omega
theorem th_X11_tell {st : xT} {d : Nat} (hd : 2 ≤ d) {a0 : Nat} {a1 : Int32} {H : qx_H} {r : Int32} {H' : qx_H} (h : fm_X11_tell a0 a1 H = some (r, H')) : xE st d 228 [.ref a0, .int a1] H (some (.int r)) H' := by
  obtain ⟨d, rfl⟩ : ∃ d', d = d' + 1 := ⟨d - 1, by omega⟩
  exact xE_of (xe228 st) xl228 (Nat.le_of_ble_eq_true rfl) (ls := [some (.ref a0), some (.int a1)]) rfl (tb_X11_tell_0 (by omega) ⟨rfl, rfl⟩ a0 a1 H h)
theorem tl_X11_tell {a0 : Nat} {a1 : Int32} {H : qx_H} {r : Int32} {H' : qx_H} (h : fm_X11_tell a0 a1 H = some (r, H')) : H'.length = H.length := tlb_X11_tell_0 a0 a1 H h
def fm_X11_check_b73 (l0 : Nat) (l2 : Int32) (l3 : Int32) (H : qx_H) : Option (Int32 × qx_H) := if hp_is H l0 9 = true then ((fm_X11_layBack l0 H).bind fun H74 => if l3 = 0 then (some (1 + l2, H74)) else (some (0, H74))) else none
def fm_X11_check_b22 : Nat → Nat → Int32 → Int32 → Int32 → qx_H → Option (Int32 × qx_H)
  | 0, _, _, _, _, _ => none
  | n + 1, l0, l1, l2, l3, H => if l1 ≤ l2 then (fm_X11_check_b73 l0 l2 l3 H) else (if l3 = 0 then (fm_X11_check_b73 l0 l2 l3 H) else (if hp_is H l0 9 = true then ((fm_X11_day l0 H).bind fun H32 => (hp_gR H32 l0 9 0).bind fun v36 => (hp_ald H32 v36 (491 + l2)).bind fun v44 => if hp_is H32 l0 9 = true then ((fm_X11_missing l0 H32).bind fun v46 => fm_X11_check_b22 n l0 l1 (l2 + (if ((if v44 = v46 then 1 else 0) : Int32) = 0 then 0 else 1)) (if v44 = v46 then 1 else 0) H32) else none) else none))
def fm_X11_check (a0 : Nat) (H : qx_H) : Option (Int32 × qx_H) := (hp_gR H a0 9 0).bind fun v1 => (hp_ald H v1 3).bind fun v5 => (hp_gR H a0 9 0).bind fun v8 => (hp_ast H v8 3 0).bind fun H13 => if hp_is H13 a0 9 = true then ((fm_X11_layDown a0 H13).bind fun H15 => fm_X11_check_b22 5000 a0 v5 0 1 H15) else none
theorem tb_X11_check_73 {st : xT} {d : Nat} {R : Option Value → qx_H → Prop} (hd : 6 ≤ d) {r : Int32} {H' : qx_H} (hR : R (some (.int r)) H') (l0 : Nat) (l2 : Int32) (l3 : Int32) (z1 : Option Value) (hz1 : qx_ns z1 = true) (H : qx_H) (h : fm_X11_check_b73 l0 l2 l3 H = some (r, H')) : qx_V (xE st d) R (xc229 st) (73, [some (.ref l0), z1, some (.int l2), some (.int l3)], [], H) := by
  unfold fm_X11_check_b73 at h
  refine qv_run 1 (σ := (74, [some (.ref l0), z1, some (.int l2), some (.int l3)], [.ref l0], H)) rfl ?_
  obtain ⟨g74, h⟩ := qv_guard h
  obtain ⟨H74, e74, h⟩ := qv_bind h
  refine qv_callV [] rfl rfl rfl (Nat.le_of_ble_eq_true rfl) g74 (th_X11_layBack (by omega) e74) (tl_X11_layBack e74) ?_
  refine qv_br (c := l3 = 0) (a := (85, [some (.ref l0), z1, some (.int l2), some (.int l3)], [], H74)) (b := (81, [some (.ref l0), z1, some (.int l2), some (.int l3)], [], H74)) 2 rfl (fun c78 => ?_) (fun c78 => ?_)
  · replace h := qv_pos c78 h
    refine qv_run 3 (σ := (88, [some (.ref l0), z1, some (.int l2), some (.int l3)], [.int (1 + l2)], H74)) rfl ?_
    obtain ⟨rfl, rfl⟩ := qv_pair h
    exact qv_reti rfl hR
  · replace h := qv_neg c78 h
    refine qv_run 2 (σ := (88, [some (.ref l0), z1, some (.int l2), some (.int l3)], [.int 0], H74)) rfl ?_
    obtain ⟨rfl, rfl⟩ := qv_pair h
    exact qv_reti rfl hR
theorem tlb_X11_check_73 {r : Int32} {H' : qx_H} (l0 : Nat) (l2 : Int32) (l3 : Int32) (H : qx_H) (h : fm_X11_check_b73 l0 l2 l3 H = some (r, H')) : H'.length = H.length := by
  unfold fm_X11_check_b73 at h
  obtain ⟨g74, h⟩ := qv_guard h
  obtain ⟨H74, e74, h⟩ := qv_bind h
  have q_H74 := tl_X11_layBack e74
  by_cases c78 : l3 = 0
  · replace h := qv_pos c78 h
    obtain ⟨rfl, rfl⟩ := qv_pair h
    omega
  · replace h := qv_neg c78 h
    obtain ⟨rfl, rfl⟩ := qv_pair h
    omega
theorem tb_X11_check_22 {st : xT} {d : Nat} {R : Option Value → qx_H → Prop} (hd : 6 ≤ d) {r : Int32} {H' : qx_H} (hR : R (some (.int r)) H') : ∀ (n : Nat) (l0 : Nat) (l1 : Int32) (l2 : Int32) (l3 : Int32) (H : qx_H) (h : fm_X11_check_b22 n l0 l1 l2 l3 H = some (r, H')), qx_V (xE st d) R (xc229 st) (22, [some (.ref l0), some (.int l1), some (.int l2), some (.int l3)], [], H) := by
  intro n
  induction n with
  | zero => intro l0 l1 l2 l3 H h; exact nomatch (show (none : Option (Int32 × qx_H)) = some (r, H') from h)
  | succ n ih =>
    intro l0 l1 l2 l3 H h
    unfold fm_X11_check_b22 at h
    refine qv_br (c := l1 ≤ l2) (a := (73, [some (.ref l0), some (.int l1), some (.int l2), some (.int l3)], [], H)) (b := (27, [some (.ref l0), some (.int l1), some (.int l2), some (.int l3)], [], H)) 3 rfl (fun c24 => ?_) (fun c24 => ?_)
    · replace h := qv_pos c24 h
      exact tb_X11_check_73 hd hR l0 l2 l3 (some (.int l1)) rfl H h
    · replace h := qv_neg c24 h
      refine qv_br (c := l3 = 0) (a := (73, [some (.ref l0), some (.int l1), some (.int l2), some (.int l3)], [], H)) (b := (31, [some (.ref l0), some (.int l1), some (.int l2), some (.int l3)], [], H)) 2 rfl (fun c28 => ?_) (fun c28 => ?_)
      · replace h := qv_pos c28 h
        exact tb_X11_check_73 hd hR l0 l2 l3 (some (.int l1)) rfl H h
      · replace h := qv_neg c28 h
        refine qv_run 1 (σ := (32, [some (.ref l0), some (.int l1), some (.int l2), some (.int l3)], [.ref l0], H)) rfl ?_
        obtain ⟨g32, h⟩ := qv_guard h
        obtain ⟨H32, e32, h⟩ := qv_bind h
        refine qv_callV [] rfl rfl rfl (Nat.le_of_ble_eq_true rfl) g32 (th_X11_day (by omega) e32) (tl_X11_day e32) ?_
        refine qv_run 1 (σ := (36, [some (.ref l0), some (.int l1), some (.int l2), some (.int l3)], [.ref l0], H32)) rfl ?_
        obtain ⟨v36, e36, h⟩ := qv_bind h
        refine qv_getR rfl e36 ?_
        refine qv_run 3 (σ := (44, [some (.ref l0), some (.int l1), some (.int l2), some (.int l3)], [.int (491 + l2), .ref v36], H32)) rfl ?_
        obtain ⟨v44, e44, h⟩ := qv_bind h
        refine qv_ald rfl e44 ?_
        refine qv_run 1 (σ := (46, [some (.ref l0), some (.int l1), some (.int l2), some (.int l3)], [.ref l0, .int v44], H32)) rfl ?_
        obtain ⟨g46, h⟩ := qv_guard h
        obtain ⟨v46, e46, h⟩ := qv_bind h
        refine qv_callV [] rfl rfl rfl (Nat.le_of_ble_eq_true rfl) g46 (th_X11_missing (by omega) e46) rfl ?_
        refine qv_dia (c := v44 = v46) (a := (52, [some (.ref l0), some (.int l1), some (.int l2), some (.int l3)], [], H32)) (b := (56, [some (.ref l0), some (.int l1), some (.int l2), some (.int l3)], [], H32)) (σ' := (57, [some (.ref l0), some (.int l1), some (.int l2), some (.int l3)], [.int (if v44 = v46 then 1 else 0)], H32)) 1 rfl ?_ (fun c49 kk => qv_run 2 (σ := (57, [some (.ref l0), some (.int l1), some (.int l2), some (.int l3)], [.int 1], H32)) rfl (qv_eq (by simp only [if_pos c49]) kk)) (fun c49 kk => qv_run 1 (σ := (57, [some (.ref l0), some (.int l1), some (.int l2), some (.int l3)], [.int 0], H32)) rfl (qv_eq (by simp only [if_neg c49]) kk))
        refine qv_dia (c := ((if v44 = v46 then 1 else 0) : Int32) = 0) (a := (67, [some (.ref l0), some (.int l1), some (.int l2), some (.int (if v44 = v46 then 1 else 0))], [.int l2], H32)) (b := (63, [some (.ref l0), some (.int l1), some (.int l2), some (.int (if v44 = v46 then 1 else 0))], [.int l2], H32)) (σ' := (68, [some (.ref l0), some (.int l1), some (.int l2), some (.int (if v44 = v46 then 1 else 0))], [.int (if ((if v44 = v46 then 1 else 0) : Int32) = 0 then 0 else 1), .int l2], H32)) 4 rfl ?_ (fun c60 kk => qv_run 1 (σ := (68, [some (.ref l0), some (.int l1), some (.int l2), some (.int (if v44 = v46 then 1 else 0))], [.int 0, .int l2], H32)) rfl (qv_eq (by simp only [if_pos c60]) kk)) (fun c60 kk => qv_run 2 (σ := (68, [some (.ref l0), some (.int l1), some (.int l2), some (.int (if v44 = v46 then 1 else 0))], [.int 1, .int l2], H32)) rfl (qv_eq (by simp only [if_neg c60]) kk))
        refine qv_run 3 (σ := (22, [some (.ref l0), some (.int l1), some (.int (l2 + (if ((if v44 = v46 then 1 else 0) : Int32) = 0 then 0 else 1))), some (.int (if v44 = v46 then 1 else 0))], [], H32)) rfl ?_
        exact ih l0 l1 (l2 + (if ((if v44 = v46 then 1 else 0) : Int32) = 0 then 0 else 1)) (if v44 = v46 then 1 else 0) H32 h
theorem tlb_X11_check_22 {r : Int32} {H' : qx_H} : ∀ (n : Nat) (l0 : Nat) (l1 : Int32) (l2 : Int32) (l3 : Int32) (H : qx_H) (h : fm_X11_check_b22 n l0 l1 l2 l3 H = some (r, H')), H'.length = H.length := by
  intro n
  induction n with
  | zero => intro l0 l1 l2 l3 H h; exact nomatch (show (none : Option (Int32 × qx_H)) = some (r, H') from h)
  | succ n ih =>
    intro l0 l1 l2 l3 H h
    unfold fm_X11_check_b22 at h
    by_cases c24 : l1 ≤ l2
    · replace h := qv_pos c24 h
      exact tlb_X11_check_73 l0 l2 l3 H h
    · replace h := qv_neg c24 h
      by_cases c28 : l3 = 0
      · replace h := qv_pos c28 h
        exact tlb_X11_check_73 l0 l2 l3 H h
      · replace h := qv_neg c28 h
        obtain ⟨g32, h⟩ := qv_guard h
        obtain ⟨H32, e32, h⟩ := qv_bind h
        have q_H32 := tl_X11_day e32
        obtain ⟨v36, e36, h⟩ := qv_bind h
        obtain ⟨v44, e44, h⟩ := qv_bind h
        obtain ⟨g46, h⟩ := qv_guard h
        obtain ⟨v46, e46, h⟩ := qv_bind h
        have q_end := ih l0 l1 (l2 + (if ((if v44 = v46 then 1 else 0) : Int32) = 0 then 0 else 1)) (if v44 = v46 then 1 else 0) H32 h
        omega
theorem tb_X11_check_0 {st : xT} {d : Nat} {R : Option Value → qx_H → Prop} (hd : 6 ≤ d) {r : Int32} {H' : qx_H} (hR : R (some (.int r)) H') (a0 : Nat) (H : qx_H) (h : fm_X11_check a0 H = some (r, H')) : qx_V (xE st d) R (xc229 st) (0, [some (.ref a0), none, none, none], [], H) := by
  unfold fm_X11_check at h
  refine qv_run 1 (σ := (1, [some (.ref a0), none, none, none], [.ref a0], H)) rfl ?_
  obtain ⟨v1, e1, h⟩ := qv_bind h
  refine qv_getR rfl e1 ?_
  refine qv_run 1 (σ := (5, [some (.ref a0), none, none, none], [.int 3, .ref v1], H)) rfl ?_
  obtain ⟨v5, e5, h⟩ := qv_bind h
  refine qv_ald rfl e5 ?_
  refine qv_run 2 (σ := (8, [some (.ref a0), some (.int v5), none, none], [.ref a0], H)) rfl ?_
  obtain ⟨v8, e8, h⟩ := qv_bind h
  refine qv_getR rfl e8 ?_
  refine qv_run 2 (σ := (13, [some (.ref a0), some (.int v5), none, none], [.int 0, .int 3, .ref v8], H)) rfl ?_
  obtain ⟨H13, e13, h⟩ := qv_bind h
  refine qv_ast rfl e13 ?_
  refine qv_run 1 (σ := (15, [some (.ref a0), some (.int v5), none, none], [.ref a0], H13)) rfl ?_
  obtain ⟨g15, h⟩ := qv_guard h
  obtain ⟨H15, e15, h⟩ := qv_bind h
  refine qv_callV [] rfl rfl rfl (Nat.le_of_ble_eq_true rfl) g15 (th_X11_layDown (by omega) e15) (tl_X11_layDown e15) ?_
  refine qv_run 4 (σ := (22, [some (.ref a0), some (.int v5), some (.int 0), some (.int 1)], [], H15)) rfl ?_
  exact tb_X11_check_22 hd hR 5000 a0 v5 0 1 H15 h
theorem tlb_X11_check_0 {r : Int32} {H' : qx_H} (a0 : Nat) (H : qx_H) (h : fm_X11_check a0 H = some (r, H')) : H'.length = H.length := by
  unfold fm_X11_check at h
  obtain ⟨v1, e1, h⟩ := qv_bind h
  obtain ⟨v5, e5, h⟩ := qv_bind h
  obtain ⟨v8, e8, h⟩ := qv_bind h
  obtain ⟨H13, e13, h⟩ := qv_bind h
  have q_H13 := hp_ast_len e13
  obtain ⟨g15, h⟩ := qv_guard h
  obtain ⟨H15, e15, h⟩ := qv_bind h
  have q_H15 := tl_X11_layDown e15
  have q_end := tlb_X11_check_22 5000 a0 v5 0 1 H15 h
  omega
theorem th_X11_check {st : xT} {d : Nat} (hd : 7 ≤ d) {a0 : Nat} {H : qx_H} {r : Int32} {H' : qx_H} (h : fm_X11_check a0 H = some (r, H')) : xE st d 229 [.ref a0] H (some (.int r)) H' := by
  obtain ⟨d, rfl⟩ : ∃ d', d = d' + 1 := ⟨d - 1, by omega⟩
  exact xE_of (xe229 st) xl229 (Nat.le_of_ble_eq_true rfl) (ls := [some (.ref a0), none, none, none]) rfl (tb_X11_check_0 (by omega) ⟨rfl, rfl⟩ a0 H h)
theorem tl_X11_check {a0 : Nat} {H : qx_H} {r : Int32} {H' : qx_H} (h : fm_X11_check a0 H = some (r, H')) : H'.length = H.length := tlb_X11_check_0 a0 H h
def fm_X11_count_b38 (k7 : Nat → Int32 → Int32 → Int32 → Int32 → qx_H → Option (Int32 × qx_H)) (l0 : Nat) (l1 : Int32) (l3 : Int32) (l4 : Int32) (t0 : Int32) (H : qx_H) : Option (Int32 × qx_H) := if hp_is H l0 9 = true then ((fm_X11_of l0 l4 1 H).bind fun v46 => k7 l0 l1 (t0 + 0) (l3 + v46) (l4 + 1) H) else none
def fm_X11_count_b7 : Nat → Nat → Int32 → Int32 → Int32 → Int32 → qx_H → Option (Int32 × qx_H)
  | 0, _, _, _, _, _, _ => none
  | n + 1, l0, l1, l2, l3, l4, H => if 31 ≤ l4 then (if l1 = 0 then ((hp_gR H l0 9 0).bind fun v109 => (hp_ald H v109 0).bind fun v113 => some (v113, H)) else if l1 = 1 then (if hp_is H l0 9 = true then ((fm_X11_missing l0 H).bind fun v116 => some (v116, H)) else none) else if l1 = 2 then (some (l2, H)) else if l1 = 3 then ((hp_gR H l0 9 0).bind fun v123 => (hp_ald H v123 1).bind fun v127 => some (v127, H)) else if l1 = 4 then (some (l3, H)) else if l1 = 5 then ((hp_gR H l0 9 0).bind fun v132 => (hp_ald H v132 2).bind fun v136 => some (v136, H)) else if l1 = 6 then ((hp_gR H l0 9 0).bind fun v139 => (hp_ald H v139 3).bind fun v143 => some (v143, H)) else if l1 = 7 then ((hp_gI H l0 9 16).bind fun v146 => some (v146, H)) else if l1 = 8 then ((hp_gR H l0 9 0).bind fun v151 => (hp_ald H v151 4).bind fun v155 => some (v155, H)) else (if (fm_X11_in l1 9 11) = 0 then (if hp_is H l0 9 = true then (ob2 (fm_X11_error l0 1 H) fun v184 H184 => some (v184, H184)) else none) else ((hp_gR H l0 9 0).bind fun v169 => (hp_ald H v169 ((5 + l1) - 9)).bind fun v178 => some (v178, H)))) else (if hp_is H l0 9 = true then ((fm_X11_isMissing l0 l4 H).bind fun v18 => if v18 = 0 then ((fm_X11_of l0 l4 2 H).bind fun v28 => (fm_X11_of l0 l4 1 H).bind fun v46 => fm_X11_count_b7 n l0 l1 (l2 + (if v28 = 0 then 1 else 0)) (l3 + v46) (l4 + 1) H) else (fm_X11_count_b38 (fm_X11_count_b7 n) l0 l1 l3 l4 l2 H)) else none)
def fm_X11_count (a0 : Nat) (a1 : Int32) (H : qx_H) : Option (Int32 × qx_H) := fm_X11_count_b7 5000 a0 a1 0 0 0 H
theorem tb_X11_count_38 {st : xT} {d : Nat} {R : Option Value → qx_H → Prop} (hd : 3 ≤ d) {r : Int32} {H' : qx_H} (k7 : Nat → Int32 → Int32 → Int32 → Int32 → qx_H → Option (Int32 × qx_H)) (hk7 : ∀ (l0 : Nat) (l1 : Int32) (l2 : Int32) (l3 : Int32) (l4 : Int32) (H : qx_H), k7 l0 l1 l2 l3 l4 H = some (r, H') → qx_V (xE st d) R (xc230 st) (7, [some (.ref l0), some (.int l1), some (.int l2), some (.int l3), some (.int l4)], [], H)) (hR : R (some (.int r)) H') (l0 : Nat) (l1 : Int32) (l3 : Int32) (l4 : Int32) (t0 : Int32) (z2 : Option Value) (hz2 : qx_ns z2 = true) (H : qx_H) (h : fm_X11_count_b38 k7 l0 l1 l3 l4 t0 H = some (r, H')) : qx_V (xE st d) R (xc230 st) (38, [some (.ref l0), some (.int l1), z2, some (.int l3), some (.int l4)], [.int t0], H) := by
  unfold fm_X11_count_b38 at h
  refine qv_run 7 (σ := (46, [some (.ref l0), some (.int l1), some (.int (t0 + 0)), some (.int l3), some (.int l4)], [.int 1, .int l4, .ref l0, .int l3], H)) rfl ?_
  obtain ⟨g46, h⟩ := qv_guard h
  obtain ⟨v46, e46, h⟩ := qv_bind h
  refine qv_callV [.int l4, .int 1] rfl rfl rfl (Nat.le_of_ble_eq_true rfl) g46 (th_X11_of (by omega) e46) rfl ?_
  refine qv_run 4 (σ := (7, [some (.ref l0), some (.int l1), some (.int (t0 + 0)), some (.int (l3 + v46)), some (.int (l4 + 1))], [], H)) rfl ?_
  exact hk7 l0 l1 (t0 + 0) (l3 + v46) (l4 + 1) H h
theorem tlb_X11_count_38 {r : Int32} {H' : qx_H} (k7 : Nat → Int32 → Int32 → Int32 → Int32 → qx_H → Option (Int32 × qx_H)) (hk7 : ∀ (l0 : Nat) (l1 : Int32) (l2 : Int32) (l3 : Int32) (l4 : Int32) (H : qx_H), k7 l0 l1 l2 l3 l4 H = some (r, H') → H'.length = H.length) (l0 : Nat) (l1 : Int32) (l3 : Int32) (l4 : Int32) (t0 : Int32) (H : qx_H) (h : fm_X11_count_b38 k7 l0 l1 l3 l4 t0 H = some (r, H')) : H'.length = H.length := by
  unfold fm_X11_count_b38 at h
  obtain ⟨g46, h⟩ := qv_guard h
  obtain ⟨v46, e46, h⟩ := qv_bind h
  exact hk7 l0 l1 (t0 + 0) (l3 + v46) (l4 + 1) H h
theorem tb_X11_count_7 {st : xT} {d : Nat} {R : Option Value → qx_H → Prop} (hd : 3 ≤ d) {r : Int32} {H' : qx_H} (hR : R (some (.int r)) H') : ∀ (n : Nat) (l0 : Nat) (l1 : Int32) (l2 : Int32) (l3 : Int32) (l4 : Int32) (H : qx_H) (h : fm_X11_count_b7 n l0 l1 l2 l3 l4 H = some (r, H')), qx_V (xE st d) R (xc230 st) (7, [some (.ref l0), some (.int l1), some (.int l2), some (.int l3), some (.int l4)], [], H) := by
  intro n
  induction n with
  | zero => intro l0 l1 l2 l3 l4 H h; exact nomatch (show (none : Option (Int32 × qx_H)) = some (r, H') from h)
  | succ n ih =>
    intro l0 l1 l2 l3 l4 H h
    unfold fm_X11_count_b7 at h
    refine qv_br (c := 31 ≤ l4) (a := (57, [some (.ref l0), some (.int l1), some (.int l2), some (.int l3), some (.int l4)], [], H)) (b := (14, [some (.ref l0), some (.int l1), some (.int l2), some (.int l3), some (.int l4)], [], H)) 3 rfl (fun c11 => ?_) (fun c11 => ?_)
    · replace h := qv_pos c11 h
      refine qv_run 2 (σ := (qx_swt l1 157 [(0, 108), (1, 115), (2, 120), (3, 122), (4, 129), (5, 131), (6, 138), (7, 145), (8, 150)], [some (.ref l0), some (.int l1), some (.int l2), some (.int l3), some (.int l4)], [], H)) rfl ?_
      refine qv_swt (fun c58_0 => ?_) (fun c58_0 => ?_)
      · replace h := qv_pos c58_0 h
        refine qv_run 1 (σ := (109, [some (.ref l0), some (.int l1), some (.int l2), some (.int l3), some (.int l4)], [.ref l0], H)) rfl ?_
        obtain ⟨v109, e109, h⟩ := qv_bind h
        refine qv_getR rfl e109 ?_
        refine qv_run 1 (σ := (113, [some (.ref l0), some (.int l1), some (.int l2), some (.int l3), some (.int l4)], [.int 0, .ref v109], H)) rfl ?_
        obtain ⟨v113, e113, h⟩ := qv_bind h
        refine qv_ald rfl e113 ?_
        obtain ⟨rfl, rfl⟩ := qv_pair h
        exact qv_reti rfl hR
      · replace h := qv_neg c58_0 h
        refine qv_swt (fun c58_1 => ?_) (fun c58_1 => ?_)
        · replace h := qv_pos c58_1 h
          refine qv_run 1 (σ := (116, [some (.ref l0), some (.int l1), some (.int l2), some (.int l3), some (.int l4)], [.ref l0], H)) rfl ?_
          obtain ⟨g116, h⟩ := qv_guard h
          obtain ⟨v116, e116, h⟩ := qv_bind h
          refine qv_callV [] rfl rfl rfl (Nat.le_of_ble_eq_true rfl) g116 (th_X11_missing (by omega) e116) rfl ?_
          obtain ⟨rfl, rfl⟩ := qv_pair h
          exact qv_reti rfl hR
        · replace h := qv_neg c58_1 h
          refine qv_swt (fun c58_2 => ?_) (fun c58_2 => ?_)
          · replace h := qv_pos c58_2 h
            refine qv_run 1 (σ := (121, [some (.ref l0), some (.int l1), some (.int l2), some (.int l3), some (.int l4)], [.int l2], H)) rfl ?_
            obtain ⟨rfl, rfl⟩ := qv_pair h
            exact qv_reti rfl hR
          · replace h := qv_neg c58_2 h
            refine qv_swt (fun c58_3 => ?_) (fun c58_3 => ?_)
            · replace h := qv_pos c58_3 h
              refine qv_run 1 (σ := (123, [some (.ref l0), some (.int l1), some (.int l2), some (.int l3), some (.int l4)], [.ref l0], H)) rfl ?_
              obtain ⟨v123, e123, h⟩ := qv_bind h
              refine qv_getR rfl e123 ?_
              refine qv_run 1 (σ := (127, [some (.ref l0), some (.int l1), some (.int l2), some (.int l3), some (.int l4)], [.int 1, .ref v123], H)) rfl ?_
              obtain ⟨v127, e127, h⟩ := qv_bind h
              refine qv_ald rfl e127 ?_
              obtain ⟨rfl, rfl⟩ := qv_pair h
              exact qv_reti rfl hR
            · replace h := qv_neg c58_3 h
              refine qv_swt (fun c58_4 => ?_) (fun c58_4 => ?_)
              · replace h := qv_pos c58_4 h
                refine qv_run 1 (σ := (130, [some (.ref l0), some (.int l1), some (.int l2), some (.int l3), some (.int l4)], [.int l3], H)) rfl ?_
                obtain ⟨rfl, rfl⟩ := qv_pair h
                exact qv_reti rfl hR
              · replace h := qv_neg c58_4 h
                refine qv_swt (fun c58_5 => ?_) (fun c58_5 => ?_)
                · replace h := qv_pos c58_5 h
                  refine qv_run 1 (σ := (132, [some (.ref l0), some (.int l1), some (.int l2), some (.int l3), some (.int l4)], [.ref l0], H)) rfl ?_
                  obtain ⟨v132, e132, h⟩ := qv_bind h
                  refine qv_getR rfl e132 ?_
                  refine qv_run 1 (σ := (136, [some (.ref l0), some (.int l1), some (.int l2), some (.int l3), some (.int l4)], [.int 2, .ref v132], H)) rfl ?_
                  obtain ⟨v136, e136, h⟩ := qv_bind h
                  refine qv_ald rfl e136 ?_
                  obtain ⟨rfl, rfl⟩ := qv_pair h
                  exact qv_reti rfl hR
                · replace h := qv_neg c58_5 h
                  refine qv_swt (fun c58_6 => ?_) (fun c58_6 => ?_)
                  · replace h := qv_pos c58_6 h
                    refine qv_run 1 (σ := (139, [some (.ref l0), some (.int l1), some (.int l2), some (.int l3), some (.int l4)], [.ref l0], H)) rfl ?_
                    obtain ⟨v139, e139, h⟩ := qv_bind h
                    refine qv_getR rfl e139 ?_
                    refine qv_run 1 (σ := (143, [some (.ref l0), some (.int l1), some (.int l2), some (.int l3), some (.int l4)], [.int 3, .ref v139], H)) rfl ?_
                    obtain ⟨v143, e143, h⟩ := qv_bind h
                    refine qv_ald rfl e143 ?_
                    obtain ⟨rfl, rfl⟩ := qv_pair h
                    exact qv_reti rfl hR
                  · replace h := qv_neg c58_6 h
                    refine qv_swt (fun c58_7 => ?_) (fun c58_7 => ?_)
                    · replace h := qv_pos c58_7 h
                      refine qv_run 1 (σ := (146, [some (.ref l0), some (.int l1), some (.int l2), some (.int l3), some (.int l4)], [.ref l0], H)) rfl ?_
                      obtain ⟨v146, e146, h⟩ := qv_bind h
                      refine qv_getI rfl e146 ?_
                      obtain ⟨rfl, rfl⟩ := qv_pair h
                      exact qv_reti rfl hR
                    · replace h := qv_neg c58_7 h
                      refine qv_swt (fun c58_8 => ?_) (fun c58_8 => ?_)
                      · replace h := qv_pos c58_8 h
                        refine qv_run 1 (σ := (151, [some (.ref l0), some (.int l1), some (.int l2), some (.int l3), some (.int l4)], [.ref l0], H)) rfl ?_
                        obtain ⟨v151, e151, h⟩ := qv_bind h
                        refine qv_getR rfl e151 ?_
                        refine qv_run 1 (σ := (155, [some (.ref l0), some (.int l1), some (.int l2), some (.int l3), some (.int l4)], [.int 4, .ref v151], H)) rfl ?_
                        obtain ⟨v155, e155, h⟩ := qv_bind h
                        refine qv_ald rfl e155 ?_
                        obtain ⟨rfl, rfl⟩ := qv_pair h
                        exact qv_reti rfl hR
                      · replace h := qv_neg c58_8 h
                        refine qv_sw0 ?_
                        refine qv_run 3 (σ := (162, [some (.ref l0), some (.int l1), some (.int l2), some (.int l3), some (.int l4)], [.int 11, .int 9, .int l1], H)) rfl ?_
                        refine qv_call [.int l1, .int 9, .int 11] rfl rfl rfl (Nat.le_of_ble_eq_true rfl) (th_X11_in (by omega) rfl) rfl ?_
                        refine qv_br (c := (fm_X11_in l1 9 11) = 0) (a := (182, [some (.ref l0), some (.int l1), some (.int l2), some (.int l3), some (.int l4)], [], H)) (b := (168, [some (.ref l0), some (.int l1), some (.int l2), some (.int l3), some (.int l4)], [], H)) 1 rfl (fun c165 => ?_) (fun c165 => ?_)
                        · replace h := qv_pos c165 h
                          refine qv_run 2 (σ := (184, [some (.ref l0), some (.int l1), some (.int l2), some (.int l3), some (.int l4)], [.int 1, .ref l0], H)) rfl ?_
                          obtain ⟨g184, h⟩ := qv_guard h
                          obtain ⟨v184, H184, e184, h⟩ := qv_bind2 h
                          refine qv_callV [.int 1] rfl rfl rfl (Nat.le_of_ble_eq_true rfl) g184 (th_X11_error (by omega) e184) (tl_X11_error e184) ?_
                          obtain ⟨rfl, rfl⟩ := qv_pair h
                          exact qv_reti rfl hR
                        · replace h := qv_neg c165 h
                          refine qv_run 1 (σ := (169, [some (.ref l0), some (.int l1), some (.int l2), some (.int l3), some (.int l4)], [.ref l0], H)) rfl ?_
                          obtain ⟨v169, e169, h⟩ := qv_bind h
                          refine qv_getR rfl e169 ?_
                          refine qv_run 5 (σ := (178, [some (.ref l0), some (.int l1), some (.int l2), some (.int l3), some (.int l4)], [.int ((5 + l1) - 9), .ref v169], H)) rfl ?_
                          obtain ⟨v178, e178, h⟩ := qv_bind h
                          refine qv_ald rfl e178 ?_
                          refine qv_run 1 (σ := (187, [some (.ref l0), some (.int l1), some (.int l2), some (.int l3), some (.int l4)], [.int v178], H)) rfl ?_
                          obtain ⟨rfl, rfl⟩ := qv_pair h
                          exact qv_reti rfl hR
    · replace h := qv_neg c11 h
      refine qv_run 3 (σ := (18, [some (.ref l0), some (.int l1), some (.int l2), some (.int l3), some (.int l4)], [.int l4, .ref l0, .int l2], H)) rfl ?_
      obtain ⟨g18, h⟩ := qv_guard h
      obtain ⟨v18, e18, h⟩ := qv_bind h
      refine qv_callV [.int l4] rfl rfl rfl (Nat.le_of_ble_eq_true rfl) g18 (th_X11_isMissing (by omega) e18) rfl ?_
      refine qv_br (c := v18 = 0) (a := (24, [some (.ref l0), some (.int l1), some (.int l2), some (.int l3), some (.int l4)], [.int l2], H)) (b := (38, [some (.ref l0), some (.int l1), some (.int l2), some (.int l3), some (.int l4)], [.int l2], H)) 1 rfl (fun c21 => ?_) (fun c21 => ?_)
      · replace h := qv_pos c21 h
        refine qv_run 3 (σ := (28, [some (.ref l0), some (.int l1), some (.int l2), some (.int l3), some (.int l4)], [.int 2, .int l4, .ref l0, .int l2], H)) rfl ?_
        obtain ⟨v28, e28, h⟩ := qv_bind h
        refine qv_callV [.int l4, .int 2] rfl rfl rfl (Nat.le_of_ble_eq_true rfl) g18 (th_X11_of (by omega) e28) rfl ?_
        refine qv_dia (c := v28 = 0) (a := (34, [some (.ref l0), some (.int l1), some (.int l2), some (.int l3), some (.int l4)], [.int l2], H)) (b := (38, [some (.ref l0), some (.int l1), some (.int l2), some (.int l3), some (.int l4)], [.int l2], H)) (σ' := (39, [some (.ref l0), some (.int l1), some (.int l2), some (.int l3), some (.int l4)], [.int (if v28 = 0 then 1 else 0), .int l2], H)) 1 rfl ?_ (fun c31 kk => qv_run 2 (σ := (39, [some (.ref l0), some (.int l1), some (.int l2), some (.int l3), some (.int l4)], [.int 1, .int l2], H)) rfl (qv_eq (by simp only [if_pos c31]) kk)) (fun c31 kk => qv_run 1 (σ := (39, [some (.ref l0), some (.int l1), some (.int l2), some (.int l3), some (.int l4)], [.int 0, .int l2], H)) rfl (qv_eq (by simp only [if_neg c31]) kk))
        refine qv_run 6 (σ := (46, [some (.ref l0), some (.int l1), some (.int (l2 + (if v28 = 0 then 1 else 0))), some (.int l3), some (.int l4)], [.int 1, .int l4, .ref l0, .int l3], H)) rfl ?_
        obtain ⟨v46, e46, h⟩ := qv_bind h
        refine qv_callV [.int l4, .int 1] rfl rfl rfl (Nat.le_of_ble_eq_true rfl) g18 (th_X11_of (by omega) e46) rfl ?_
        refine qv_run 4 (σ := (7, [some (.ref l0), some (.int l1), some (.int (l2 + (if v28 = 0 then 1 else 0))), some (.int (l3 + v46)), some (.int (l4 + 1))], [], H)) rfl ?_
        exact ih l0 l1 (l2 + (if v28 = 0 then 1 else 0)) (l3 + v46) (l4 + 1) H h
      · replace h := qv_neg c21 h
        exact tb_X11_count_38 hd _ ih hR l0 l1 l3 l4 l2 (some (.int l2)) rfl H h
theorem tlb_X11_count_7 {r : Int32} {H' : qx_H} : ∀ (n : Nat) (l0 : Nat) (l1 : Int32) (l2 : Int32) (l3 : Int32) (l4 : Int32) (H : qx_H) (h : fm_X11_count_b7 n l0 l1 l2 l3 l4 H = some (r, H')), H'.length = H.length := by
  intro n
  induction n with
  | zero => intro l0 l1 l2 l3 l4 H h; exact nomatch (show (none : Option (Int32 × qx_H)) = some (r, H') from h)
  | succ n ih =>
    intro l0 l1 l2 l3 l4 H h
    unfold fm_X11_count_b7 at h
    by_cases c11 : 31 ≤ l4
    · replace h := qv_pos c11 h
      by_cases c58_0 : l1 = 0
      · replace h := qv_pos c58_0 h
        obtain ⟨v109, e109, h⟩ := qv_bind h
        obtain ⟨v113, e113, h⟩ := qv_bind h
        obtain ⟨rfl, rfl⟩ := qv_pair h
        rfl
      · replace h := qv_neg c58_0 h
        by_cases c58_1 : l1 = 1
        · replace h := qv_pos c58_1 h
          obtain ⟨g116, h⟩ := qv_guard h
          obtain ⟨v116, e116, h⟩ := qv_bind h
          obtain ⟨rfl, rfl⟩ := qv_pair h
          rfl
        · replace h := qv_neg c58_1 h
          by_cases c58_2 : l1 = 2
          · replace h := qv_pos c58_2 h
            obtain ⟨rfl, rfl⟩ := qv_pair h
            rfl
          · replace h := qv_neg c58_2 h
            by_cases c58_3 : l1 = 3
            · replace h := qv_pos c58_3 h
              obtain ⟨v123, e123, h⟩ := qv_bind h
              obtain ⟨v127, e127, h⟩ := qv_bind h
              obtain ⟨rfl, rfl⟩ := qv_pair h
              rfl
            · replace h := qv_neg c58_3 h
              by_cases c58_4 : l1 = 4
              · replace h := qv_pos c58_4 h
                obtain ⟨rfl, rfl⟩ := qv_pair h
                rfl
              · replace h := qv_neg c58_4 h
                by_cases c58_5 : l1 = 5
                · replace h := qv_pos c58_5 h
                  obtain ⟨v132, e132, h⟩ := qv_bind h
                  obtain ⟨v136, e136, h⟩ := qv_bind h
                  obtain ⟨rfl, rfl⟩ := qv_pair h
                  rfl
                · replace h := qv_neg c58_5 h
                  by_cases c58_6 : l1 = 6
                  · replace h := qv_pos c58_6 h
                    obtain ⟨v139, e139, h⟩ := qv_bind h
                    obtain ⟨v143, e143, h⟩ := qv_bind h
                    obtain ⟨rfl, rfl⟩ := qv_pair h
                    rfl
                  · replace h := qv_neg c58_6 h
                    by_cases c58_7 : l1 = 7
                    · replace h := qv_pos c58_7 h
                      obtain ⟨v146, e146, h⟩ := qv_bind h
                      obtain ⟨rfl, rfl⟩ := qv_pair h
                      rfl
                    · replace h := qv_neg c58_7 h
                      by_cases c58_8 : l1 = 8
                      · replace h := qv_pos c58_8 h
                        obtain ⟨v151, e151, h⟩ := qv_bind h
                        obtain ⟨v155, e155, h⟩ := qv_bind h
                        obtain ⟨rfl, rfl⟩ := qv_pair h
                        rfl
                      · replace h := qv_neg c58_8 h
                        by_cases c165 : (fm_X11_in l1 9 11) = 0
                        · replace h := qv_pos c165 h
                          obtain ⟨g184, h⟩ := qv_guard h
                          obtain ⟨v184, H184, e184, h⟩ := qv_bind2 h
                          have q_H184 := tl_X11_error e184
                          obtain ⟨rfl, rfl⟩ := qv_pair h
                          omega
                        · replace h := qv_neg c165 h
                          obtain ⟨v169, e169, h⟩ := qv_bind h
                          obtain ⟨v178, e178, h⟩ := qv_bind h
                          obtain ⟨rfl, rfl⟩ := qv_pair h
                          rfl
    · replace h := qv_neg c11 h
      obtain ⟨g18, h⟩ := qv_guard h
      obtain ⟨v18, e18, h⟩ := qv_bind h
      by_cases c21 : v18 = 0
      · replace h := qv_pos c21 h
        obtain ⟨v28, e28, h⟩ := qv_bind h
        obtain ⟨v46, e46, h⟩ := qv_bind h
        exact ih l0 l1 (l2 + (if v28 = 0 then 1 else 0)) (l3 + v46) (l4 + 1) H h
      · replace h := qv_neg c21 h
        exact tlb_X11_count_38 _ ih l0 l1 l3 l4 l2 H h
theorem tb_X11_count_0 {st : xT} {d : Nat} {R : Option Value → qx_H → Prop} (hd : 3 ≤ d) {r : Int32} {H' : qx_H} (hR : R (some (.int r)) H') (a0 : Nat) (a1 : Int32) (H : qx_H) (h : fm_X11_count a0 a1 H = some (r, H')) : qx_V (xE st d) R (xc230 st) (0, [some (.ref a0), some (.int a1), none, none, none], [], H) := by
  unfold fm_X11_count at h
  refine qv_run 6 (σ := (7, [some (.ref a0), some (.int a1), some (.int 0), some (.int 0), some (.int 0)], [], H)) rfl ?_
  exact tb_X11_count_7 hd hR 5000 a0 a1 0 0 0 H h
theorem tlb_X11_count_0 {r : Int32} {H' : qx_H} (a0 : Nat) (a1 : Int32) (H : qx_H) (h : fm_X11_count a0 a1 H = some (r, H')) : H'.length = H.length := by
  unfold fm_X11_count at h
  exact tlb_X11_count_7 5000 a0 a1 0 0 0 H h
theorem th_X11_count {st : xT} {d : Nat} (hd : 4 ≤ d) {a0 : Nat} {a1 : Int32} {H : qx_H} {r : Int32} {H' : qx_H} (h : fm_X11_count a0 a1 H = some (r, H')) : xE st d 230 [.ref a0, .int a1] H (some (.int r)) H' := by
  obtain ⟨d, rfl⟩ : ∃ d', d = d' + 1 := ⟨d - 1, by omega⟩
  exact xE_of (xe230 st) xl230 (Nat.le_of_ble_eq_true rfl) (ls := [some (.ref a0), some (.int a1), none, none, none]) rfl (tb_X11_count_0 (by omega) ⟨rfl, rfl⟩ a0 a1 H h)
theorem tl_X11_count {a0 : Nat} {a1 : Int32} {H : qx_H} {r : Int32} {H' : qx_H} (h : fm_X11_count a0 a1 H = some (r, H')) : H'.length = H.length := tlb_X11_count_0 a0 a1 H h
def fm_X11_told (a0 : Nat) (a1 : Int32) (H : qx_H) : Option (Int32 × qx_H) := if (fm_X11_in a1 1 6) = 0 then (if hp_is H a0 9 = true then (ob2 (fm_X11_error a0 1 H) fun v21 H21 => some (v21, H21)) else none) else ((hp_gR H a0 9 4).bind fun v11 => (hp_ald H v11 a1).bind fun v15 => some (v15, H))
theorem tb_X11_told_0 {st : xT} {d : Nat} {R : Option Value → qx_H → Prop} (hd : 1 ≤ d) {r : Int32} {H' : qx_H} (hR : R (some (.int r)) H') (a0 : Nat) (a1 : Int32) (H : qx_H) (h : fm_X11_told a0 a1 H = some (r, H')) : qx_V (xE st d) R (xc231 st) (0, [some (.ref a0), some (.int a1)], [], H) := by
  unfold fm_X11_told at h
  refine qv_run 3 (σ := (4, [some (.ref a0), some (.int a1)], [.int 6, .int 1, .int a1], H)) rfl ?_
  refine qv_call [.int a1, .int 1, .int 6] rfl rfl rfl (Nat.le_of_ble_eq_true rfl) (th_X11_in (by omega) rfl) rfl ?_
  refine qv_br (c := (fm_X11_in a1 1 6) = 0) (a := (19, [some (.ref a0), some (.int a1)], [], H)) (b := (10, [some (.ref a0), some (.int a1)], [], H)) 1 rfl (fun c7 => ?_) (fun c7 => ?_)
  · replace h := qv_pos c7 h
    refine qv_run 2 (σ := (21, [some (.ref a0), some (.int a1)], [.int 1, .ref a0], H)) rfl ?_
    obtain ⟨g21, h⟩ := qv_guard h
    obtain ⟨v21, H21, e21, h⟩ := qv_bind2 h
    refine qv_callV [.int 1] rfl rfl rfl (Nat.le_of_ble_eq_true rfl) g21 (th_X11_error (by omega) e21) (tl_X11_error e21) ?_
    obtain ⟨rfl, rfl⟩ := qv_pair h
    exact qv_reti rfl hR
  · replace h := qv_neg c7 h
    refine qv_run 1 (σ := (11, [some (.ref a0), some (.int a1)], [.ref a0], H)) rfl ?_
    obtain ⟨v11, e11, h⟩ := qv_bind h
    refine qv_getR rfl e11 ?_
    refine qv_run 1 (σ := (15, [some (.ref a0), some (.int a1)], [.int a1, .ref v11], H)) rfl ?_
    obtain ⟨v15, e15, h⟩ := qv_bind h
    refine qv_ald rfl e15 ?_
    refine qv_run 1 (σ := (24, [some (.ref a0), some (.int a1)], [.int v15], H)) rfl ?_
    obtain ⟨rfl, rfl⟩ := qv_pair h
    exact qv_reti rfl hR
theorem tlb_X11_told_0 {r : Int32} {H' : qx_H} (a0 : Nat) (a1 : Int32) (H : qx_H) (h : fm_X11_told a0 a1 H = some (r, H')) : H'.length = H.length := by
  unfold fm_X11_told at h
  by_cases c7 : (fm_X11_in a1 1 6) = 0
  · replace h := qv_pos c7 h
    obtain ⟨g21, h⟩ := qv_guard h
    obtain ⟨v21, H21, e21, h⟩ := qv_bind2 h
    have q_H21 := tl_X11_error e21
    obtain ⟨rfl, rfl⟩ := qv_pair h
    omega
  · replace h := qv_neg c7 h
    obtain ⟨v11, e11, h⟩ := qv_bind h
    obtain ⟨v15, e15, h⟩ := qv_bind h
    obtain ⟨rfl, rfl⟩ := qv_pair h
    rfl
theorem th_X11_told {st : xT} {d : Nat} (hd : 2 ≤ d) {a0 : Nat} {a1 : Int32} {H : qx_H} {r : Int32} {H' : qx_H} (h : fm_X11_told a0 a1 H = some (r, H')) : xE st d 231 [.ref a0, .int a1] H (some (.int r)) H' := by
  obtain ⟨d, rfl⟩ : ∃ d', d = d' + 1 := ⟨d - 1, by omega⟩
  exact xE_of (xe231 st) xl231 (Nat.le_of_ble_eq_true rfl) (ls := [some (.ref a0), some (.int a1)]) rfl (tb_X11_told_0 (by omega) ⟨rfl, rfl⟩ a0 a1 H h)
theorem tl_X11_told {a0 : Nat} {a1 : Int32} {H : qx_H} {r : Int32} {H' : qx_H} (h : fm_X11_told a0 a1 H = some (r, H')) : H'.length = H.length := tlb_X11_told_0 a0 a1 H h
def fm_L_law_b1332 (st : xT) (k18 : Nat → Nat → Int32 → qx_H → Option (Int32 × qx_H)) (l1 : Nat) (l2 : Nat) (l3 : Int32) (H : qx_H) : Option (Int32 × qx_H) := k18 l1 l2 (l3 + 6) H
def fm_L_law_b18 (st : xT) : Nat → Nat → Nat → Int32 → qx_H → Option (Int32 × qx_H)
  | 0, _, _, _, _ => none
  | n + 1, l1, l2, l3, H => (hp_sln st 1).bind fun v20 => if (v20 - 6) < l3 then (some (1, H)) else ((hp_sld st 1 l3).bind fun v29 => if (v29 &&& 63) = 0 then ((hp_sld st 1 (l3 + 1)).bind fun v209 => (hp_sld st 1 (l3 + 2)).bind fun v214 => (hp_sld st 1 (l3 + 3)).bind fun v219 => if hp_is H l1 8 = true then (ob2 (fm_X10_tie l1 v209 v214 v219 H) fun v220 H220 => (hp_sld st 1 (l3 + 1)).bind fun v228 => (hp_sld st 1 (l3 + 2)).bind fun v233 => (hp_sld st 1 (l3 + 3)).bind fun v238 => if hp_is H220 l2 9 = true then (ob2 (fm_X11_tie l2 v228 v233 v238 H220) fun v239 H239 => if v220 = v239 then (fm_L_law_b1332 st (fm_L_law_b18 st n) l1 l2 l3 H239) else (some (0, H239))) else none) else none) else if (v29 &&& 63) = 1 then ((hp_sld st 1 (l3 + 1)).bind fun v252 => (hp_sld st 1 (l3 + 2)).bind fun v257 => if hp_is H l1 8 = true then (ob2 (fm_X10_knotIs l1 v252 v257 H) fun v258 H258 => (hp_sld st 1 (l3 + 1)).bind fun v266 => (hp_sld st 1 (l3 + 2)).bind fun v271 => if hp_is H258 l2 9 = true then (ob2 (fm_X11_knotIs l2 v266 v271 H258) fun v272 H272 => if v258 = v272 then (fm_L_law_b1332 st (fm_L_law_b18 st n) l1 l2 l3 H272) else (some (0, H272))) else none) else none) else if (v29 &&& 63) = 2 then ((hp_sld st 1 (l3 + 1)).bind fun v285 => (hp_sld st 1 (l3 + 2)).bind fun v290 => if hp_is H l1 8 = true then (ob2 (fm_X10_as l1 v285 v290 H) fun v291 H291 => (hp_sld st 1 (l3 + 1)).bind fun v299 => (hp_sld st 1 (l3 + 2)).bind fun v304 => if hp_is H291 l2 9 = true then (ob2 (fm_X11_as l2 v299 v304 H291) fun v305 H305 => if v291 = v305 then (fm_L_law_b1332 st (fm_L_law_b18 st n) l1 l2 l3 H305) else (some (0, H305))) else none) else none) else if (v29 &&& 63) = 3 then ((hp_sld st 1 (l3 + 1)).bind fun v318 => (hp_sld st 1 (l3 + 2)).bind fun v323 => if hp_is H l1 8 = true then (ob2 (fm_X10_threadIs l1 v318 v323 H) fun v324 H324 => (hp_sld st 1 (l3 + 1)).bind fun v332 => (hp_sld st 1 (l3 + 2)).bind fun v337 => if hp_is H324 l2 9 = true then (ob2 (fm_X11_threadIs l2 v332 v337 H324) fun v338 H338 => if v324 = v338 then (fm_L_law_b1332 st (fm_L_law_b18 st n) l1 l2 l3 H338) else (some (0, H338))) else none) else none) else if (v29 &&& 63) = 4 then ((hp_sld st 1 (l3 + 1)).bind fun v351 => if hp_is H l1 8 = true then (ob2 (fm_X10_cut l1 v351 H) fun v352 H352 => (hp_sld st 1 (l3 + 1)).bind fun v360 => if hp_is H352 l2 9 = true then (ob2 (fm_X11_cut l2 v360 H352) fun v361 H361 => if v352 = v361 then (fm_L_law_b1332 st (fm_L_law_b18 st n) l1 l2 l3 H361) else (some (0, H361))) else none) else none) else if (v29 &&& 63) = 5 then ((hp_sld st 1 (l3 + 1)).bind fun v374 => (hp_sld st 1 (l3 + 2)).bind fun v379 => if hp_is H l1 8 = true then (ob2 (fm_X10_wear l1 v374 v379 H) fun v380 H380 => (hp_sld st 1 (l3 + 1)).bind fun v388 => (hp_sld st 1 (l3 + 2)).bind fun v393 => if hp_is H380 l2 9 = true then (ob2 (fm_X11_wear l2 v388 v393 H380) fun v394 H394 => if v380 = v394 then (fm_L_law_b1332 st (fm_L_law_b18 st n) l1 l2 l3 H394) else (some (0, H394))) else none) else none) else if (v29 &&& 63) = 6 then ((hp_sld st 1 (l3 + 1)).bind fun v407 => if hp_is H l1 8 = true then (ob2 (fm_X10_twine l1 v407 H) fun v408 H408 => (hp_sld st 1 (l3 + 1)).bind fun v416 => if hp_is H408 l2 9 = true then (ob2 (fm_X11_twine l2 v416 H408) fun v417 H417 => if v408 = v417 then (fm_L_law_b1332 st (fm_L_law_b18 st n) l1 l2 l3 H417) else (some (0, H417))) else none) else none) else if (v29 &&& 63) = 7 then ((hp_sld st 1 (l3 + 1)).bind fun v430 => (hp_sld st 1 (l3 + 2)).bind fun v435 => if hp_is H l1 8 = true then (ob2 (fm_X10_speed l1 v430 v435 H) fun v436 H436 => (hp_sld st 1 (l3 + 1)).bind fun v444 => (hp_sld st 1 (l3 + 2)).bind fun v449 => if hp_is H436 l2 9 = true then (ob2 (fm_X11_speed l2 v444 v449 H436) fun v450 H450 => if v436 = v450 then (fm_L_law_b1332 st (fm_L_law_b18 st n) l1 l2 l3 H450) else (some (0, H450))) else none) else none) else if (v29 &&& 63) = 8 then ((hp_sld st 1 (l3 + 1)).bind fun v463 => (hp_sld st 1 (l3 + 2)).bind fun v472 => (hp_sld st 1 (l3 + 3)).bind fun v483 => if hp_is H l1 8 = true then (ob2 (fm_X10_feed l1 ((jl_shl (Int32.toInt64 v463) 32) ||| ((Int32.toInt64 v472) &&& 4294967295)) v483 H) fun v484 H484 => (hp_sld st 1 (l3 + 1)).bind fun v492 => (hp_sld st 1 (l3 + 2)).bind fun v501 => (hp_sld st 1 (l3 + 3)).bind fun v512 => if hp_is H484 l2 9 = true then (ob2 (fm_X11_feed l2 ((jl_shl (Int32.toInt64 v492) 32) ||| ((Int32.toInt64 v501) &&& 4294967295)) v512 H484) fun v513 H513 => if v484 = v513 then (fm_L_law_b1332 st (fm_L_law_b18 st n) l1 l2 l3 H513) else (some (0, H513))) else none) else none) else if (v29 &&& 63) = 9 then ((hp_sld st 1 (l3 + 1)).bind fun v526 => if hp_is H l1 8 = true then (ob2 (fm_X10_text l1 v526 H) fun v527 H527 => (hp_sld st 1 (l3 + 1)).bind fun v535 => if hp_is H527 l2 9 = true then (ob2 (fm_X11_text l2 v535 H527) fun v536 H536 => if v527 = v536 then (fm_L_law_b1332 st (fm_L_law_b18 st n) l1 l2 l3 H536) else (some (0, H536))) else none) else none) else if (v29 &&& 63) = 10 then ((hp_sld st 1 (l3 + 1)).bind fun v549 => if hp_is H l1 8 = true then (ob2 (fm_X10_untell l1 v549 H) fun v550 H550 => (hp_sld st 1 (l3 + 1)).bind fun v558 => if hp_is H550 l2 9 = true then (ob2 (fm_X11_untell l2 v558 H550) fun v559 H559 => if v550 = v559 then (fm_L_law_b1332 st (fm_L_law_b18 st n) l1 l2 l3 H559) else (some (0, H559))) else none) else none) else if (v29 &&& 63) = 11 then ((hp_sld st 1 (l3 + 1)).bind fun v572 => (hp_sld st 1 (l3 + 2)).bind fun v577 => if hp_is H l1 8 = true then (ob2 (fm_X10_run l1 v572 v577 H) fun v578 H578 => (hp_sld st 1 (l3 + 1)).bind fun v586 => (hp_sld st 1 (l3 + 2)).bind fun v591 => if hp_is H578 l2 9 = true then (ob2 (fm_X11_run l2 v586 v591 H578) fun v592 H592 => if v578 = v592 then (fm_L_law_b1332 st (fm_L_law_b18 st n) l1 l2 l3 H592) else (some (0, H592))) else none) else none) else if (v29 &&& 63) = 12 then ((hp_sld st 1 (l3 + 1)).bind fun v605 => if hp_is H l1 8 = true then (ob2 (fm_X10_odd l1 v605 H) fun v606 H606 => (hp_sld st 1 (l3 + 1)).bind fun v614 => if hp_is H606 l2 9 = true then (ob2 (fm_X11_odd l2 v614 H606) fun v615 H615 => if v606 = v615 then (fm_L_law_b1332 st (fm_L_law_b18 st n) l1 l2 l3 H615) else (some (0, H615))) else none) else none) else if (v29 &&& 63) = 13 then ((hp_sld st 1 (l3 + 1)).bind fun v628 => if hp_is H l1 8 = true then (ob2 (fm_X10_cuts l1 v628 H) fun v629 H629 => (hp_sld st 1 (l3 + 1)).bind fun v637 => if hp_is H629 l2 9 = true then (ob2 (fm_X11_cuts l2 v637 H629) fun v638 H638 => if v629 = v638 then (fm_L_law_b1332 st (fm_L_law_b18 st n) l1 l2 l3 H638) else (some (0, H638))) else none) else none) else if (v29 &&& 63) = 14 then ((hp_sld st 1 (l3 + 1)).bind fun v651 => if hp_is H l1 8 = true then (ob2 (fm_X10_way l1 v651 H) fun v652 H652 => (hp_sld st 1 (l3 + 1)).bind fun v660 => if hp_is H652 l2 9 = true then (ob2 (fm_X11_way l2 v660 H652) fun v661 H661 => if v652 = v661 then (fm_L_law_b1332 st (fm_L_law_b18 st n) l1 l2 l3 H661) else (some (0, H661))) else none) else none) else if (v29 &&& 63) = 15 then ((hp_sld st 1 (l3 + 1)).bind fun v674 => if hp_is H l1 8 = true then (ob2 (fm_X10_hole l1 v674 H) fun v675 H675 => (hp_sld st 1 (l3 + 1)).bind fun v683 => if hp_is H675 l2 9 = true then (ob2 (fm_X11_hole l2 v683 H675) fun v684 H684 => if v675 = v684 then (fm_L_law_b1332 st (fm_L_law_b18 st n) l1 l2 l3 H684) else (some (0, H684))) else none) else none) else if (v29 &&& 63) = 16 then (if hp_is H l1 8 = true then ((fm_X10_open l1 H).bind fun v693 => if hp_is H l2 9 = true then ((fm_X11_open l2 H).bind fun v697 => if v693 = v697 then (fm_L_law_b1332 st (fm_L_law_b18 st n) l1 l2 l3 H) else (some (0, H))) else none) else none) else if (v29 &&& 63) = 17 then ((hp_sld st 1 (l3 + 1)).bind fun v710 => if hp_is H l1 8 = true then (ob2 (fm_X10_minutes l1 v710 H) fun v711 H711 => (hp_sld st 1 (l3 + 1)).bind fun v719 => if hp_is H711 l2 9 = true then (ob2 (fm_X11_minutes l2 v719 H711) fun v720 H720 => if v711 = v720 then (fm_L_law_b1332 st (fm_L_law_b18 st n) l1 l2 l3 H720) else (some (0, H720))) else none) else none) else if (v29 &&& 63) = 18 then ((hp_sld st 1 (l3 + 1)).bind fun v733 => if hp_is H l1 8 = true then (ob2 (fm_X10_days l1 v733 H) fun v734 H734 => (hp_sld st 1 (l3 + 1)).bind fun v742 => if hp_is H734 l2 9 = true then (ob2 (fm_X11_days l2 v742 H734) fun v743 H743 => if v734 = v743 then (fm_L_law_b1332 st (fm_L_law_b18 st n) l1 l2 l3 H743) else (some (0, H743))) else none) else none) else if (v29 &&& 63) = 19 then ((hp_sld st 1 (l3 + 1)).bind fun v756 => if hp_is H l1 8 = true then (ob2 (fm_X10_draws l1 v756 H) fun v757 H757 => (hp_sld st 1 (l3 + 1)).bind fun v765 => if hp_is H757 l2 9 = true then (ob2 (fm_X11_draws l2 v765 H757) fun v766 H766 => if v757 = v766 then (fm_L_law_b1332 st (fm_L_law_b18 st n) l1 l2 l3 H766) else (some (0, H766))) else none) else none) else if (v29 &&& 63) = 20 then ((hp_sld st 1 (l3 + 1)).bind fun v779 => if hp_is H l1 8 = true then (ob2 (fm_X10_seed l1 v779 H) fun v780 H780 => (hp_sld st 1 (l3 + 1)).bind fun v788 => if hp_is H780 l2 9 = true then (ob2 (fm_X11_seed l2 v788 H780) fun v789 H789 => if v780 = v789 then (fm_L_law_b1332 st (fm_L_law_b18 st n) l1 l2 l3 H789) else (some (0, H789))) else none) else none) else if (v29 &&& 63) = 21 then ((hp_sld st 1 (l3 + 1)).bind fun v802 => (hp_sld st 1 (l3 + 2)).bind fun v807 => (hp_sld st 1 (l3 + 3)).bind fun v812 => if hp_is H l1 8 = true then (ob2 (fm_X10_then l1 v802 v807 v812 H) fun v813 H813 => (hp_sld st 1 (l3 + 1)).bind fun v821 => (hp_sld st 1 (l3 + 2)).bind fun v826 => (hp_sld st 1 (l3 + 3)).bind fun v831 => if hp_is H813 l2 9 = true then (ob2 (fm_X11_then l2 v821 v826 v831 H813) fun v832 H832 => if v813 = v832 then (fm_L_law_b1332 st (fm_L_law_b18 st n) l1 l2 l3 H832) else (some (0, H832))) else none) else none) else if (v29 &&& 63) = 22 then ((hp_sld st 1 (l3 + 1)).bind fun v845 => (hp_sld st 1 (l3 + 2)).bind fun v850 => if hp_is H l1 8 = true then (ob2 (fm_X10_goes l1 v845 v850 H) fun v851 H851 => (hp_sld st 1 (l3 + 1)).bind fun v859 => (hp_sld st 1 (l3 + 2)).bind fun v864 => if hp_is H851 l2 9 = true then (ob2 (fm_X11_goes l2 v859 v864 H851) fun v865 H865 => if v851 = v865 then (fm_L_law_b1332 st (fm_L_law_b18 st n) l1 l2 l3 H865) else (some (0, H865))) else none) else none) else if (v29 &&& 63) = 23 then ((hp_sld st 1 (l3 + 1)).bind fun v878 => (hp_sld st 1 (l3 + 2)).bind fun v883 => if hp_is H l1 8 = true then (ob2 (fm_X10_mendAhead l1 v878 v883 H) fun v884 H884 => (hp_sld st 1 (l3 + 1)).bind fun v892 => (hp_sld st 1 (l3 + 2)).bind fun v897 => if hp_is H884 l2 9 = true then (ob2 (fm_X11_mendAhead l2 v892 v897 H884) fun v898 H898 => if v884 = v898 then (fm_L_law_b1332 st (fm_L_law_b18 st n) l1 l2 l3 H898) else (some (0, H898))) else none) else none) else if (v29 &&& 63) = 24 then ((hp_sld st 1 (l3 + 1)).bind fun v911 => (hp_sld st 1 (l3 + 2)).bind fun v916 => if hp_is H l1 8 = true then (ob2 (fm_X10_hands l1 v911 v916 H) fun v917 H917 => (hp_sld st 1 (l3 + 1)).bind fun v925 => (hp_sld st 1 (l3 + 2)).bind fun v930 => if hp_is H917 l2 9 = true then (ob2 (fm_X11_hands l2 v925 v930 H917) fun v931 H931 => if v917 = v931 then (fm_L_law_b1332 st (fm_L_law_b18 st n) l1 l2 l3 H931) else (some (0, H931))) else none) else none) else if (v29 &&& 63) = 25 then ((hp_sld st 1 (l3 + 1)).bind fun v944 => if hp_is H l1 8 = true then (ob2 (fm_X10_swimsOut l1 v944 H) fun v945 H945 => (hp_sld st 1 (l3 + 1)).bind fun v953 => if hp_is H945 l2 9 = true then (ob2 (fm_X11_swimsOut l2 v953 H945) fun v954 H954 => if (lg_cmp v945 v954) = 0 then (fm_L_law_b1332 st (fm_L_law_b18 st n) l1 l2 l3 H954) else (some (0, H954))) else none) else none) else if (v29 &&& 63) = 26 then ((hp_sld st 1 (l3 + 1)).bind fun v968 => (hp_sld st 1 (l3 + 2)).bind fun v973 => (hp_sld st 1 (l3 + 3)).bind fun v978 => if hp_is H l1 8 = true then (ob2 (fm_X10_voice st l1 v968 v973 v978 H) fun v979 H979 => (hp_sld st 1 (l3 + 1)).bind fun v987 => (hp_sld st 1 (l3 + 2)).bind fun v992 => (hp_sld st 1 (l3 + 3)).bind fun v997 => if hp_is H979 l2 9 = true then (ob2 (fm_X11_voice l2 v987 v992 v997 H979) fun v998 H998 => if v979 = v998 then (fm_L_law_b1332 st (fm_L_law_b18 st n) l1 l2 l3 H998) else (some (0, H998))) else none) else none) else if (v29 &&& 63) = 27 then ((hp_sld st 1 (l3 + 1)).bind fun v1011 => if hp_is H l1 8 = true then (ob2 (fm_X10_body l1 v1011 H) fun v1012 H1012 => (hp_sld st 1 (l3 + 1)).bind fun v1020 => if hp_is H1012 l2 9 = true then (ob2 (fm_X11_body l2 v1020 H1012) fun v1021 H1021 => if v1012 = v1021 then (fm_L_law_b1332 st (fm_L_law_b18 st n) l1 l2 l3 H1021) else (some (0, H1021))) else none) else none) else if (v29 &&& 63) = 28 then ((hp_sld st 1 (l3 + 1)).bind fun v1034 => (hp_sld st 1 (l3 + 2)).bind fun v1039 => (hp_sld st 1 (l3 + 3)).bind fun v1044 => if hp_is H l1 8 = true then (ob2 (fm_X10_sheet l1 v1034 v1039 v1044 H) fun v1045 H1045 => (hp_sld st 1 (l3 + 1)).bind fun v1053 => (hp_sld st 1 (l3 + 2)).bind fun v1058 => (hp_sld st 1 (l3 + 3)).bind fun v1063 => if hp_is H1045 l2 9 = true then (ob2 (fm_X11_sheet l2 v1053 v1058 v1063 H1045) fun v1064 H1064 => if v1045 = v1064 then (fm_L_law_b1332 st (fm_L_law_b18 st n) l1 l2 l3 H1064) else (some (0, H1064))) else none) else none) else if (v29 &&& 63) = 29 then ((hp_sld st 1 (l3 + 1)).bind fun v1077 => (hp_sld st 1 (l3 + 2)).bind fun v1082 => (hp_sld st 1 (l3 + 3)).bind fun v1087 => if hp_is H l1 8 = true then (ob2 (fm_X10_put l1 v1077 v1082 v1087 H) fun v1088 H1088 => (hp_sld st 1 (l3 + 1)).bind fun v1096 => (hp_sld st 1 (l3 + 2)).bind fun v1101 => (hp_sld st 1 (l3 + 3)).bind fun v1106 => if hp_is H1088 l2 9 = true then (ob2 (fm_X11_put l2 v1096 v1101 v1106 H1088) fun v1107 H1107 => if v1088 = v1107 then (fm_L_law_b1332 st (fm_L_law_b18 st n) l1 l2 l3 H1107) else (some (0, H1107))) else none) else none) else if (v29 &&& 63) = 30 then ((hp_sld st 1 (l3 + 1)).bind fun v1120 => (hp_sld st 1 (l3 + 2)).bind fun v1125 => (hp_sld st 1 (l3 + 3)).bind fun v1130 => (hp_sld st 1 (l3 + 4)).bind fun v1135 => (hp_sld st 1 (l3 + 5)).bind fun v1140 => if hp_is H l1 8 = true then (ob2 (fm_X10_move l1 v1120 v1125 v1130 v1135 v1140 H) fun v1141 H1141 => (hp_sld st 1 (l3 + 1)).bind fun v1149 => (hp_sld st 1 (l3 + 2)).bind fun v1154 => (hp_sld st 1 (l3 + 3)).bind fun v1159 => (hp_sld st 1 (l3 + 4)).bind fun v1164 => (hp_sld st 1 (l3 + 5)).bind fun v1169 => if hp_is H1141 l2 9 = true then (ob2 (fm_X11_move l2 v1149 v1154 v1159 v1164 v1169 H1141) fun v1170 H1170 => if v1141 = v1170 then (fm_L_law_b1332 st (fm_L_law_b18 st n) l1 l2 l3 H1170) else (some (0, H1170))) else none) else none) else if (v29 &&& 63) = 31 then ((hp_sld st 1 (l3 + 1)).bind fun v1183 => if hp_is H l1 8 = true then (ob2 (fm_X10_cutAll l1 v1183 H) fun v1184 H1184 => (hp_sld st 1 (l3 + 1)).bind fun v1192 => if hp_is H1184 l2 9 = true then (ob2 (fm_X11_cutAll l2 v1192 H1184) fun v1193 H1193 => if v1184 = v1193 then (fm_L_law_b1332 st (fm_L_law_b18 st n) l1 l2 l3 H1193) else (some (0, H1193))) else none) else none) else if (v29 &&& 63) = 32 then ((hp_sld st 1 (l3 + 1)).bind fun v1206 => if hp_is H l1 8 = true then (ob2 (fm_X10_judge l1 v1206 H) fun v1207 H1207 => (hp_sld st 1 (l3 + 1)).bind fun v1215 => if hp_is H1207 l2 9 = true then (ob2 (fm_X11_judge l2 v1215 H1207) fun v1216 H1216 => if v1207 = v1216 then (fm_L_law_b1332 st (fm_L_law_b18 st n) l1 l2 l3 H1216) else (some (0, H1216))) else none) else none) else if (v29 &&& 63) = 33 then (if hp_is H l1 8 = true then (ob2 (fm_X10_image l1 H) fun v1225 H1225 => if hp_is H1225 l2 9 = true then (ob2 (fm_X11_image l2 H1225) fun v1229 H1229 => if v1225 = v1229 then (fm_L_law_b1332 st (fm_L_law_b18 st n) l1 l2 l3 H1229) else (some (0, H1229))) else none) else none) else if (v29 &&& 63) = 34 then (if hp_is H l1 8 = true then (ob2 (fm_X10_restore l1 H) fun v1238 H1238 => if hp_is H1238 l2 9 = true then (ob2 (fm_X11_restore l2 H1238) fun v1242 H1242 => if v1238 = v1242 then (fm_L_law_b1332 st (fm_L_law_b18 st n) l1 l2 l3 H1242) else (some (0, H1242))) else none) else none) else if (v29 &&& 63) = 35 then ((hp_sld st 1 (l3 + 1)).bind fun v1255 => if hp_is H l1 8 = true then (ob2 (fm_X10_tell l1 v1255 H) fun v1256 H1256 => (hp_sld st 1 (l3 + 1)).bind fun v1264 => if hp_is H1256 l2 9 = true then (ob2 (fm_X11_tell l2 v1264 H1256) fun v1265 H1265 => if v1256 = v1265 then (fm_L_law_b1332 st (fm_L_law_b18 st n) l1 l2 l3 H1265) else (some (0, H1265))) else none) else none) else if (v29 &&& 63) = 36 then (if hp_is H l1 8 = true then (ob2 (fm_X10_check l1 H) fun v1274 H1274 => if hp_is H1274 l2 9 = true then (ob2 (fm_X11_check l2 H1274) fun v1278 H1278 => if v1274 = v1278 then (fm_L_law_b1332 st (fm_L_law_b18 st n) l1 l2 l3 H1278) else (some (0, H1278))) else none) else none) else if (v29 &&& 63) = 37 then ((hp_sld st 1 (l3 + 1)).bind fun v1291 => if hp_is H l1 8 = true then (ob2 (fm_X10_count l1 v1291 H) fun v1292 H1292 => (hp_sld st 1 (l3 + 1)).bind fun v1300 => if hp_is H1292 l2 9 = true then (ob2 (fm_X11_count l2 v1300 H1292) fun v1301 H1301 => if v1292 = v1301 then (fm_L_law_b1332 st (fm_L_law_b18 st n) l1 l2 l3 H1301) else (some (0, H1301))) else none) else none) else if (v29 &&& 63) = 38 then ((hp_sld st 1 (l3 + 1)).bind fun v1314 => if hp_is H l1 8 = true then (ob2 (fm_X10_told l1 v1314 H) fun v1315 H1315 => (hp_sld st 1 (l3 + 1)).bind fun v1323 => if hp_is H1315 l2 9 = true then (ob2 (fm_X11_told l2 v1323 H1315) fun v1324 H1324 => if v1315 = v1324 then (fm_L_law_b1332 st (fm_L_law_b18 st n) l1 l2 l3 H1324) else (some (0, H1324))) else none) else none) else (fm_L_law_b1332 st (fm_L_law_b18 st n) l1 l2 l3 H))
def fm_L_law (st : xT) (H : qx_H) : Option (Int32 × qx_H) := if qx_ok [some (.float 1), none, none, none] [] H = true then (if hp_is (H ++ ([.inr (8, [.null, .null, .null, .null, .null, .null, .null, .null, .null, .null, .int 0])] : qx_H)) H.length 8 = true then (if qx_okl (H ++ ([.inr (8, [.null, .null, .null, .null, .null, .null, .null, .null, .null, .null, .int 0])] : qx_H)).length [some (.float 1), none, none, none] [.ref H.length] = true then ((fm_X10_init H.length (H ++ ([.inr (8, [.null, .null, .null, .null, .null, .null, .null, .null, .null, .null, .int 0])] : qx_H))).bind fun H4 => if qx_ok [some (.float 1), some (.ref H.length), none, none] [] H4 = true then (if hp_is (H4 ++ ([.inr (9, [.null, .null, .null, .int 0, .null, .int 0, .int 0, .int 0, .int 0, .null, .null, .null, .null, .null, .null, .null, .int 0, .int 0, .int 0, .null, .null, .null, .null])] : qx_H)) H4.length 9 = true then (if qx_okl (H4 ++ ([.inr (9, [.null, .null, .null, .int 0, .null, .int 0, .int 0, .int 0, .int 0, .null, .null, .null, .null, .null, .null, .null, .int 0, .int 0, .int 0, .null, .null, .null, .null])] : qx_H)).length [some (.float 1), some (.ref H.length), none, none] [.ref H4.length] = true then ((fm_X11_init H4.length (H4 ++ ([.inr (9, [.null, .null, .null, .int 0, .null, .int 0, .int 0, .int 0, .int 0, .null, .null, .null, .null, .null, .null, .null, .int 0, .int 0, .int 0, .null, .null, .null, .null])] : qx_H))).bind fun H12 => fm_L_law_b18 st 5000 H.length H4.length 0 H12) else none) else none) else none) else none) else none) else none
set_option maxRecDepth 40000 in
set_option maxHeartbeats 8000000 in
theorem tb_L_law_1332 {st : xT} {d : Nat} {R : Option Value → qx_H → Prop} (hd : 55 ≤ d) {r : Int32} {H' : qx_H} (k18 : Nat → Nat → Int32 → qx_H → Option (Int32 × qx_H)) (hk18 : ∀ (l1 : Nat) (l2 : Nat) (l3 : Int32) (H : qx_H), k18 l1 l2 l3 H = some (r, H') → qx_V (xE st d) R (xc233 st) (18, [some (.float 1), some (.ref l1), some (.ref l2), some (.int l3)], [], H)) (hR : R (some (.int r)) H') (l1 : Nat) (l2 : Nat) (l3 : Int32) (H : qx_H) (h : fm_L_law_b1332 st k18 l1 l2 l3 H = some (r, H')) : qx_V (xE st d) R (xc233 st) (1332, [some (.float 1), some (.ref l1), some (.ref l2), some (.int l3)], [], H) := by
  unfold fm_L_law_b1332 at h
  refine qv_run 2 (σ := (18, [some (.float 1), some (.ref l1), some (.ref l2), some (.int (l3 + 6))], [], H)) rfl ?_
  exact hk18 l1 l2 (l3 + 6) H h
set_option maxRecDepth 40000 in
set_option maxHeartbeats 8000000 in
theorem tb_L_law_18 {st : xT} {d : Nat} {R : Option Value → qx_H → Prop} (hd : 55 ≤ d) {r : Int32} {H' : qx_H} (hR : R (some (.int r)) H') : ∀ (n : Nat) (l1 : Nat) (l2 : Nat) (l3 : Int32) (H : qx_H) (h : fm_L_law_b18 st n l1 l2 l3 H = some (r, H')), qx_V (xE st d) R (xc233 st) (18, [some (.float 1), some (.ref l1), some (.ref l2), some (.int l3)], [], H) := by
  intro n
  induction n with
  | zero => intro l1 l2 l3 H h; exact nomatch (show (none : Option (Int32 × qx_H)) = some (r, H') from h)
  | succ n ih =>
    intro l1 l2 l3 H h
    unfold fm_L_law_b18 at h
    refine qv_run 2 (σ := (20, [some (.float 1), some (.ref l1), some (.ref l2), some (.int l3)], [.float 1, .int l3], H)) rfl ?_
    obtain ⟨v20, e20, h⟩ := qv_bind h
    refine qv_sln rfl e20 ?_
    refine qv_br (c := (v20 - 6) < l3) (a := (1338, [some (.float 1), some (.ref l1), some (.ref l2), some (.int l3)], [], H)) (b := (27, [some (.float 1), some (.ref l1), some (.ref l2), some (.int l3)], [], H)) 3 rfl (fun c24 => ?_) (fun c24 => ?_)
    · replace h := qv_pos c24 h
      refine qv_run 1 (σ := (1339, [some (.float 1), some (.ref l1), some (.ref l2), some (.int l3)], [.int 1], H)) rfl ?_
      obtain ⟨rfl, rfl⟩ := qv_pair h
      exact qv_retz rfl (Or.inr rfl) hR
    · replace h := qv_neg c24 h
      refine qv_run 2 (σ := (29, [some (.float 1), some (.ref l1), some (.ref l2), some (.int l3)], [.int l3, .float 1], H)) rfl ?_
      obtain ⟨v29, e29, h⟩ := qv_bind h
      refine qv_sld rfl e29 ?_
      refine qv_run 3 (σ := (qx_swt (v29 &&& 63) 1332 [(0, 204), (1, 247), (2, 280), (3, 313), (4, 346), (5, 369), (6, 402), (7, 425), (8, 458), (9, 521), (10, 544), (11, 567), (12, 600), (13, 623), (14, 646), (15, 669), (16, 692), (17, 705), (18, 728), (19, 751), (20, 774), (21, 797), (22, 840), (23, 873), (24, 906), (25, 939), (26, 963), (27, 1006), (28, 1029), (29, 1072), (30, 1115), (31, 1178), (32, 1201), (33, 1224), (34, 1237), (35, 1250), (36, 1273), (37, 1286), (38, 1309)], [some (.float 1), some (.ref l1), some (.ref l2), some (.int l3)], [], H)) rfl ?_
      refine qv_swt (fun c33_0 => ?_) (fun c33_0 => ?_)
      · replace h := qv_pos c33_0 h
        refine qv_run 5 (σ := (209, [some (.float 1), some (.ref l1), some (.ref l2), some (.int l3)], [.int (l3 + 1), .float 1, .ref l1], H)) rfl ?_
        obtain ⟨v209, e209, h⟩ := qv_bind h
        refine qv_sld rfl e209 ?_
        refine qv_run 4 (σ := (214, [some (.float 1), some (.ref l1), some (.ref l2), some (.int l3)], [.int (l3 + 2), .float 1, .int v209, .ref l1], H)) rfl ?_
        obtain ⟨v214, e214, h⟩ := qv_bind h
        refine qv_sld rfl e214 ?_
        refine qv_run 4 (σ := (219, [some (.float 1), some (.ref l1), some (.ref l2), some (.int l3)], [.int (l3 + 3), .float 1, .int v214, .int v209, .ref l1], H)) rfl ?_
        obtain ⟨v219, e219, h⟩ := qv_bind h
        refine qv_sld rfl e219 ?_
        obtain ⟨g220, h⟩ := qv_guard h
        obtain ⟨v220, H220, e220, h⟩ := qv_bind2 h
        refine qv_callV [.int v209, .int v214, .int v219] rfl rfl rfl (Nat.le_of_ble_eq_true rfl) g220 (th_X10_tie (by omega) e220) (tl_X10_tie e220) ?_
        refine qv_run 5 (σ := (228, [some (.float 1), some (.ref l1), some (.ref l2), some (.int l3)], [.int (l3 + 1), .float 1, .ref l2, .int v220], H220)) rfl ?_
        obtain ⟨v228, e228, h⟩ := qv_bind h
        refine qv_sld rfl e228 ?_
        refine qv_run 4 (σ := (233, [some (.float 1), some (.ref l1), some (.ref l2), some (.int l3)], [.int (l3 + 2), .float 1, .int v228, .ref l2, .int v220], H220)) rfl ?_
        obtain ⟨v233, e233, h⟩ := qv_bind h
        refine qv_sld rfl e233 ?_
        refine qv_run 4 (σ := (238, [some (.float 1), some (.ref l1), some (.ref l2), some (.int l3)], [.int (l3 + 3), .float 1, .int v233, .int v228, .ref l2, .int v220], H220)) rfl ?_
        obtain ⟨v238, e238, h⟩ := qv_bind h
        refine qv_sld rfl e238 ?_
        obtain ⟨g239, h⟩ := qv_guard h
        obtain ⟨v239, H239, e239, h⟩ := qv_bind2 h
        refine qv_callV [.int v228, .int v233, .int v238] rfl rfl rfl (Nat.le_of_ble_eq_true rfl) g239 (th_X11_tie (by omega) e239) (tl_X11_tie e239) ?_
        refine qv_br (c := v220 = v239) (a := (1332, [some (.float 1), some (.ref l1), some (.ref l2), some (.int l3)], [], H239)) (b := (245, [some (.float 1), some (.ref l1), some (.ref l2), some (.int l3)], [], H239)) 1 rfl (fun c242 => ?_) (fun c242 => ?_)
        · replace h := qv_pos c242 h
          exact tb_L_law_1332 hd _ ih hR l1 l2 l3 H239 h
        · replace h := qv_neg c242 h
          refine qv_run 1 (σ := (246, [some (.float 1), some (.ref l1), some (.ref l2), some (.int l3)], [.int 0], H239)) rfl ?_
          obtain ⟨rfl, rfl⟩ := qv_pair h
          exact qv_retz rfl (Or.inl rfl) hR
      · replace h := qv_neg c33_0 h
        refine qv_swt (fun c33_1 => ?_) (fun c33_1 => ?_)
        · replace h := qv_pos c33_1 h
          refine qv_run 5 (σ := (252, [some (.float 1), some (.ref l1), some (.ref l2), some (.int l3)], [.int (l3 + 1), .float 1, .ref l1], H)) rfl ?_
          obtain ⟨v252, e252, h⟩ := qv_bind h
          refine qv_sld rfl e252 ?_
          refine qv_run 4 (σ := (257, [some (.float 1), some (.ref l1), some (.ref l2), some (.int l3)], [.int (l3 + 2), .float 1, .int v252, .ref l1], H)) rfl ?_
          obtain ⟨v257, e257, h⟩ := qv_bind h
          refine qv_sld rfl e257 ?_
          obtain ⟨g258, h⟩ := qv_guard h
          obtain ⟨v258, H258, e258, h⟩ := qv_bind2 h
          refine qv_callV [.int v252, .int v257] rfl rfl rfl (Nat.le_of_ble_eq_true rfl) g258 (th_X10_knotIs (by omega) e258) (tl_X10_knotIs e258) ?_
          refine qv_run 5 (σ := (266, [some (.float 1), some (.ref l1), some (.ref l2), some (.int l3)], [.int (l3 + 1), .float 1, .ref l2, .int v258], H258)) rfl ?_
          obtain ⟨v266, e266, h⟩ := qv_bind h
          refine qv_sld rfl e266 ?_
          refine qv_run 4 (σ := (271, [some (.float 1), some (.ref l1), some (.ref l2), some (.int l3)], [.int (l3 + 2), .float 1, .int v266, .ref l2, .int v258], H258)) rfl ?_
          obtain ⟨v271, e271, h⟩ := qv_bind h
          refine qv_sld rfl e271 ?_
          obtain ⟨g272, h⟩ := qv_guard h
          obtain ⟨v272, H272, e272, h⟩ := qv_bind2 h
          refine qv_callV [.int v266, .int v271] rfl rfl rfl (Nat.le_of_ble_eq_true rfl) g272 (th_X11_knotIs (by omega) e272) (tl_X11_knotIs e272) ?_
          refine qv_br (c := v258 = v272) (a := (1332, [some (.float 1), some (.ref l1), some (.ref l2), some (.int l3)], [], H272)) (b := (278, [some (.float 1), some (.ref l1), some (.ref l2), some (.int l3)], [], H272)) 1 rfl (fun c275 => ?_) (fun c275 => ?_)
          · replace h := qv_pos c275 h
            exact tb_L_law_1332 hd _ ih hR l1 l2 l3 H272 h
          · replace h := qv_neg c275 h
            refine qv_run 1 (σ := (279, [some (.float 1), some (.ref l1), some (.ref l2), some (.int l3)], [.int 0], H272)) rfl ?_
            obtain ⟨rfl, rfl⟩ := qv_pair h
            exact qv_retz rfl (Or.inl rfl) hR
        · replace h := qv_neg c33_1 h
          refine qv_swt (fun c33_2 => ?_) (fun c33_2 => ?_)
          · replace h := qv_pos c33_2 h
            refine qv_run 5 (σ := (285, [some (.float 1), some (.ref l1), some (.ref l2), some (.int l3)], [.int (l3 + 1), .float 1, .ref l1], H)) rfl ?_
            obtain ⟨v285, e285, h⟩ := qv_bind h
            refine qv_sld rfl e285 ?_
            refine qv_run 4 (σ := (290, [some (.float 1), some (.ref l1), some (.ref l2), some (.int l3)], [.int (l3 + 2), .float 1, .int v285, .ref l1], H)) rfl ?_
            obtain ⟨v290, e290, h⟩ := qv_bind h
            refine qv_sld rfl e290 ?_
            obtain ⟨g291, h⟩ := qv_guard h
            obtain ⟨v291, H291, e291, h⟩ := qv_bind2 h
            refine qv_callV [.int v285, .int v290] rfl rfl rfl (Nat.le_of_ble_eq_true rfl) g291 (th_X10_as (by omega) e291) (tl_X10_as e291) ?_
            refine qv_run 5 (σ := (299, [some (.float 1), some (.ref l1), some (.ref l2), some (.int l3)], [.int (l3 + 1), .float 1, .ref l2, .int v291], H291)) rfl ?_
            obtain ⟨v299, e299, h⟩ := qv_bind h
            refine qv_sld rfl e299 ?_
            refine qv_run 4 (σ := (304, [some (.float 1), some (.ref l1), some (.ref l2), some (.int l3)], [.int (l3 + 2), .float 1, .int v299, .ref l2, .int v291], H291)) rfl ?_
            obtain ⟨v304, e304, h⟩ := qv_bind h
            refine qv_sld rfl e304 ?_
            obtain ⟨g305, h⟩ := qv_guard h
            obtain ⟨v305, H305, e305, h⟩ := qv_bind2 h
            refine qv_callV [.int v299, .int v304] rfl rfl rfl (Nat.le_of_ble_eq_true rfl) g305 (th_X11_as (by omega) e305) (tl_X11_as e305) ?_
            refine qv_br (c := v291 = v305) (a := (1332, [some (.float 1), some (.ref l1), some (.ref l2), some (.int l3)], [], H305)) (b := (311, [some (.float 1), some (.ref l1), some (.ref l2), some (.int l3)], [], H305)) 1 rfl (fun c308 => ?_) (fun c308 => ?_)
            · replace h := qv_pos c308 h
              exact tb_L_law_1332 hd _ ih hR l1 l2 l3 H305 h
            · replace h := qv_neg c308 h
              refine qv_run 1 (σ := (312, [some (.float 1), some (.ref l1), some (.ref l2), some (.int l3)], [.int 0], H305)) rfl ?_
              obtain ⟨rfl, rfl⟩ := qv_pair h
              exact qv_retz rfl (Or.inl rfl) hR
          · replace h := qv_neg c33_2 h
            refine qv_swt (fun c33_3 => ?_) (fun c33_3 => ?_)
            · replace h := qv_pos c33_3 h
              refine qv_run 5 (σ := (318, [some (.float 1), some (.ref l1), some (.ref l2), some (.int l3)], [.int (l3 + 1), .float 1, .ref l1], H)) rfl ?_
              obtain ⟨v318, e318, h⟩ := qv_bind h
              refine qv_sld rfl e318 ?_
              refine qv_run 4 (σ := (323, [some (.float 1), some (.ref l1), some (.ref l2), some (.int l3)], [.int (l3 + 2), .float 1, .int v318, .ref l1], H)) rfl ?_
              obtain ⟨v323, e323, h⟩ := qv_bind h
              refine qv_sld rfl e323 ?_
              obtain ⟨g324, h⟩ := qv_guard h
              obtain ⟨v324, H324, e324, h⟩ := qv_bind2 h
              refine qv_callV [.int v318, .int v323] rfl rfl rfl (Nat.le_of_ble_eq_true rfl) g324 (th_X10_threadIs (by omega) e324) (tl_X10_threadIs e324) ?_
              refine qv_run 5 (σ := (332, [some (.float 1), some (.ref l1), some (.ref l2), some (.int l3)], [.int (l3 + 1), .float 1, .ref l2, .int v324], H324)) rfl ?_
              obtain ⟨v332, e332, h⟩ := qv_bind h
              refine qv_sld rfl e332 ?_
              refine qv_run 4 (σ := (337, [some (.float 1), some (.ref l1), some (.ref l2), some (.int l3)], [.int (l3 + 2), .float 1, .int v332, .ref l2, .int v324], H324)) rfl ?_
              obtain ⟨v337, e337, h⟩ := qv_bind h
              refine qv_sld rfl e337 ?_
              obtain ⟨g338, h⟩ := qv_guard h
              obtain ⟨v338, H338, e338, h⟩ := qv_bind2 h
              refine qv_callV [.int v332, .int v337] rfl rfl rfl (Nat.le_of_ble_eq_true rfl) g338 (th_X11_threadIs (by omega) e338) (tl_X11_threadIs e338) ?_
              refine qv_br (c := v324 = v338) (a := (1332, [some (.float 1), some (.ref l1), some (.ref l2), some (.int l3)], [], H338)) (b := (344, [some (.float 1), some (.ref l1), some (.ref l2), some (.int l3)], [], H338)) 1 rfl (fun c341 => ?_) (fun c341 => ?_)
              · replace h := qv_pos c341 h
                exact tb_L_law_1332 hd _ ih hR l1 l2 l3 H338 h
              · replace h := qv_neg c341 h
                refine qv_run 1 (σ := (345, [some (.float 1), some (.ref l1), some (.ref l2), some (.int l3)], [.int 0], H338)) rfl ?_
                obtain ⟨rfl, rfl⟩ := qv_pair h
                exact qv_retz rfl (Or.inl rfl) hR
            · replace h := qv_neg c33_3 h
              refine qv_swt (fun c33_4 => ?_) (fun c33_4 => ?_)
              · replace h := qv_pos c33_4 h
                refine qv_run 5 (σ := (351, [some (.float 1), some (.ref l1), some (.ref l2), some (.int l3)], [.int (l3 + 1), .float 1, .ref l1], H)) rfl ?_
                obtain ⟨v351, e351, h⟩ := qv_bind h
                refine qv_sld rfl e351 ?_
                obtain ⟨g352, h⟩ := qv_guard h
                obtain ⟨v352, H352, e352, h⟩ := qv_bind2 h
                refine qv_callV [.int v351] rfl rfl rfl (Nat.le_of_ble_eq_true rfl) g352 (th_X10_cut (by omega) e352) (tl_X10_cut e352) ?_
                refine qv_run 5 (σ := (360, [some (.float 1), some (.ref l1), some (.ref l2), some (.int l3)], [.int (l3 + 1), .float 1, .ref l2, .int v352], H352)) rfl ?_
                obtain ⟨v360, e360, h⟩ := qv_bind h
                refine qv_sld rfl e360 ?_
                obtain ⟨g361, h⟩ := qv_guard h
                obtain ⟨v361, H361, e361, h⟩ := qv_bind2 h
                refine qv_callV [.int v360] rfl rfl rfl (Nat.le_of_ble_eq_true rfl) g361 (th_X11_cut (by omega) e361) (tl_X11_cut e361) ?_
                refine qv_br (c := v352 = v361) (a := (1332, [some (.float 1), some (.ref l1), some (.ref l2), some (.int l3)], [], H361)) (b := (367, [some (.float 1), some (.ref l1), some (.ref l2), some (.int l3)], [], H361)) 1 rfl (fun c364 => ?_) (fun c364 => ?_)
                · replace h := qv_pos c364 h
                  exact tb_L_law_1332 hd _ ih hR l1 l2 l3 H361 h
                · replace h := qv_neg c364 h
                  refine qv_run 1 (σ := (368, [some (.float 1), some (.ref l1), some (.ref l2), some (.int l3)], [.int 0], H361)) rfl ?_
                  obtain ⟨rfl, rfl⟩ := qv_pair h
                  exact qv_retz rfl (Or.inl rfl) hR
              · replace h := qv_neg c33_4 h
                refine qv_swt (fun c33_5 => ?_) (fun c33_5 => ?_)
                · replace h := qv_pos c33_5 h
                  refine qv_run 5 (σ := (374, [some (.float 1), some (.ref l1), some (.ref l2), some (.int l3)], [.int (l3 + 1), .float 1, .ref l1], H)) rfl ?_
                  obtain ⟨v374, e374, h⟩ := qv_bind h
                  refine qv_sld rfl e374 ?_
                  refine qv_run 4 (σ := (379, [some (.float 1), some (.ref l1), some (.ref l2), some (.int l3)], [.int (l3 + 2), .float 1, .int v374, .ref l1], H)) rfl ?_
                  obtain ⟨v379, e379, h⟩ := qv_bind h
                  refine qv_sld rfl e379 ?_
                  obtain ⟨g380, h⟩ := qv_guard h
                  obtain ⟨v380, H380, e380, h⟩ := qv_bind2 h
                  refine qv_callV [.int v374, .int v379] rfl rfl rfl (Nat.le_of_ble_eq_true rfl) g380 (th_X10_wear (by omega) e380) (tl_X10_wear e380) ?_
                  refine qv_run 5 (σ := (388, [some (.float 1), some (.ref l1), some (.ref l2), some (.int l3)], [.int (l3 + 1), .float 1, .ref l2, .int v380], H380)) rfl ?_
                  obtain ⟨v388, e388, h⟩ := qv_bind h
                  refine qv_sld rfl e388 ?_
                  refine qv_run 4 (σ := (393, [some (.float 1), some (.ref l1), some (.ref l2), some (.int l3)], [.int (l3 + 2), .float 1, .int v388, .ref l2, .int v380], H380)) rfl ?_
                  obtain ⟨v393, e393, h⟩ := qv_bind h
                  refine qv_sld rfl e393 ?_
                  obtain ⟨g394, h⟩ := qv_guard h
                  obtain ⟨v394, H394, e394, h⟩ := qv_bind2 h
                  refine qv_callV [.int v388, .int v393] rfl rfl rfl (Nat.le_of_ble_eq_true rfl) g394 (th_X11_wear (by omega) e394) (tl_X11_wear e394) ?_
                  refine qv_br (c := v380 = v394) (a := (1332, [some (.float 1), some (.ref l1), some (.ref l2), some (.int l3)], [], H394)) (b := (400, [some (.float 1), some (.ref l1), some (.ref l2), some (.int l3)], [], H394)) 1 rfl (fun c397 => ?_) (fun c397 => ?_)
                  · replace h := qv_pos c397 h
                    exact tb_L_law_1332 hd _ ih hR l1 l2 l3 H394 h
                  · replace h := qv_neg c397 h
                    refine qv_run 1 (σ := (401, [some (.float 1), some (.ref l1), some (.ref l2), some (.int l3)], [.int 0], H394)) rfl ?_
                    obtain ⟨rfl, rfl⟩ := qv_pair h
                    exact qv_retz rfl (Or.inl rfl) hR
                · replace h := qv_neg c33_5 h
                  refine qv_swt (fun c33_6 => ?_) (fun c33_6 => ?_)
                  · replace h := qv_pos c33_6 h
                    refine qv_run 5 (σ := (407, [some (.float 1), some (.ref l1), some (.ref l2), some (.int l3)], [.int (l3 + 1), .float 1, .ref l1], H)) rfl ?_
                    obtain ⟨v407, e407, h⟩ := qv_bind h
                    refine qv_sld rfl e407 ?_
                    obtain ⟨g408, h⟩ := qv_guard h
                    obtain ⟨v408, H408, e408, h⟩ := qv_bind2 h
                    refine qv_callV [.int v407] rfl rfl rfl (Nat.le_of_ble_eq_true rfl) g408 (th_X10_twine (by omega) e408) (tl_X10_twine e408) ?_
                    refine qv_run 5 (σ := (416, [some (.float 1), some (.ref l1), some (.ref l2), some (.int l3)], [.int (l3 + 1), .float 1, .ref l2, .int v408], H408)) rfl ?_
                    obtain ⟨v416, e416, h⟩ := qv_bind h
                    refine qv_sld rfl e416 ?_
                    obtain ⟨g417, h⟩ := qv_guard h
                    obtain ⟨v417, H417, e417, h⟩ := qv_bind2 h
                    refine qv_callV [.int v416] rfl rfl rfl (Nat.le_of_ble_eq_true rfl) g417 (th_X11_twine (by omega) e417) (tl_X11_twine e417) ?_
                    refine qv_br (c := v408 = v417) (a := (1332, [some (.float 1), some (.ref l1), some (.ref l2), some (.int l3)], [], H417)) (b := (423, [some (.float 1), some (.ref l1), some (.ref l2), some (.int l3)], [], H417)) 1 rfl (fun c420 => ?_) (fun c420 => ?_)
                    · replace h := qv_pos c420 h
                      exact tb_L_law_1332 hd _ ih hR l1 l2 l3 H417 h
                    · replace h := qv_neg c420 h
                      refine qv_run 1 (σ := (424, [some (.float 1), some (.ref l1), some (.ref l2), some (.int l3)], [.int 0], H417)) rfl ?_
                      obtain ⟨rfl, rfl⟩ := qv_pair h
                      exact qv_retz rfl (Or.inl rfl) hR
                  · replace h := qv_neg c33_6 h
                    refine qv_swt (fun c33_7 => ?_) (fun c33_7 => ?_)
                    · replace h := qv_pos c33_7 h
                      refine qv_run 5 (σ := (430, [some (.float 1), some (.ref l1), some (.ref l2), some (.int l3)], [.int (l3 + 1), .float 1, .ref l1], H)) rfl ?_
                      obtain ⟨v430, e430, h⟩ := qv_bind h
                      refine qv_sld rfl e430 ?_
                      refine qv_run 4 (σ := (435, [some (.float 1), some (.ref l1), some (.ref l2), some (.int l3)], [.int (l3 + 2), .float 1, .int v430, .ref l1], H)) rfl ?_
                      obtain ⟨v435, e435, h⟩ := qv_bind h
                      refine qv_sld rfl e435 ?_
                      obtain ⟨g436, h⟩ := qv_guard h
                      obtain ⟨v436, H436, e436, h⟩ := qv_bind2 h
                      refine qv_callV [.int v430, .int v435] rfl rfl rfl (Nat.le_of_ble_eq_true rfl) g436 (th_X10_speed (by omega) e436) (tl_X10_speed e436) ?_
                      refine qv_run 5 (σ := (444, [some (.float 1), some (.ref l1), some (.ref l2), some (.int l3)], [.int (l3 + 1), .float 1, .ref l2, .int v436], H436)) rfl ?_
                      obtain ⟨v444, e444, h⟩ := qv_bind h
                      refine qv_sld rfl e444 ?_
                      refine qv_run 4 (σ := (449, [some (.float 1), some (.ref l1), some (.ref l2), some (.int l3)], [.int (l3 + 2), .float 1, .int v444, .ref l2, .int v436], H436)) rfl ?_
                      obtain ⟨v449, e449, h⟩ := qv_bind h
                      refine qv_sld rfl e449 ?_
                      obtain ⟨g450, h⟩ := qv_guard h
                      obtain ⟨v450, H450, e450, h⟩ := qv_bind2 h
                      refine qv_callV [.int v444, .int v449] rfl rfl rfl (Nat.le_of_ble_eq_true rfl) g450 (th_X11_speed (by omega) e450) (tl_X11_speed e450) ?_
                      refine qv_br (c := v436 = v450) (a := (1332, [some (.float 1), some (.ref l1), some (.ref l2), some (.int l3)], [], H450)) (b := (456, [some (.float 1), some (.ref l1), some (.ref l2), some (.int l3)], [], H450)) 1 rfl (fun c453 => ?_) (fun c453 => ?_)
                      · replace h := qv_pos c453 h
                        exact tb_L_law_1332 hd _ ih hR l1 l2 l3 H450 h
                      · replace h := qv_neg c453 h
                        refine qv_run 1 (σ := (457, [some (.float 1), some (.ref l1), some (.ref l2), some (.int l3)], [.int 0], H450)) rfl ?_
                        obtain ⟨rfl, rfl⟩ := qv_pair h
                        exact qv_retz rfl (Or.inl rfl) hR
                    · replace h := qv_neg c33_7 h
                      refine qv_swt (fun c33_8 => ?_) (fun c33_8 => ?_)
                      · replace h := qv_pos c33_8 h
                        refine qv_run 5 (σ := (463, [some (.float 1), some (.ref l1), some (.ref l2), some (.int l3)], [.int (l3 + 1), .float 1, .ref l1], H)) rfl ?_
                        obtain ⟨v463, e463, h⟩ := qv_bind h
                        refine qv_sld rfl e463 ?_
                        refine qv_run 7 (σ := (472, [some (.float 1), some (.ref l1), some (.ref l2), some (.int l3)], [.int (l3 + 2), .float 1, .long (jl_shl (Int32.toInt64 v463) 32), .ref l1], H)) rfl ?_
                        obtain ⟨v472, e472, h⟩ := qv_bind h
                        refine qv_sld rfl e472 ?_
                        refine qv_run 8 (σ := (483, [some (.float 1), some (.ref l1), some (.ref l2), some (.int l3)], [.int (l3 + 3), .float 1, .long ((jl_shl (Int32.toInt64 v463) 32) ||| ((Int32.toInt64 v472) &&& 4294967295)), .ref l1], H)) rfl ?_
                        obtain ⟨v483, e483, h⟩ := qv_bind h
                        refine qv_sld rfl e483 ?_
                        obtain ⟨g484, h⟩ := qv_guard h
                        obtain ⟨v484, H484, e484, h⟩ := qv_bind2 h
                        refine qv_callV [.long ((jl_shl (Int32.toInt64 v463) 32) ||| ((Int32.toInt64 v472) &&& 4294967295)), .int v483] rfl rfl rfl (Nat.le_of_ble_eq_true rfl) g484 (th_X10_feed (by omega) e484) (tl_X10_feed e484) ?_
                        refine qv_run 5 (σ := (492, [some (.float 1), some (.ref l1), some (.ref l2), some (.int l3)], [.int (l3 + 1), .float 1, .ref l2, .int v484], H484)) rfl ?_
                        obtain ⟨v492, e492, h⟩ := qv_bind h
                        refine qv_sld rfl e492 ?_
                        refine qv_run 7 (σ := (501, [some (.float 1), some (.ref l1), some (.ref l2), some (.int l3)], [.int (l3 + 2), .float 1, .long (jl_shl (Int32.toInt64 v492) 32), .ref l2, .int v484], H484)) rfl ?_
                        obtain ⟨v501, e501, h⟩ := qv_bind h
                        refine qv_sld rfl e501 ?_
                        refine qv_run 8 (σ := (512, [some (.float 1), some (.ref l1), some (.ref l2), some (.int l3)], [.int (l3 + 3), .float 1, .long ((jl_shl (Int32.toInt64 v492) 32) ||| ((Int32.toInt64 v501) &&& 4294967295)), .ref l2, .int v484], H484)) rfl ?_
                        obtain ⟨v512, e512, h⟩ := qv_bind h
                        refine qv_sld rfl e512 ?_
                        obtain ⟨g513, h⟩ := qv_guard h
                        obtain ⟨v513, H513, e513, h⟩ := qv_bind2 h
                        refine qv_callV [.long ((jl_shl (Int32.toInt64 v492) 32) ||| ((Int32.toInt64 v501) &&& 4294967295)), .int v512] rfl rfl rfl (Nat.le_of_ble_eq_true rfl) g513 (th_X11_feed (by omega) e513) (tl_X11_feed e513) ?_
                        refine qv_br (c := v484 = v513) (a := (1332, [some (.float 1), some (.ref l1), some (.ref l2), some (.int l3)], [], H513)) (b := (519, [some (.float 1), some (.ref l1), some (.ref l2), some (.int l3)], [], H513)) 1 rfl (fun c516 => ?_) (fun c516 => ?_)
                        · replace h := qv_pos c516 h
                          exact tb_L_law_1332 hd _ ih hR l1 l2 l3 H513 h
                        · replace h := qv_neg c516 h
                          refine qv_run 1 (σ := (520, [some (.float 1), some (.ref l1), some (.ref l2), some (.int l3)], [.int 0], H513)) rfl ?_
                          obtain ⟨rfl, rfl⟩ := qv_pair h
                          exact qv_retz rfl (Or.inl rfl) hR
                      · replace h := qv_neg c33_8 h
                        refine qv_swt (fun c33_9 => ?_) (fun c33_9 => ?_)
                        · replace h := qv_pos c33_9 h
                          refine qv_run 5 (σ := (526, [some (.float 1), some (.ref l1), some (.ref l2), some (.int l3)], [.int (l3 + 1), .float 1, .ref l1], H)) rfl ?_
                          obtain ⟨v526, e526, h⟩ := qv_bind h
                          refine qv_sld rfl e526 ?_
                          obtain ⟨g527, h⟩ := qv_guard h
                          obtain ⟨v527, H527, e527, h⟩ := qv_bind2 h
                          refine qv_callV [.int v526] rfl rfl rfl (Nat.le_of_ble_eq_true rfl) g527 (th_X10_text (by omega) e527) (tl_X10_text e527) ?_
                          refine qv_run 5 (σ := (535, [some (.float 1), some (.ref l1), some (.ref l2), some (.int l3)], [.int (l3 + 1), .float 1, .ref l2, .int v527], H527)) rfl ?_
                          obtain ⟨v535, e535, h⟩ := qv_bind h
                          refine qv_sld rfl e535 ?_
                          obtain ⟨g536, h⟩ := qv_guard h
                          obtain ⟨v536, H536, e536, h⟩ := qv_bind2 h
                          refine qv_callV [.int v535] rfl rfl rfl (Nat.le_of_ble_eq_true rfl) g536 (th_X11_text (by omega) e536) (tl_X11_text e536) ?_
                          refine qv_br (c := v527 = v536) (a := (1332, [some (.float 1), some (.ref l1), some (.ref l2), some (.int l3)], [], H536)) (b := (542, [some (.float 1), some (.ref l1), some (.ref l2), some (.int l3)], [], H536)) 1 rfl (fun c539 => ?_) (fun c539 => ?_)
                          · replace h := qv_pos c539 h
                            exact tb_L_law_1332 hd _ ih hR l1 l2 l3 H536 h
                          · replace h := qv_neg c539 h
                            refine qv_run 1 (σ := (543, [some (.float 1), some (.ref l1), some (.ref l2), some (.int l3)], [.int 0], H536)) rfl ?_
                            obtain ⟨rfl, rfl⟩ := qv_pair h
                            exact qv_retz rfl (Or.inl rfl) hR
                        · replace h := qv_neg c33_9 h
                          refine qv_swt (fun c33_10 => ?_) (fun c33_10 => ?_)
                          · replace h := qv_pos c33_10 h
                            refine qv_run 5 (σ := (549, [some (.float 1), some (.ref l1), some (.ref l2), some (.int l3)], [.int (l3 + 1), .float 1, .ref l1], H)) rfl ?_
                            obtain ⟨v549, e549, h⟩ := qv_bind h
                            refine qv_sld rfl e549 ?_
                            obtain ⟨g550, h⟩ := qv_guard h
                            obtain ⟨v550, H550, e550, h⟩ := qv_bind2 h
                            refine qv_callV [.int v549] rfl rfl rfl (Nat.le_of_ble_eq_true rfl) g550 (th_X10_untell (by omega) e550) (tl_X10_untell e550) ?_
                            refine qv_run 5 (σ := (558, [some (.float 1), some (.ref l1), some (.ref l2), some (.int l3)], [.int (l3 + 1), .float 1, .ref l2, .int v550], H550)) rfl ?_
                            obtain ⟨v558, e558, h⟩ := qv_bind h
                            refine qv_sld rfl e558 ?_
                            obtain ⟨g559, h⟩ := qv_guard h
                            obtain ⟨v559, H559, e559, h⟩ := qv_bind2 h
                            refine qv_callV [.int v558] rfl rfl rfl (Nat.le_of_ble_eq_true rfl) g559 (th_X11_untell (by omega) e559) (tl_X11_untell e559) ?_
                            refine qv_br (c := v550 = v559) (a := (1332, [some (.float 1), some (.ref l1), some (.ref l2), some (.int l3)], [], H559)) (b := (565, [some (.float 1), some (.ref l1), some (.ref l2), some (.int l3)], [], H559)) 1 rfl (fun c562 => ?_) (fun c562 => ?_)
                            · replace h := qv_pos c562 h
                              exact tb_L_law_1332 hd _ ih hR l1 l2 l3 H559 h
                            · replace h := qv_neg c562 h
                              refine qv_run 1 (σ := (566, [some (.float 1), some (.ref l1), some (.ref l2), some (.int l3)], [.int 0], H559)) rfl ?_
                              obtain ⟨rfl, rfl⟩ := qv_pair h
                              exact qv_retz rfl (Or.inl rfl) hR
                          · replace h := qv_neg c33_10 h
                            refine qv_swt (fun c33_11 => ?_) (fun c33_11 => ?_)
                            · replace h := qv_pos c33_11 h
                              refine qv_run 5 (σ := (572, [some (.float 1), some (.ref l1), some (.ref l2), some (.int l3)], [.int (l3 + 1), .float 1, .ref l1], H)) rfl ?_
                              obtain ⟨v572, e572, h⟩ := qv_bind h
                              refine qv_sld rfl e572 ?_
                              refine qv_run 4 (σ := (577, [some (.float 1), some (.ref l1), some (.ref l2), some (.int l3)], [.int (l3 + 2), .float 1, .int v572, .ref l1], H)) rfl ?_
                              obtain ⟨v577, e577, h⟩ := qv_bind h
                              refine qv_sld rfl e577 ?_
                              obtain ⟨g578, h⟩ := qv_guard h
                              obtain ⟨v578, H578, e578, h⟩ := qv_bind2 h
                              refine qv_callV [.int v572, .int v577] rfl rfl rfl (Nat.le_of_ble_eq_true rfl) g578 (th_X10_run (by omega) e578) (tl_X10_run e578) ?_
                              refine qv_run 5 (σ := (586, [some (.float 1), some (.ref l1), some (.ref l2), some (.int l3)], [.int (l3 + 1), .float 1, .ref l2, .int v578], H578)) rfl ?_
                              obtain ⟨v586, e586, h⟩ := qv_bind h
                              refine qv_sld rfl e586 ?_
                              refine qv_run 4 (σ := (591, [some (.float 1), some (.ref l1), some (.ref l2), some (.int l3)], [.int (l3 + 2), .float 1, .int v586, .ref l2, .int v578], H578)) rfl ?_
                              obtain ⟨v591, e591, h⟩ := qv_bind h
                              refine qv_sld rfl e591 ?_
                              obtain ⟨g592, h⟩ := qv_guard h
                              obtain ⟨v592, H592, e592, h⟩ := qv_bind2 h
                              refine qv_callV [.int v586, .int v591] rfl rfl rfl (Nat.le_of_ble_eq_true rfl) g592 (th_X11_run (by omega) e592) (tl_X11_run e592) ?_
                              refine qv_br (c := v578 = v592) (a := (1332, [some (.float 1), some (.ref l1), some (.ref l2), some (.int l3)], [], H592)) (b := (598, [some (.float 1), some (.ref l1), some (.ref l2), some (.int l3)], [], H592)) 1 rfl (fun c595 => ?_) (fun c595 => ?_)
                              · replace h := qv_pos c595 h
                                exact tb_L_law_1332 hd _ ih hR l1 l2 l3 H592 h
                              · replace h := qv_neg c595 h
                                refine qv_run 1 (σ := (599, [some (.float 1), some (.ref l1), some (.ref l2), some (.int l3)], [.int 0], H592)) rfl ?_
                                obtain ⟨rfl, rfl⟩ := qv_pair h
                                exact qv_retz rfl (Or.inl rfl) hR
                            · replace h := qv_neg c33_11 h
                              refine qv_swt (fun c33_12 => ?_) (fun c33_12 => ?_)
                              · replace h := qv_pos c33_12 h
                                refine qv_run 5 (σ := (605, [some (.float 1), some (.ref l1), some (.ref l2), some (.int l3)], [.int (l3 + 1), .float 1, .ref l1], H)) rfl ?_
                                obtain ⟨v605, e605, h⟩ := qv_bind h
                                refine qv_sld rfl e605 ?_
                                obtain ⟨g606, h⟩ := qv_guard h
                                obtain ⟨v606, H606, e606, h⟩ := qv_bind2 h
                                refine qv_callV [.int v605] rfl rfl rfl (Nat.le_of_ble_eq_true rfl) g606 (th_X10_odd (by omega) e606) (tl_X10_odd e606) ?_
                                refine qv_run 5 (σ := (614, [some (.float 1), some (.ref l1), some (.ref l2), some (.int l3)], [.int (l3 + 1), .float 1, .ref l2, .int v606], H606)) rfl ?_
                                obtain ⟨v614, e614, h⟩ := qv_bind h
                                refine qv_sld rfl e614 ?_
                                obtain ⟨g615, h⟩ := qv_guard h
                                obtain ⟨v615, H615, e615, h⟩ := qv_bind2 h
                                refine qv_callV [.int v614] rfl rfl rfl (Nat.le_of_ble_eq_true rfl) g615 (th_X11_odd (by omega) e615) (tl_X11_odd e615) ?_
                                refine qv_br (c := v606 = v615) (a := (1332, [some (.float 1), some (.ref l1), some (.ref l2), some (.int l3)], [], H615)) (b := (621, [some (.float 1), some (.ref l1), some (.ref l2), some (.int l3)], [], H615)) 1 rfl (fun c618 => ?_) (fun c618 => ?_)
                                · replace h := qv_pos c618 h
                                  exact tb_L_law_1332 hd _ ih hR l1 l2 l3 H615 h
                                · replace h := qv_neg c618 h
                                  refine qv_run 1 (σ := (622, [some (.float 1), some (.ref l1), some (.ref l2), some (.int l3)], [.int 0], H615)) rfl ?_
                                  obtain ⟨rfl, rfl⟩ := qv_pair h
                                  exact qv_retz rfl (Or.inl rfl) hR
                              · replace h := qv_neg c33_12 h
                                refine qv_swt (fun c33_13 => ?_) (fun c33_13 => ?_)
                                · replace h := qv_pos c33_13 h
                                  refine qv_run 5 (σ := (628, [some (.float 1), some (.ref l1), some (.ref l2), some (.int l3)], [.int (l3 + 1), .float 1, .ref l1], H)) rfl ?_
                                  obtain ⟨v628, e628, h⟩ := qv_bind h
                                  refine qv_sld rfl e628 ?_
                                  obtain ⟨g629, h⟩ := qv_guard h
                                  obtain ⟨v629, H629, e629, h⟩ := qv_bind2 h
                                  refine qv_callV [.int v628] rfl rfl rfl (Nat.le_of_ble_eq_true rfl) g629 (th_X10_cuts (by omega) e629) (tl_X10_cuts e629) ?_
                                  refine qv_run 5 (σ := (637, [some (.float 1), some (.ref l1), some (.ref l2), some (.int l3)], [.int (l3 + 1), .float 1, .ref l2, .int v629], H629)) rfl ?_
                                  obtain ⟨v637, e637, h⟩ := qv_bind h
                                  refine qv_sld rfl e637 ?_
                                  obtain ⟨g638, h⟩ := qv_guard h
                                  obtain ⟨v638, H638, e638, h⟩ := qv_bind2 h
                                  refine qv_callV [.int v637] rfl rfl rfl (Nat.le_of_ble_eq_true rfl) g638 (th_X11_cuts (by omega) e638) (tl_X11_cuts e638) ?_
                                  refine qv_br (c := v629 = v638) (a := (1332, [some (.float 1), some (.ref l1), some (.ref l2), some (.int l3)], [], H638)) (b := (644, [some (.float 1), some (.ref l1), some (.ref l2), some (.int l3)], [], H638)) 1 rfl (fun c641 => ?_) (fun c641 => ?_)
                                  · replace h := qv_pos c641 h
                                    exact tb_L_law_1332 hd _ ih hR l1 l2 l3 H638 h
                                  · replace h := qv_neg c641 h
                                    refine qv_run 1 (σ := (645, [some (.float 1), some (.ref l1), some (.ref l2), some (.int l3)], [.int 0], H638)) rfl ?_
                                    obtain ⟨rfl, rfl⟩ := qv_pair h
                                    exact qv_retz rfl (Or.inl rfl) hR
                                · replace h := qv_neg c33_13 h
                                  refine qv_swt (fun c33_14 => ?_) (fun c33_14 => ?_)
                                  · replace h := qv_pos c33_14 h
                                    refine qv_run 5 (σ := (651, [some (.float 1), some (.ref l1), some (.ref l2), some (.int l3)], [.int (l3 + 1), .float 1, .ref l1], H)) rfl ?_
                                    obtain ⟨v651, e651, h⟩ := qv_bind h
                                    refine qv_sld rfl e651 ?_
                                    obtain ⟨g652, h⟩ := qv_guard h
                                    obtain ⟨v652, H652, e652, h⟩ := qv_bind2 h
                                    refine qv_callV [.int v651] rfl rfl rfl (Nat.le_of_ble_eq_true rfl) g652 (th_X10_way (by omega) e652) (tl_X10_way e652) ?_
                                    refine qv_run 5 (σ := (660, [some (.float 1), some (.ref l1), some (.ref l2), some (.int l3)], [.int (l3 + 1), .float 1, .ref l2, .int v652], H652)) rfl ?_
                                    obtain ⟨v660, e660, h⟩ := qv_bind h
                                    refine qv_sld rfl e660 ?_
                                    obtain ⟨g661, h⟩ := qv_guard h
                                    obtain ⟨v661, H661, e661, h⟩ := qv_bind2 h
                                    refine qv_callV [.int v660] rfl rfl rfl (Nat.le_of_ble_eq_true rfl) g661 (th_X11_way (by omega) e661) (tl_X11_way e661) ?_
                                    refine qv_br (c := v652 = v661) (a := (1332, [some (.float 1), some (.ref l1), some (.ref l2), some (.int l3)], [], H661)) (b := (667, [some (.float 1), some (.ref l1), some (.ref l2), some (.int l3)], [], H661)) 1 rfl (fun c664 => ?_) (fun c664 => ?_)
                                    · replace h := qv_pos c664 h
                                      exact tb_L_law_1332 hd _ ih hR l1 l2 l3 H661 h
                                    · replace h := qv_neg c664 h
                                      refine qv_run 1 (σ := (668, [some (.float 1), some (.ref l1), some (.ref l2), some (.int l3)], [.int 0], H661)) rfl ?_
                                      obtain ⟨rfl, rfl⟩ := qv_pair h
                                      exact qv_retz rfl (Or.inl rfl) hR
                                  · replace h := qv_neg c33_14 h
                                    refine qv_swt (fun c33_15 => ?_) (fun c33_15 => ?_)
                                    · replace h := qv_pos c33_15 h
                                      refine qv_run 5 (σ := (674, [some (.float 1), some (.ref l1), some (.ref l2), some (.int l3)], [.int (l3 + 1), .float 1, .ref l1], H)) rfl ?_
                                      obtain ⟨v674, e674, h⟩ := qv_bind h
                                      refine qv_sld rfl e674 ?_
                                      obtain ⟨g675, h⟩ := qv_guard h
                                      obtain ⟨v675, H675, e675, h⟩ := qv_bind2 h
                                      refine qv_callV [.int v674] rfl rfl rfl (Nat.le_of_ble_eq_true rfl) g675 (th_X10_hole (by omega) e675) (tl_X10_hole e675) ?_
                                      refine qv_run 5 (σ := (683, [some (.float 1), some (.ref l1), some (.ref l2), some (.int l3)], [.int (l3 + 1), .float 1, .ref l2, .int v675], H675)) rfl ?_
                                      obtain ⟨v683, e683, h⟩ := qv_bind h
                                      refine qv_sld rfl e683 ?_
                                      obtain ⟨g684, h⟩ := qv_guard h
                                      obtain ⟨v684, H684, e684, h⟩ := qv_bind2 h
                                      refine qv_callV [.int v683] rfl rfl rfl (Nat.le_of_ble_eq_true rfl) g684 (th_X11_hole (by omega) e684) (tl_X11_hole e684) ?_
                                      refine qv_br (c := v675 = v684) (a := (1332, [some (.float 1), some (.ref l1), some (.ref l2), some (.int l3)], [], H684)) (b := (690, [some (.float 1), some (.ref l1), some (.ref l2), some (.int l3)], [], H684)) 1 rfl (fun c687 => ?_) (fun c687 => ?_)
                                      · replace h := qv_pos c687 h
                                        exact tb_L_law_1332 hd _ ih hR l1 l2 l3 H684 h
                                      · replace h := qv_neg c687 h
                                        refine qv_run 1 (σ := (691, [some (.float 1), some (.ref l1), some (.ref l2), some (.int l3)], [.int 0], H684)) rfl ?_
                                        obtain ⟨rfl, rfl⟩ := qv_pair h
                                        exact qv_retz rfl (Or.inl rfl) hR
                                    · replace h := qv_neg c33_15 h
                                      refine qv_swt (fun c33_16 => ?_) (fun c33_16 => ?_)
                                      · replace h := qv_pos c33_16 h
                                        refine qv_run 1 (σ := (693, [some (.float 1), some (.ref l1), some (.ref l2), some (.int l3)], [.ref l1], H)) rfl ?_
                                        obtain ⟨g693, h⟩ := qv_guard h
                                        obtain ⟨v693, e693, h⟩ := qv_bind h
                                        refine qv_callV [] rfl rfl rfl (Nat.le_of_ble_eq_true rfl) g693 (th_X10_open (by omega) e693) rfl ?_
                                        refine qv_run 1 (σ := (697, [some (.float 1), some (.ref l1), some (.ref l2), some (.int l3)], [.ref l2, .int v693], H)) rfl ?_
                                        obtain ⟨g697, h⟩ := qv_guard h
                                        obtain ⟨v697, e697, h⟩ := qv_bind h
                                        refine qv_callV [] rfl rfl rfl (Nat.le_of_ble_eq_true rfl) g697 (th_X11_open (by omega) e697) rfl ?_
                                        refine qv_br (c := v693 = v697) (a := (1332, [some (.float 1), some (.ref l1), some (.ref l2), some (.int l3)], [], H)) (b := (703, [some (.float 1), some (.ref l1), some (.ref l2), some (.int l3)], [], H)) 1 rfl (fun c700 => ?_) (fun c700 => ?_)
                                        · replace h := qv_pos c700 h
                                          exact tb_L_law_1332 hd _ ih hR l1 l2 l3 H h
                                        · replace h := qv_neg c700 h
                                          refine qv_run 1 (σ := (704, [some (.float 1), some (.ref l1), some (.ref l2), some (.int l3)], [.int 0], H)) rfl ?_
                                          obtain ⟨rfl, rfl⟩ := qv_pair h
                                          exact qv_retz rfl (Or.inl rfl) hR
                                      · replace h := qv_neg c33_16 h
                                        refine qv_swt (fun c33_17 => ?_) (fun c33_17 => ?_)
                                        · replace h := qv_pos c33_17 h
                                          refine qv_run 5 (σ := (710, [some (.float 1), some (.ref l1), some (.ref l2), some (.int l3)], [.int (l3 + 1), .float 1, .ref l1], H)) rfl ?_
                                          obtain ⟨v710, e710, h⟩ := qv_bind h
                                          refine qv_sld rfl e710 ?_
                                          obtain ⟨g711, h⟩ := qv_guard h
                                          obtain ⟨v711, H711, e711, h⟩ := qv_bind2 h
                                          refine qv_callV [.int v710] rfl rfl rfl (Nat.le_of_ble_eq_true rfl) g711 (th_X10_minutes (by omega) e711) (tl_X10_minutes e711) ?_
                                          refine qv_run 5 (σ := (719, [some (.float 1), some (.ref l1), some (.ref l2), some (.int l3)], [.int (l3 + 1), .float 1, .ref l2, .int v711], H711)) rfl ?_
                                          obtain ⟨v719, e719, h⟩ := qv_bind h
                                          refine qv_sld rfl e719 ?_
                                          obtain ⟨g720, h⟩ := qv_guard h
                                          obtain ⟨v720, H720, e720, h⟩ := qv_bind2 h
                                          refine qv_callV [.int v719] rfl rfl rfl (Nat.le_of_ble_eq_true rfl) g720 (th_X11_minutes (by omega) e720) (tl_X11_minutes e720) ?_
                                          refine qv_br (c := v711 = v720) (a := (1332, [some (.float 1), some (.ref l1), some (.ref l2), some (.int l3)], [], H720)) (b := (726, [some (.float 1), some (.ref l1), some (.ref l2), some (.int l3)], [], H720)) 1 rfl (fun c723 => ?_) (fun c723 => ?_)
                                          · replace h := qv_pos c723 h
                                            exact tb_L_law_1332 hd _ ih hR l1 l2 l3 H720 h
                                          · replace h := qv_neg c723 h
                                            refine qv_run 1 (σ := (727, [some (.float 1), some (.ref l1), some (.ref l2), some (.int l3)], [.int 0], H720)) rfl ?_
                                            obtain ⟨rfl, rfl⟩ := qv_pair h
                                            exact qv_retz rfl (Or.inl rfl) hR
                                        · replace h := qv_neg c33_17 h
                                          refine qv_swt (fun c33_18 => ?_) (fun c33_18 => ?_)
                                          · replace h := qv_pos c33_18 h
                                            refine qv_run 5 (σ := (733, [some (.float 1), some (.ref l1), some (.ref l2), some (.int l3)], [.int (l3 + 1), .float 1, .ref l1], H)) rfl ?_
                                            obtain ⟨v733, e733, h⟩ := qv_bind h
                                            refine qv_sld rfl e733 ?_
                                            obtain ⟨g734, h⟩ := qv_guard h
                                            obtain ⟨v734, H734, e734, h⟩ := qv_bind2 h
                                            refine qv_callV [.int v733] rfl rfl rfl (Nat.le_of_ble_eq_true rfl) g734 (th_X10_days (by omega) e734) (tl_X10_days e734) ?_
                                            refine qv_run 5 (σ := (742, [some (.float 1), some (.ref l1), some (.ref l2), some (.int l3)], [.int (l3 + 1), .float 1, .ref l2, .int v734], H734)) rfl ?_
                                            obtain ⟨v742, e742, h⟩ := qv_bind h
                                            refine qv_sld rfl e742 ?_
                                            obtain ⟨g743, h⟩ := qv_guard h
                                            obtain ⟨v743, H743, e743, h⟩ := qv_bind2 h
                                            refine qv_callV [.int v742] rfl rfl rfl (Nat.le_of_ble_eq_true rfl) g743 (th_X11_days (by omega) e743) (tl_X11_days e743) ?_
                                            refine qv_br (c := v734 = v743) (a := (1332, [some (.float 1), some (.ref l1), some (.ref l2), some (.int l3)], [], H743)) (b := (749, [some (.float 1), some (.ref l1), some (.ref l2), some (.int l3)], [], H743)) 1 rfl (fun c746 => ?_) (fun c746 => ?_)
                                            · replace h := qv_pos c746 h
                                              exact tb_L_law_1332 hd _ ih hR l1 l2 l3 H743 h
                                            · replace h := qv_neg c746 h
                                              refine qv_run 1 (σ := (750, [some (.float 1), some (.ref l1), some (.ref l2), some (.int l3)], [.int 0], H743)) rfl ?_
                                              obtain ⟨rfl, rfl⟩ := qv_pair h
                                              exact qv_retz rfl (Or.inl rfl) hR
                                          · replace h := qv_neg c33_18 h
                                            refine qv_swt (fun c33_19 => ?_) (fun c33_19 => ?_)
                                            · replace h := qv_pos c33_19 h
                                              refine qv_run 5 (σ := (756, [some (.float 1), some (.ref l1), some (.ref l2), some (.int l3)], [.int (l3 + 1), .float 1, .ref l1], H)) rfl ?_
                                              obtain ⟨v756, e756, h⟩ := qv_bind h
                                              refine qv_sld rfl e756 ?_
                                              obtain ⟨g757, h⟩ := qv_guard h
                                              obtain ⟨v757, H757, e757, h⟩ := qv_bind2 h
                                              refine qv_callV [.int v756] rfl rfl rfl (Nat.le_of_ble_eq_true rfl) g757 (th_X10_draws (by omega) e757) (tl_X10_draws e757) ?_
                                              refine qv_run 5 (σ := (765, [some (.float 1), some (.ref l1), some (.ref l2), some (.int l3)], [.int (l3 + 1), .float 1, .ref l2, .int v757], H757)) rfl ?_
                                              obtain ⟨v765, e765, h⟩ := qv_bind h
                                              refine qv_sld rfl e765 ?_
                                              obtain ⟨g766, h⟩ := qv_guard h
                                              obtain ⟨v766, H766, e766, h⟩ := qv_bind2 h
                                              refine qv_callV [.int v765] rfl rfl rfl (Nat.le_of_ble_eq_true rfl) g766 (th_X11_draws (by omega) e766) (tl_X11_draws e766) ?_
                                              refine qv_br (c := v757 = v766) (a := (1332, [some (.float 1), some (.ref l1), some (.ref l2), some (.int l3)], [], H766)) (b := (772, [some (.float 1), some (.ref l1), some (.ref l2), some (.int l3)], [], H766)) 1 rfl (fun c769 => ?_) (fun c769 => ?_)
                                              · replace h := qv_pos c769 h
                                                exact tb_L_law_1332 hd _ ih hR l1 l2 l3 H766 h
                                              · replace h := qv_neg c769 h
                                                refine qv_run 1 (σ := (773, [some (.float 1), some (.ref l1), some (.ref l2), some (.int l3)], [.int 0], H766)) rfl ?_
                                                obtain ⟨rfl, rfl⟩ := qv_pair h
                                                exact qv_retz rfl (Or.inl rfl) hR
                                            · replace h := qv_neg c33_19 h
                                              refine qv_swt (fun c33_20 => ?_) (fun c33_20 => ?_)
                                              · replace h := qv_pos c33_20 h
                                                refine qv_run 5 (σ := (779, [some (.float 1), some (.ref l1), some (.ref l2), some (.int l3)], [.int (l3 + 1), .float 1, .ref l1], H)) rfl ?_
                                                obtain ⟨v779, e779, h⟩ := qv_bind h
                                                refine qv_sld rfl e779 ?_
                                                obtain ⟨g780, h⟩ := qv_guard h
                                                obtain ⟨v780, H780, e780, h⟩ := qv_bind2 h
                                                refine qv_callV [.int v779] rfl rfl rfl (Nat.le_of_ble_eq_true rfl) g780 (th_X10_seed (by omega) e780) (tl_X10_seed e780) ?_
                                                refine qv_run 5 (σ := (788, [some (.float 1), some (.ref l1), some (.ref l2), some (.int l3)], [.int (l3 + 1), .float 1, .ref l2, .int v780], H780)) rfl ?_
                                                obtain ⟨v788, e788, h⟩ := qv_bind h
                                                refine qv_sld rfl e788 ?_
                                                obtain ⟨g789, h⟩ := qv_guard h
                                                obtain ⟨v789, H789, e789, h⟩ := qv_bind2 h
                                                refine qv_callV [.int v788] rfl rfl rfl (Nat.le_of_ble_eq_true rfl) g789 (th_X11_seed (by omega) e789) (tl_X11_seed e789) ?_
                                                refine qv_br (c := v780 = v789) (a := (1332, [some (.float 1), some (.ref l1), some (.ref l2), some (.int l3)], [], H789)) (b := (795, [some (.float 1), some (.ref l1), some (.ref l2), some (.int l3)], [], H789)) 1 rfl (fun c792 => ?_) (fun c792 => ?_)
                                                · replace h := qv_pos c792 h
                                                  exact tb_L_law_1332 hd _ ih hR l1 l2 l3 H789 h
                                                · replace h := qv_neg c792 h
                                                  refine qv_run 1 (σ := (796, [some (.float 1), some (.ref l1), some (.ref l2), some (.int l3)], [.int 0], H789)) rfl ?_
                                                  obtain ⟨rfl, rfl⟩ := qv_pair h
                                                  exact qv_retz rfl (Or.inl rfl) hR
                                              · replace h := qv_neg c33_20 h
                                                refine qv_swt (fun c33_21 => ?_) (fun c33_21 => ?_)
                                                · replace h := qv_pos c33_21 h
                                                  refine qv_run 5 (σ := (802, [some (.float 1), some (.ref l1), some (.ref l2), some (.int l3)], [.int (l3 + 1), .float 1, .ref l1], H)) rfl ?_
                                                  obtain ⟨v802, e802, h⟩ := qv_bind h
                                                  refine qv_sld rfl e802 ?_
                                                  refine qv_run 4 (σ := (807, [some (.float 1), some (.ref l1), some (.ref l2), some (.int l3)], [.int (l3 + 2), .float 1, .int v802, .ref l1], H)) rfl ?_
                                                  obtain ⟨v807, e807, h⟩ := qv_bind h
                                                  refine qv_sld rfl e807 ?_
                                                  refine qv_run 4 (σ := (812, [some (.float 1), some (.ref l1), some (.ref l2), some (.int l3)], [.int (l3 + 3), .float 1, .int v807, .int v802, .ref l1], H)) rfl ?_
                                                  obtain ⟨v812, e812, h⟩ := qv_bind h
                                                  refine qv_sld rfl e812 ?_
                                                  obtain ⟨g813, h⟩ := qv_guard h
                                                  obtain ⟨v813, H813, e813, h⟩ := qv_bind2 h
                                                  refine qv_callV [.int v802, .int v807, .int v812] rfl rfl rfl (Nat.le_of_ble_eq_true rfl) g813 (th_X10_then (by omega) e813) (tl_X10_then e813) ?_
                                                  refine qv_run 5 (σ := (821, [some (.float 1), some (.ref l1), some (.ref l2), some (.int l3)], [.int (l3 + 1), .float 1, .ref l2, .int v813], H813)) rfl ?_
                                                  obtain ⟨v821, e821, h⟩ := qv_bind h
                                                  refine qv_sld rfl e821 ?_
                                                  refine qv_run 4 (σ := (826, [some (.float 1), some (.ref l1), some (.ref l2), some (.int l3)], [.int (l3 + 2), .float 1, .int v821, .ref l2, .int v813], H813)) rfl ?_
                                                  obtain ⟨v826, e826, h⟩ := qv_bind h
                                                  refine qv_sld rfl e826 ?_
                                                  refine qv_run 4 (σ := (831, [some (.float 1), some (.ref l1), some (.ref l2), some (.int l3)], [.int (l3 + 3), .float 1, .int v826, .int v821, .ref l2, .int v813], H813)) rfl ?_
                                                  obtain ⟨v831, e831, h⟩ := qv_bind h
                                                  refine qv_sld rfl e831 ?_
                                                  obtain ⟨g832, h⟩ := qv_guard h
                                                  obtain ⟨v832, H832, e832, h⟩ := qv_bind2 h
                                                  refine qv_callV [.int v821, .int v826, .int v831] rfl rfl rfl (Nat.le_of_ble_eq_true rfl) g832 (th_X11_then (by omega) e832) (tl_X11_then e832) ?_
                                                  refine qv_br (c := v813 = v832) (a := (1332, [some (.float 1), some (.ref l1), some (.ref l2), some (.int l3)], [], H832)) (b := (838, [some (.float 1), some (.ref l1), some (.ref l2), some (.int l3)], [], H832)) 1 rfl (fun c835 => ?_) (fun c835 => ?_)
                                                  · replace h := qv_pos c835 h
                                                    exact tb_L_law_1332 hd _ ih hR l1 l2 l3 H832 h
                                                  · replace h := qv_neg c835 h
                                                    refine qv_run 1 (σ := (839, [some (.float 1), some (.ref l1), some (.ref l2), some (.int l3)], [.int 0], H832)) rfl ?_
                                                    obtain ⟨rfl, rfl⟩ := qv_pair h
                                                    exact qv_retz rfl (Or.inl rfl) hR
                                                · replace h := qv_neg c33_21 h
                                                  refine qv_swt (fun c33_22 => ?_) (fun c33_22 => ?_)
                                                  · replace h := qv_pos c33_22 h
                                                    refine qv_run 5 (σ := (845, [some (.float 1), some (.ref l1), some (.ref l2), some (.int l3)], [.int (l3 + 1), .float 1, .ref l1], H)) rfl ?_
                                                    obtain ⟨v845, e845, h⟩ := qv_bind h
                                                    refine qv_sld rfl e845 ?_
                                                    refine qv_run 4 (σ := (850, [some (.float 1), some (.ref l1), some (.ref l2), some (.int l3)], [.int (l3 + 2), .float 1, .int v845, .ref l1], H)) rfl ?_
                                                    obtain ⟨v850, e850, h⟩ := qv_bind h
                                                    refine qv_sld rfl e850 ?_
                                                    obtain ⟨g851, h⟩ := qv_guard h
                                                    obtain ⟨v851, H851, e851, h⟩ := qv_bind2 h
                                                    refine qv_callV [.int v845, .int v850] rfl rfl rfl (Nat.le_of_ble_eq_true rfl) g851 (th_X10_goes (by omega) e851) (tl_X10_goes e851) ?_
                                                    refine qv_run 5 (σ := (859, [some (.float 1), some (.ref l1), some (.ref l2), some (.int l3)], [.int (l3 + 1), .float 1, .ref l2, .int v851], H851)) rfl ?_
                                                    obtain ⟨v859, e859, h⟩ := qv_bind h
                                                    refine qv_sld rfl e859 ?_
                                                    refine qv_run 4 (σ := (864, [some (.float 1), some (.ref l1), some (.ref l2), some (.int l3)], [.int (l3 + 2), .float 1, .int v859, .ref l2, .int v851], H851)) rfl ?_
                                                    obtain ⟨v864, e864, h⟩ := qv_bind h
                                                    refine qv_sld rfl e864 ?_
                                                    obtain ⟨g865, h⟩ := qv_guard h
                                                    obtain ⟨v865, H865, e865, h⟩ := qv_bind2 h
                                                    refine qv_callV [.int v859, .int v864] rfl rfl rfl (Nat.le_of_ble_eq_true rfl) g865 (th_X11_goes (by omega) e865) (tl_X11_goes e865) ?_
                                                    refine qv_br (c := v851 = v865) (a := (1332, [some (.float 1), some (.ref l1), some (.ref l2), some (.int l3)], [], H865)) (b := (871, [some (.float 1), some (.ref l1), some (.ref l2), some (.int l3)], [], H865)) 1 rfl (fun c868 => ?_) (fun c868 => ?_)
                                                    · replace h := qv_pos c868 h
                                                      exact tb_L_law_1332 hd _ ih hR l1 l2 l3 H865 h
                                                    · replace h := qv_neg c868 h
                                                      refine qv_run 1 (σ := (872, [some (.float 1), some (.ref l1), some (.ref l2), some (.int l3)], [.int 0], H865)) rfl ?_
                                                      obtain ⟨rfl, rfl⟩ := qv_pair h
                                                      exact qv_retz rfl (Or.inl rfl) hR
                                                  · replace h := qv_neg c33_22 h
                                                    refine qv_swt (fun c33_23 => ?_) (fun c33_23 => ?_)
                                                    · replace h := qv_pos c33_23 h
                                                      refine qv_run 5 (σ := (878, [some (.float 1), some (.ref l1), some (.ref l2), some (.int l3)], [.int (l3 + 1), .float 1, .ref l1], H)) rfl ?_
                                                      obtain ⟨v878, e878, h⟩ := qv_bind h
                                                      refine qv_sld rfl e878 ?_
                                                      refine qv_run 4 (σ := (883, [some (.float 1), some (.ref l1), some (.ref l2), some (.int l3)], [.int (l3 + 2), .float 1, .int v878, .ref l1], H)) rfl ?_
                                                      obtain ⟨v883, e883, h⟩ := qv_bind h
                                                      refine qv_sld rfl e883 ?_
                                                      obtain ⟨g884, h⟩ := qv_guard h
                                                      obtain ⟨v884, H884, e884, h⟩ := qv_bind2 h
                                                      refine qv_callV [.int v878, .int v883] rfl rfl rfl (Nat.le_of_ble_eq_true rfl) g884 (th_X10_mendAhead (by omega) e884) (tl_X10_mendAhead e884) ?_
                                                      refine qv_run 5 (σ := (892, [some (.float 1), some (.ref l1), some (.ref l2), some (.int l3)], [.int (l3 + 1), .float 1, .ref l2, .int v884], H884)) rfl ?_
                                                      obtain ⟨v892, e892, h⟩ := qv_bind h
                                                      refine qv_sld rfl e892 ?_
                                                      refine qv_run 4 (σ := (897, [some (.float 1), some (.ref l1), some (.ref l2), some (.int l3)], [.int (l3 + 2), .float 1, .int v892, .ref l2, .int v884], H884)) rfl ?_
                                                      obtain ⟨v897, e897, h⟩ := qv_bind h
                                                      refine qv_sld rfl e897 ?_
                                                      obtain ⟨g898, h⟩ := qv_guard h
                                                      obtain ⟨v898, H898, e898, h⟩ := qv_bind2 h
                                                      refine qv_callV [.int v892, .int v897] rfl rfl rfl (Nat.le_of_ble_eq_true rfl) g898 (th_X11_mendAhead (by omega) e898) (tl_X11_mendAhead e898) ?_
                                                      refine qv_br (c := v884 = v898) (a := (1332, [some (.float 1), some (.ref l1), some (.ref l2), some (.int l3)], [], H898)) (b := (904, [some (.float 1), some (.ref l1), some (.ref l2), some (.int l3)], [], H898)) 1 rfl (fun c901 => ?_) (fun c901 => ?_)
                                                      · replace h := qv_pos c901 h
                                                        exact tb_L_law_1332 hd _ ih hR l1 l2 l3 H898 h
                                                      · replace h := qv_neg c901 h
                                                        refine qv_run 1 (σ := (905, [some (.float 1), some (.ref l1), some (.ref l2), some (.int l3)], [.int 0], H898)) rfl ?_
                                                        obtain ⟨rfl, rfl⟩ := qv_pair h
                                                        exact qv_retz rfl (Or.inl rfl) hR
                                                    · replace h := qv_neg c33_23 h
                                                      refine qv_swt (fun c33_24 => ?_) (fun c33_24 => ?_)
                                                      · replace h := qv_pos c33_24 h
                                                        refine qv_run 5 (σ := (911, [some (.float 1), some (.ref l1), some (.ref l2), some (.int l3)], [.int (l3 + 1), .float 1, .ref l1], H)) rfl ?_
                                                        obtain ⟨v911, e911, h⟩ := qv_bind h
                                                        refine qv_sld rfl e911 ?_
                                                        refine qv_run 4 (σ := (916, [some (.float 1), some (.ref l1), some (.ref l2), some (.int l3)], [.int (l3 + 2), .float 1, .int v911, .ref l1], H)) rfl ?_
                                                        obtain ⟨v916, e916, h⟩ := qv_bind h
                                                        refine qv_sld rfl e916 ?_
                                                        obtain ⟨g917, h⟩ := qv_guard h
                                                        obtain ⟨v917, H917, e917, h⟩ := qv_bind2 h
                                                        refine qv_callV [.int v911, .int v916] rfl rfl rfl (Nat.le_of_ble_eq_true rfl) g917 (th_X10_hands (by omega) e917) (tl_X10_hands e917) ?_
                                                        refine qv_run 5 (σ := (925, [some (.float 1), some (.ref l1), some (.ref l2), some (.int l3)], [.int (l3 + 1), .float 1, .ref l2, .int v917], H917)) rfl ?_
                                                        obtain ⟨v925, e925, h⟩ := qv_bind h
                                                        refine qv_sld rfl e925 ?_
                                                        refine qv_run 4 (σ := (930, [some (.float 1), some (.ref l1), some (.ref l2), some (.int l3)], [.int (l3 + 2), .float 1, .int v925, .ref l2, .int v917], H917)) rfl ?_
                                                        obtain ⟨v930, e930, h⟩ := qv_bind h
                                                        refine qv_sld rfl e930 ?_
                                                        obtain ⟨g931, h⟩ := qv_guard h
                                                        obtain ⟨v931, H931, e931, h⟩ := qv_bind2 h
                                                        refine qv_callV [.int v925, .int v930] rfl rfl rfl (Nat.le_of_ble_eq_true rfl) g931 (th_X11_hands (by omega) e931) (tl_X11_hands e931) ?_
                                                        refine qv_br (c := v917 = v931) (a := (1332, [some (.float 1), some (.ref l1), some (.ref l2), some (.int l3)], [], H931)) (b := (937, [some (.float 1), some (.ref l1), some (.ref l2), some (.int l3)], [], H931)) 1 rfl (fun c934 => ?_) (fun c934 => ?_)
                                                        · replace h := qv_pos c934 h
                                                          exact tb_L_law_1332 hd _ ih hR l1 l2 l3 H931 h
                                                        · replace h := qv_neg c934 h
                                                          refine qv_run 1 (σ := (938, [some (.float 1), some (.ref l1), some (.ref l2), some (.int l3)], [.int 0], H931)) rfl ?_
                                                          obtain ⟨rfl, rfl⟩ := qv_pair h
                                                          exact qv_retz rfl (Or.inl rfl) hR
                                                      · replace h := qv_neg c33_24 h
                                                        refine qv_swt (fun c33_25 => ?_) (fun c33_25 => ?_)
                                                        · replace h := qv_pos c33_25 h
                                                          refine qv_run 5 (σ := (944, [some (.float 1), some (.ref l1), some (.ref l2), some (.int l3)], [.int (l3 + 1), .float 1, .ref l1], H)) rfl ?_
                                                          obtain ⟨v944, e944, h⟩ := qv_bind h
                                                          refine qv_sld rfl e944 ?_
                                                          obtain ⟨g945, h⟩ := qv_guard h
                                                          obtain ⟨v945, H945, e945, h⟩ := qv_bind2 h
                                                          refine qv_callV [.int v944] rfl rfl rfl (Nat.le_of_ble_eq_true rfl) g945 (th_X10_swimsOut (by omega) e945) (tl_X10_swimsOut e945) ?_
                                                          refine qv_run 5 (σ := (953, [some (.float 1), some (.ref l1), some (.ref l2), some (.int l3)], [.int (l3 + 1), .float 1, .ref l2, .long v945], H945)) rfl ?_
                                                          obtain ⟨v953, e953, h⟩ := qv_bind h
                                                          refine qv_sld rfl e953 ?_
                                                          obtain ⟨g954, h⟩ := qv_guard h
                                                          obtain ⟨v954, H954, e954, h⟩ := qv_bind2 h
                                                          refine qv_callV [.int v953] rfl rfl rfl (Nat.le_of_ble_eq_true rfl) g954 (th_X11_swimsOut (by omega) e954) (tl_X11_swimsOut e954) ?_
                                                          refine qv_br (c := (lg_cmp v945 v954) = 0) (a := (1332, [some (.float 1), some (.ref l1), some (.ref l2), some (.int l3)], [], H954)) (b := (961, [some (.float 1), some (.ref l1), some (.ref l2), some (.int l3)], [], H954)) 2 rfl (fun c958 => ?_) (fun c958 => ?_)
                                                          · replace h := qv_pos c958 h
                                                            exact tb_L_law_1332 hd _ ih hR l1 l2 l3 H954 h
                                                          · replace h := qv_neg c958 h
                                                            refine qv_run 1 (σ := (962, [some (.float 1), some (.ref l1), some (.ref l2), some (.int l3)], [.int 0], H954)) rfl ?_
                                                            obtain ⟨rfl, rfl⟩ := qv_pair h
                                                            exact qv_retz rfl (Or.inl rfl) hR
                                                        · replace h := qv_neg c33_25 h
                                                          refine qv_swt (fun c33_26 => ?_) (fun c33_26 => ?_)
                                                          · replace h := qv_pos c33_26 h
                                                            refine qv_run 5 (σ := (968, [some (.float 1), some (.ref l1), some (.ref l2), some (.int l3)], [.int (l3 + 1), .float 1, .ref l1], H)) rfl ?_
                                                            obtain ⟨v968, e968, h⟩ := qv_bind h
                                                            refine qv_sld rfl e968 ?_
                                                            refine qv_run 4 (σ := (973, [some (.float 1), some (.ref l1), some (.ref l2), some (.int l3)], [.int (l3 + 2), .float 1, .int v968, .ref l1], H)) rfl ?_
                                                            obtain ⟨v973, e973, h⟩ := qv_bind h
                                                            refine qv_sld rfl e973 ?_
                                                            refine qv_run 4 (σ := (978, [some (.float 1), some (.ref l1), some (.ref l2), some (.int l3)], [.int (l3 + 3), .float 1, .int v973, .int v968, .ref l1], H)) rfl ?_
                                                            obtain ⟨v978, e978, h⟩ := qv_bind h
                                                            refine qv_sld rfl e978 ?_
                                                            obtain ⟨g979, h⟩ := qv_guard h
                                                            obtain ⟨v979, H979, e979, h⟩ := qv_bind2 h
                                                            refine qv_callV [.int v968, .int v973, .int v978] rfl rfl rfl (Nat.le_of_ble_eq_true rfl) g979 (th_X10_voice (by omega) e979) (tl_X10_voice e979) ?_
                                                            refine qv_run 5 (σ := (987, [some (.float 1), some (.ref l1), some (.ref l2), some (.int l3)], [.int (l3 + 1), .float 1, .ref l2, .int v979], H979)) rfl ?_
                                                            obtain ⟨v987, e987, h⟩ := qv_bind h
                                                            refine qv_sld rfl e987 ?_
                                                            refine qv_run 4 (σ := (992, [some (.float 1), some (.ref l1), some (.ref l2), some (.int l3)], [.int (l3 + 2), .float 1, .int v987, .ref l2, .int v979], H979)) rfl ?_
                                                            obtain ⟨v992, e992, h⟩ := qv_bind h
                                                            refine qv_sld rfl e992 ?_
                                                            refine qv_run 4 (σ := (997, [some (.float 1), some (.ref l1), some (.ref l2), some (.int l3)], [.int (l3 + 3), .float 1, .int v992, .int v987, .ref l2, .int v979], H979)) rfl ?_
                                                            obtain ⟨v997, e997, h⟩ := qv_bind h
                                                            refine qv_sld rfl e997 ?_
                                                            obtain ⟨g998, h⟩ := qv_guard h
                                                            obtain ⟨v998, H998, e998, h⟩ := qv_bind2 h
                                                            refine qv_callV [.int v987, .int v992, .int v997] rfl rfl rfl (Nat.le_of_ble_eq_true rfl) g998 (th_X11_voice (by omega) e998) (tl_X11_voice e998) ?_
                                                            refine qv_br (c := v979 = v998) (a := (1332, [some (.float 1), some (.ref l1), some (.ref l2), some (.int l3)], [], H998)) (b := (1004, [some (.float 1), some (.ref l1), some (.ref l2), some (.int l3)], [], H998)) 1 rfl (fun c1001 => ?_) (fun c1001 => ?_)
                                                            · replace h := qv_pos c1001 h
                                                              exact tb_L_law_1332 hd _ ih hR l1 l2 l3 H998 h
                                                            · replace h := qv_neg c1001 h
                                                              refine qv_run 1 (σ := (1005, [some (.float 1), some (.ref l1), some (.ref l2), some (.int l3)], [.int 0], H998)) rfl ?_
                                                              obtain ⟨rfl, rfl⟩ := qv_pair h
                                                              exact qv_retz rfl (Or.inl rfl) hR
                                                          · replace h := qv_neg c33_26 h
                                                            refine qv_swt (fun c33_27 => ?_) (fun c33_27 => ?_)
                                                            · replace h := qv_pos c33_27 h
                                                              refine qv_run 5 (σ := (1011, [some (.float 1), some (.ref l1), some (.ref l2), some (.int l3)], [.int (l3 + 1), .float 1, .ref l1], H)) rfl ?_
                                                              obtain ⟨v1011, e1011, h⟩ := qv_bind h
                                                              refine qv_sld rfl e1011 ?_
                                                              obtain ⟨g1012, h⟩ := qv_guard h
                                                              obtain ⟨v1012, H1012, e1012, h⟩ := qv_bind2 h
                                                              refine qv_callV [.int v1011] rfl rfl rfl (Nat.le_of_ble_eq_true rfl) g1012 (th_X10_body (by omega) e1012) (tl_X10_body e1012) ?_
                                                              refine qv_run 5 (σ := (1020, [some (.float 1), some (.ref l1), some (.ref l2), some (.int l3)], [.int (l3 + 1), .float 1, .ref l2, .int v1012], H1012)) rfl ?_
                                                              obtain ⟨v1020, e1020, h⟩ := qv_bind h
                                                              refine qv_sld rfl e1020 ?_
                                                              obtain ⟨g1021, h⟩ := qv_guard h
                                                              obtain ⟨v1021, H1021, e1021, h⟩ := qv_bind2 h
                                                              refine qv_callV [.int v1020] rfl rfl rfl (Nat.le_of_ble_eq_true rfl) g1021 (th_X11_body (by omega) e1021) (tl_X11_body e1021) ?_
                                                              refine qv_br (c := v1012 = v1021) (a := (1332, [some (.float 1), some (.ref l1), some (.ref l2), some (.int l3)], [], H1021)) (b := (1027, [some (.float 1), some (.ref l1), some (.ref l2), some (.int l3)], [], H1021)) 1 rfl (fun c1024 => ?_) (fun c1024 => ?_)
                                                              · replace h := qv_pos c1024 h
                                                                exact tb_L_law_1332 hd _ ih hR l1 l2 l3 H1021 h
                                                              · replace h := qv_neg c1024 h
                                                                refine qv_run 1 (σ := (1028, [some (.float 1), some (.ref l1), some (.ref l2), some (.int l3)], [.int 0], H1021)) rfl ?_
                                                                obtain ⟨rfl, rfl⟩ := qv_pair h
                                                                exact qv_retz rfl (Or.inl rfl) hR
                                                            · replace h := qv_neg c33_27 h
                                                              refine qv_swt (fun c33_28 => ?_) (fun c33_28 => ?_)
                                                              · replace h := qv_pos c33_28 h
                                                                refine qv_run 5 (σ := (1034, [some (.float 1), some (.ref l1), some (.ref l2), some (.int l3)], [.int (l3 + 1), .float 1, .ref l1], H)) rfl ?_
                                                                obtain ⟨v1034, e1034, h⟩ := qv_bind h
                                                                refine qv_sld rfl e1034 ?_
                                                                refine qv_run 4 (σ := (1039, [some (.float 1), some (.ref l1), some (.ref l2), some (.int l3)], [.int (l3 + 2), .float 1, .int v1034, .ref l1], H)) rfl ?_
                                                                obtain ⟨v1039, e1039, h⟩ := qv_bind h
                                                                refine qv_sld rfl e1039 ?_
                                                                refine qv_run 4 (σ := (1044, [some (.float 1), some (.ref l1), some (.ref l2), some (.int l3)], [.int (l3 + 3), .float 1, .int v1039, .int v1034, .ref l1], H)) rfl ?_
                                                                obtain ⟨v1044, e1044, h⟩ := qv_bind h
                                                                refine qv_sld rfl e1044 ?_
                                                                obtain ⟨g1045, h⟩ := qv_guard h
                                                                obtain ⟨v1045, H1045, e1045, h⟩ := qv_bind2 h
                                                                refine qv_callV [.int v1034, .int v1039, .int v1044] rfl rfl rfl (Nat.le_of_ble_eq_true rfl) g1045 (th_X10_sheet (by omega) e1045) (tl_X10_sheet e1045) ?_
                                                                refine qv_run 5 (σ := (1053, [some (.float 1), some (.ref l1), some (.ref l2), some (.int l3)], [.int (l3 + 1), .float 1, .ref l2, .int v1045], H1045)) rfl ?_
                                                                obtain ⟨v1053, e1053, h⟩ := qv_bind h
                                                                refine qv_sld rfl e1053 ?_
                                                                refine qv_run 4 (σ := (1058, [some (.float 1), some (.ref l1), some (.ref l2), some (.int l3)], [.int (l3 + 2), .float 1, .int v1053, .ref l2, .int v1045], H1045)) rfl ?_
                                                                obtain ⟨v1058, e1058, h⟩ := qv_bind h
                                                                refine qv_sld rfl e1058 ?_
                                                                refine qv_run 4 (σ := (1063, [some (.float 1), some (.ref l1), some (.ref l2), some (.int l3)], [.int (l3 + 3), .float 1, .int v1058, .int v1053, .ref l2, .int v1045], H1045)) rfl ?_
                                                                obtain ⟨v1063, e1063, h⟩ := qv_bind h
                                                                refine qv_sld rfl e1063 ?_
                                                                obtain ⟨g1064, h⟩ := qv_guard h
                                                                obtain ⟨v1064, H1064, e1064, h⟩ := qv_bind2 h
                                                                refine qv_callV [.int v1053, .int v1058, .int v1063] rfl rfl rfl (Nat.le_of_ble_eq_true rfl) g1064 (th_X11_sheet (by omega) e1064) (tl_X11_sheet e1064) ?_
                                                                refine qv_br (c := v1045 = v1064) (a := (1332, [some (.float 1), some (.ref l1), some (.ref l2), some (.int l3)], [], H1064)) (b := (1070, [some (.float 1), some (.ref l1), some (.ref l2), some (.int l3)], [], H1064)) 1 rfl (fun c1067 => ?_) (fun c1067 => ?_)
                                                                · replace h := qv_pos c1067 h
                                                                  exact tb_L_law_1332 hd _ ih hR l1 l2 l3 H1064 h
                                                                · replace h := qv_neg c1067 h
                                                                  refine qv_run 1 (σ := (1071, [some (.float 1), some (.ref l1), some (.ref l2), some (.int l3)], [.int 0], H1064)) rfl ?_
                                                                  obtain ⟨rfl, rfl⟩ := qv_pair h
                                                                  exact qv_retz rfl (Or.inl rfl) hR
                                                              · replace h := qv_neg c33_28 h
                                                                refine qv_swt (fun c33_29 => ?_) (fun c33_29 => ?_)
                                                                · replace h := qv_pos c33_29 h
                                                                  refine qv_run 5 (σ := (1077, [some (.float 1), some (.ref l1), some (.ref l2), some (.int l3)], [.int (l3 + 1), .float 1, .ref l1], H)) rfl ?_
                                                                  obtain ⟨v1077, e1077, h⟩ := qv_bind h
                                                                  refine qv_sld rfl e1077 ?_
                                                                  refine qv_run 4 (σ := (1082, [some (.float 1), some (.ref l1), some (.ref l2), some (.int l3)], [.int (l3 + 2), .float 1, .int v1077, .ref l1], H)) rfl ?_
                                                                  obtain ⟨v1082, e1082, h⟩ := qv_bind h
                                                                  refine qv_sld rfl e1082 ?_
                                                                  refine qv_run 4 (σ := (1087, [some (.float 1), some (.ref l1), some (.ref l2), some (.int l3)], [.int (l3 + 3), .float 1, .int v1082, .int v1077, .ref l1], H)) rfl ?_
                                                                  obtain ⟨v1087, e1087, h⟩ := qv_bind h
                                                                  refine qv_sld rfl e1087 ?_
                                                                  obtain ⟨g1088, h⟩ := qv_guard h
                                                                  obtain ⟨v1088, H1088, e1088, h⟩ := qv_bind2 h
                                                                  refine qv_callV [.int v1077, .int v1082, .int v1087] rfl rfl rfl (Nat.le_of_ble_eq_true rfl) g1088 (th_X10_put (by omega) e1088) (tl_X10_put e1088) ?_
                                                                  refine qv_run 5 (σ := (1096, [some (.float 1), some (.ref l1), some (.ref l2), some (.int l3)], [.int (l3 + 1), .float 1, .ref l2, .int v1088], H1088)) rfl ?_
                                                                  obtain ⟨v1096, e1096, h⟩ := qv_bind h
                                                                  refine qv_sld rfl e1096 ?_
                                                                  refine qv_run 4 (σ := (1101, [some (.float 1), some (.ref l1), some (.ref l2), some (.int l3)], [.int (l3 + 2), .float 1, .int v1096, .ref l2, .int v1088], H1088)) rfl ?_
                                                                  obtain ⟨v1101, e1101, h⟩ := qv_bind h
                                                                  refine qv_sld rfl e1101 ?_
                                                                  refine qv_run 4 (σ := (1106, [some (.float 1), some (.ref l1), some (.ref l2), some (.int l3)], [.int (l3 + 3), .float 1, .int v1101, .int v1096, .ref l2, .int v1088], H1088)) rfl ?_
                                                                  obtain ⟨v1106, e1106, h⟩ := qv_bind h
                                                                  refine qv_sld rfl e1106 ?_
                                                                  obtain ⟨g1107, h⟩ := qv_guard h
                                                                  obtain ⟨v1107, H1107, e1107, h⟩ := qv_bind2 h
                                                                  refine qv_callV [.int v1096, .int v1101, .int v1106] rfl rfl rfl (Nat.le_of_ble_eq_true rfl) g1107 (th_X11_put (by omega) e1107) (tl_X11_put e1107) ?_
                                                                  refine qv_br (c := v1088 = v1107) (a := (1332, [some (.float 1), some (.ref l1), some (.ref l2), some (.int l3)], [], H1107)) (b := (1113, [some (.float 1), some (.ref l1), some (.ref l2), some (.int l3)], [], H1107)) 1 rfl (fun c1110 => ?_) (fun c1110 => ?_)
                                                                  · replace h := qv_pos c1110 h
                                                                    exact tb_L_law_1332 hd _ ih hR l1 l2 l3 H1107 h
                                                                  · replace h := qv_neg c1110 h
                                                                    refine qv_run 1 (σ := (1114, [some (.float 1), some (.ref l1), some (.ref l2), some (.int l3)], [.int 0], H1107)) rfl ?_
                                                                    obtain ⟨rfl, rfl⟩ := qv_pair h
                                                                    exact qv_retz rfl (Or.inl rfl) hR
                                                                · replace h := qv_neg c33_29 h
                                                                  refine qv_swt (fun c33_30 => ?_) (fun c33_30 => ?_)
                                                                  · replace h := qv_pos c33_30 h
                                                                    refine qv_run 5 (σ := (1120, [some (.float 1), some (.ref l1), some (.ref l2), some (.int l3)], [.int (l3 + 1), .float 1, .ref l1], H)) rfl ?_
                                                                    obtain ⟨v1120, e1120, h⟩ := qv_bind h
                                                                    refine qv_sld rfl e1120 ?_
                                                                    refine qv_run 4 (σ := (1125, [some (.float 1), some (.ref l1), some (.ref l2), some (.int l3)], [.int (l3 + 2), .float 1, .int v1120, .ref l1], H)) rfl ?_
                                                                    obtain ⟨v1125, e1125, h⟩ := qv_bind h
                                                                    refine qv_sld rfl e1125 ?_
                                                                    refine qv_run 4 (σ := (1130, [some (.float 1), some (.ref l1), some (.ref l2), some (.int l3)], [.int (l3 + 3), .float 1, .int v1125, .int v1120, .ref l1], H)) rfl ?_
                                                                    obtain ⟨v1130, e1130, h⟩ := qv_bind h
                                                                    refine qv_sld rfl e1130 ?_
                                                                    refine qv_run 4 (σ := (1135, [some (.float 1), some (.ref l1), some (.ref l2), some (.int l3)], [.int (l3 + 4), .float 1, .int v1130, .int v1125, .int v1120, .ref l1], H)) rfl ?_
                                                                    obtain ⟨v1135, e1135, h⟩ := qv_bind h
                                                                    refine qv_sld rfl e1135 ?_
                                                                    refine qv_run 4 (σ := (1140, [some (.float 1), some (.ref l1), some (.ref l2), some (.int l3)], [.int (l3 + 5), .float 1, .int v1135, .int v1130, .int v1125, .int v1120, .ref l1], H)) rfl ?_
                                                                    obtain ⟨v1140, e1140, h⟩ := qv_bind h
                                                                    refine qv_sld rfl e1140 ?_
                                                                    obtain ⟨g1141, h⟩ := qv_guard h
                                                                    obtain ⟨v1141, H1141, e1141, h⟩ := qv_bind2 h
                                                                    refine qv_callV [.int v1120, .int v1125, .int v1130, .int v1135, .int v1140] rfl rfl rfl (Nat.le_of_ble_eq_true rfl) g1141 (th_X10_move (by omega) e1141) (tl_X10_move e1141) ?_
                                                                    refine qv_run 5 (σ := (1149, [some (.float 1), some (.ref l1), some (.ref l2), some (.int l3)], [.int (l3 + 1), .float 1, .ref l2, .int v1141], H1141)) rfl ?_
                                                                    obtain ⟨v1149, e1149, h⟩ := qv_bind h
                                                                    refine qv_sld rfl e1149 ?_
                                                                    refine qv_run 4 (σ := (1154, [some (.float 1), some (.ref l1), some (.ref l2), some (.int l3)], [.int (l3 + 2), .float 1, .int v1149, .ref l2, .int v1141], H1141)) rfl ?_
                                                                    obtain ⟨v1154, e1154, h⟩ := qv_bind h
                                                                    refine qv_sld rfl e1154 ?_
                                                                    refine qv_run 4 (σ := (1159, [some (.float 1), some (.ref l1), some (.ref l2), some (.int l3)], [.int (l3 + 3), .float 1, .int v1154, .int v1149, .ref l2, .int v1141], H1141)) rfl ?_
                                                                    obtain ⟨v1159, e1159, h⟩ := qv_bind h
                                                                    refine qv_sld rfl e1159 ?_
                                                                    refine qv_run 4 (σ := (1164, [some (.float 1), some (.ref l1), some (.ref l2), some (.int l3)], [.int (l3 + 4), .float 1, .int v1159, .int v1154, .int v1149, .ref l2, .int v1141], H1141)) rfl ?_
                                                                    obtain ⟨v1164, e1164, h⟩ := qv_bind h
                                                                    refine qv_sld rfl e1164 ?_
                                                                    refine qv_run 4 (σ := (1169, [some (.float 1), some (.ref l1), some (.ref l2), some (.int l3)], [.int (l3 + 5), .float 1, .int v1164, .int v1159, .int v1154, .int v1149, .ref l2, .int v1141], H1141)) rfl ?_
                                                                    obtain ⟨v1169, e1169, h⟩ := qv_bind h
                                                                    refine qv_sld rfl e1169 ?_
                                                                    obtain ⟨g1170, h⟩ := qv_guard h
                                                                    obtain ⟨v1170, H1170, e1170, h⟩ := qv_bind2 h
                                                                    refine qv_callV [.int v1149, .int v1154, .int v1159, .int v1164, .int v1169] rfl rfl rfl (Nat.le_of_ble_eq_true rfl) g1170 (th_X11_move (by omega) e1170) (tl_X11_move e1170) ?_
                                                                    refine qv_br (c := v1141 = v1170) (a := (1332, [some (.float 1), some (.ref l1), some (.ref l2), some (.int l3)], [], H1170)) (b := (1176, [some (.float 1), some (.ref l1), some (.ref l2), some (.int l3)], [], H1170)) 1 rfl (fun c1173 => ?_) (fun c1173 => ?_)
                                                                    · replace h := qv_pos c1173 h
                                                                      exact tb_L_law_1332 hd _ ih hR l1 l2 l3 H1170 h
                                                                    · replace h := qv_neg c1173 h
                                                                      refine qv_run 1 (σ := (1177, [some (.float 1), some (.ref l1), some (.ref l2), some (.int l3)], [.int 0], H1170)) rfl ?_
                                                                      obtain ⟨rfl, rfl⟩ := qv_pair h
                                                                      exact qv_retz rfl (Or.inl rfl) hR
                                                                  · replace h := qv_neg c33_30 h
                                                                    refine qv_swt (fun c33_31 => ?_) (fun c33_31 => ?_)
                                                                    · replace h := qv_pos c33_31 h
                                                                      refine qv_run 5 (σ := (1183, [some (.float 1), some (.ref l1), some (.ref l2), some (.int l3)], [.int (l3 + 1), .float 1, .ref l1], H)) rfl ?_
                                                                      obtain ⟨v1183, e1183, h⟩ := qv_bind h
                                                                      refine qv_sld rfl e1183 ?_
                                                                      obtain ⟨g1184, h⟩ := qv_guard h
                                                                      obtain ⟨v1184, H1184, e1184, h⟩ := qv_bind2 h
                                                                      refine qv_callV [.int v1183] rfl rfl rfl (Nat.le_of_ble_eq_true rfl) g1184 (th_X10_cutAll (by omega) e1184) (tl_X10_cutAll e1184) ?_
                                                                      refine qv_run 5 (σ := (1192, [some (.float 1), some (.ref l1), some (.ref l2), some (.int l3)], [.int (l3 + 1), .float 1, .ref l2, .int v1184], H1184)) rfl ?_
                                                                      obtain ⟨v1192, e1192, h⟩ := qv_bind h
                                                                      refine qv_sld rfl e1192 ?_
                                                                      obtain ⟨g1193, h⟩ := qv_guard h
                                                                      obtain ⟨v1193, H1193, e1193, h⟩ := qv_bind2 h
                                                                      refine qv_callV [.int v1192] rfl rfl rfl (Nat.le_of_ble_eq_true rfl) g1193 (th_X11_cutAll (by omega) e1193) (tl_X11_cutAll e1193) ?_
                                                                      refine qv_br (c := v1184 = v1193) (a := (1332, [some (.float 1), some (.ref l1), some (.ref l2), some (.int l3)], [], H1193)) (b := (1199, [some (.float 1), some (.ref l1), some (.ref l2), some (.int l3)], [], H1193)) 1 rfl (fun c1196 => ?_) (fun c1196 => ?_)
                                                                      · replace h := qv_pos c1196 h
                                                                        exact tb_L_law_1332 hd _ ih hR l1 l2 l3 H1193 h
                                                                      · replace h := qv_neg c1196 h
                                                                        refine qv_run 1 (σ := (1200, [some (.float 1), some (.ref l1), some (.ref l2), some (.int l3)], [.int 0], H1193)) rfl ?_
                                                                        obtain ⟨rfl, rfl⟩ := qv_pair h
                                                                        exact qv_retz rfl (Or.inl rfl) hR
                                                                    · replace h := qv_neg c33_31 h
                                                                      refine qv_swt (fun c33_32 => ?_) (fun c33_32 => ?_)
                                                                      · replace h := qv_pos c33_32 h
                                                                        refine qv_run 5 (σ := (1206, [some (.float 1), some (.ref l1), some (.ref l2), some (.int l3)], [.int (l3 + 1), .float 1, .ref l1], H)) rfl ?_
                                                                        obtain ⟨v1206, e1206, h⟩ := qv_bind h
                                                                        refine qv_sld rfl e1206 ?_
                                                                        obtain ⟨g1207, h⟩ := qv_guard h
                                                                        obtain ⟨v1207, H1207, e1207, h⟩ := qv_bind2 h
                                                                        refine qv_callV [.int v1206] rfl rfl rfl (Nat.le_of_ble_eq_true rfl) g1207 (th_X10_judge (by omega) e1207) (tl_X10_judge e1207) ?_
                                                                        refine qv_run 5 (σ := (1215, [some (.float 1), some (.ref l1), some (.ref l2), some (.int l3)], [.int (l3 + 1), .float 1, .ref l2, .int v1207], H1207)) rfl ?_
                                                                        obtain ⟨v1215, e1215, h⟩ := qv_bind h
                                                                        refine qv_sld rfl e1215 ?_
                                                                        obtain ⟨g1216, h⟩ := qv_guard h
                                                                        obtain ⟨v1216, H1216, e1216, h⟩ := qv_bind2 h
                                                                        refine qv_callV [.int v1215] rfl rfl rfl (Nat.le_of_ble_eq_true rfl) g1216 (th_X11_judge (by omega) e1216) (tl_X11_judge e1216) ?_
                                                                        refine qv_br (c := v1207 = v1216) (a := (1332, [some (.float 1), some (.ref l1), some (.ref l2), some (.int l3)], [], H1216)) (b := (1222, [some (.float 1), some (.ref l1), some (.ref l2), some (.int l3)], [], H1216)) 1 rfl (fun c1219 => ?_) (fun c1219 => ?_)
                                                                        · replace h := qv_pos c1219 h
                                                                          exact tb_L_law_1332 hd _ ih hR l1 l2 l3 H1216 h
                                                                        · replace h := qv_neg c1219 h
                                                                          refine qv_run 1 (σ := (1223, [some (.float 1), some (.ref l1), some (.ref l2), some (.int l3)], [.int 0], H1216)) rfl ?_
                                                                          obtain ⟨rfl, rfl⟩ := qv_pair h
                                                                          exact qv_retz rfl (Or.inl rfl) hR
                                                                      · replace h := qv_neg c33_32 h
                                                                        refine qv_swt (fun c33_33 => ?_) (fun c33_33 => ?_)
                                                                        · replace h := qv_pos c33_33 h
                                                                          refine qv_run 1 (σ := (1225, [some (.float 1), some (.ref l1), some (.ref l2), some (.int l3)], [.ref l1], H)) rfl ?_
                                                                          obtain ⟨g1225, h⟩ := qv_guard h
                                                                          obtain ⟨v1225, H1225, e1225, h⟩ := qv_bind2 h
                                                                          refine qv_callV [] rfl rfl rfl (Nat.le_of_ble_eq_true rfl) g1225 (th_X10_image (by omega) e1225) (tl_X10_image e1225) ?_
                                                                          refine qv_run 1 (σ := (1229, [some (.float 1), some (.ref l1), some (.ref l2), some (.int l3)], [.ref l2, .int v1225], H1225)) rfl ?_
                                                                          obtain ⟨g1229, h⟩ := qv_guard h
                                                                          obtain ⟨v1229, H1229, e1229, h⟩ := qv_bind2 h
                                                                          refine qv_callV [] rfl rfl rfl (Nat.le_of_ble_eq_true rfl) g1229 (th_X11_image (by omega) e1229) (tl_X11_image e1229) ?_
                                                                          refine qv_br (c := v1225 = v1229) (a := (1332, [some (.float 1), some (.ref l1), some (.ref l2), some (.int l3)], [], H1229)) (b := (1235, [some (.float 1), some (.ref l1), some (.ref l2), some (.int l3)], [], H1229)) 1 rfl (fun c1232 => ?_) (fun c1232 => ?_)
                                                                          · replace h := qv_pos c1232 h
                                                                            exact tb_L_law_1332 hd _ ih hR l1 l2 l3 H1229 h
                                                                          · replace h := qv_neg c1232 h
                                                                            refine qv_run 1 (σ := (1236, [some (.float 1), some (.ref l1), some (.ref l2), some (.int l3)], [.int 0], H1229)) rfl ?_
                                                                            obtain ⟨rfl, rfl⟩ := qv_pair h
                                                                            exact qv_retz rfl (Or.inl rfl) hR
                                                                        · replace h := qv_neg c33_33 h
                                                                          refine qv_swt (fun c33_34 => ?_) (fun c33_34 => ?_)
                                                                          · replace h := qv_pos c33_34 h
                                                                            refine qv_run 1 (σ := (1238, [some (.float 1), some (.ref l1), some (.ref l2), some (.int l3)], [.ref l1], H)) rfl ?_
                                                                            obtain ⟨g1238, h⟩ := qv_guard h
                                                                            obtain ⟨v1238, H1238, e1238, h⟩ := qv_bind2 h
                                                                            refine qv_callV [] rfl rfl rfl (Nat.le_of_ble_eq_true rfl) g1238 (th_X10_restore (by omega) e1238) (tl_X10_restore e1238) ?_
                                                                            refine qv_run 1 (σ := (1242, [some (.float 1), some (.ref l1), some (.ref l2), some (.int l3)], [.ref l2, .int v1238], H1238)) rfl ?_
                                                                            obtain ⟨g1242, h⟩ := qv_guard h
                                                                            obtain ⟨v1242, H1242, e1242, h⟩ := qv_bind2 h
                                                                            refine qv_callV [] rfl rfl rfl (Nat.le_of_ble_eq_true rfl) g1242 (th_X11_restore (by omega) e1242) (tl_X11_restore e1242) ?_
                                                                            refine qv_br (c := v1238 = v1242) (a := (1332, [some (.float 1), some (.ref l1), some (.ref l2), some (.int l3)], [], H1242)) (b := (1248, [some (.float 1), some (.ref l1), some (.ref l2), some (.int l3)], [], H1242)) 1 rfl (fun c1245 => ?_) (fun c1245 => ?_)
                                                                            · replace h := qv_pos c1245 h
                                                                              exact tb_L_law_1332 hd _ ih hR l1 l2 l3 H1242 h
                                                                            · replace h := qv_neg c1245 h
                                                                              refine qv_run 1 (σ := (1249, [some (.float 1), some (.ref l1), some (.ref l2), some (.int l3)], [.int 0], H1242)) rfl ?_
                                                                              obtain ⟨rfl, rfl⟩ := qv_pair h
                                                                              exact qv_retz rfl (Or.inl rfl) hR
                                                                          · replace h := qv_neg c33_34 h
                                                                            refine qv_swt (fun c33_35 => ?_) (fun c33_35 => ?_)
                                                                            · replace h := qv_pos c33_35 h
                                                                              refine qv_run 5 (σ := (1255, [some (.float 1), some (.ref l1), some (.ref l2), some (.int l3)], [.int (l3 + 1), .float 1, .ref l1], H)) rfl ?_
                                                                              obtain ⟨v1255, e1255, h⟩ := qv_bind h
                                                                              refine qv_sld rfl e1255 ?_
                                                                              obtain ⟨g1256, h⟩ := qv_guard h
                                                                              obtain ⟨v1256, H1256, e1256, h⟩ := qv_bind2 h
                                                                              refine qv_callV [.int v1255] rfl rfl rfl (Nat.le_of_ble_eq_true rfl) g1256 (th_X10_tell (by omega) e1256) (tl_X10_tell e1256) ?_
                                                                              refine qv_run 5 (σ := (1264, [some (.float 1), some (.ref l1), some (.ref l2), some (.int l3)], [.int (l3 + 1), .float 1, .ref l2, .int v1256], H1256)) rfl ?_
                                                                              obtain ⟨v1264, e1264, h⟩ := qv_bind h
                                                                              refine qv_sld rfl e1264 ?_
                                                                              obtain ⟨g1265, h⟩ := qv_guard h
                                                                              obtain ⟨v1265, H1265, e1265, h⟩ := qv_bind2 h
                                                                              refine qv_callV [.int v1264] rfl rfl rfl (Nat.le_of_ble_eq_true rfl) g1265 (th_X11_tell (by omega) e1265) (tl_X11_tell e1265) ?_
                                                                              refine qv_br (c := v1256 = v1265) (a := (1332, [some (.float 1), some (.ref l1), some (.ref l2), some (.int l3)], [], H1265)) (b := (1271, [some (.float 1), some (.ref l1), some (.ref l2), some (.int l3)], [], H1265)) 1 rfl (fun c1268 => ?_) (fun c1268 => ?_)
                                                                              · replace h := qv_pos c1268 h
                                                                                exact tb_L_law_1332 hd _ ih hR l1 l2 l3 H1265 h
                                                                              · replace h := qv_neg c1268 h
                                                                                refine qv_run 1 (σ := (1272, [some (.float 1), some (.ref l1), some (.ref l2), some (.int l3)], [.int 0], H1265)) rfl ?_
                                                                                obtain ⟨rfl, rfl⟩ := qv_pair h
                                                                                exact qv_retz rfl (Or.inl rfl) hR
                                                                            · replace h := qv_neg c33_35 h
                                                                              refine qv_swt (fun c33_36 => ?_) (fun c33_36 => ?_)
                                                                              · replace h := qv_pos c33_36 h
                                                                                refine qv_run 1 (σ := (1274, [some (.float 1), some (.ref l1), some (.ref l2), some (.int l3)], [.ref l1], H)) rfl ?_
                                                                                obtain ⟨g1274, h⟩ := qv_guard h
                                                                                obtain ⟨v1274, H1274, e1274, h⟩ := qv_bind2 h
                                                                                refine qv_callV [] rfl rfl rfl (Nat.le_of_ble_eq_true rfl) g1274 (th_X10_check (by omega) e1274) (tl_X10_check e1274) ?_
                                                                                refine qv_run 1 (σ := (1278, [some (.float 1), some (.ref l1), some (.ref l2), some (.int l3)], [.ref l2, .int v1274], H1274)) rfl ?_
                                                                                obtain ⟨g1278, h⟩ := qv_guard h
                                                                                obtain ⟨v1278, H1278, e1278, h⟩ := qv_bind2 h
                                                                                refine qv_callV [] rfl rfl rfl (Nat.le_of_ble_eq_true rfl) g1278 (th_X11_check (by omega) e1278) (tl_X11_check e1278) ?_
                                                                                refine qv_br (c := v1274 = v1278) (a := (1332, [some (.float 1), some (.ref l1), some (.ref l2), some (.int l3)], [], H1278)) (b := (1284, [some (.float 1), some (.ref l1), some (.ref l2), some (.int l3)], [], H1278)) 1 rfl (fun c1281 => ?_) (fun c1281 => ?_)
                                                                                · replace h := qv_pos c1281 h
                                                                                  exact tb_L_law_1332 hd _ ih hR l1 l2 l3 H1278 h
                                                                                · replace h := qv_neg c1281 h
                                                                                  refine qv_run 1 (σ := (1285, [some (.float 1), some (.ref l1), some (.ref l2), some (.int l3)], [.int 0], H1278)) rfl ?_
                                                                                  obtain ⟨rfl, rfl⟩ := qv_pair h
                                                                                  exact qv_retz rfl (Or.inl rfl) hR
                                                                              · replace h := qv_neg c33_36 h
                                                                                refine qv_swt (fun c33_37 => ?_) (fun c33_37 => ?_)
                                                                                · replace h := qv_pos c33_37 h
                                                                                  refine qv_run 5 (σ := (1291, [some (.float 1), some (.ref l1), some (.ref l2), some (.int l3)], [.int (l3 + 1), .float 1, .ref l1], H)) rfl ?_
                                                                                  obtain ⟨v1291, e1291, h⟩ := qv_bind h
                                                                                  refine qv_sld rfl e1291 ?_
                                                                                  obtain ⟨g1292, h⟩ := qv_guard h
                                                                                  obtain ⟨v1292, H1292, e1292, h⟩ := qv_bind2 h
                                                                                  refine qv_callV [.int v1291] rfl rfl rfl (Nat.le_of_ble_eq_true rfl) g1292 (th_X10_count (by omega) e1292) (tl_X10_count e1292) ?_
                                                                                  refine qv_run 5 (σ := (1300, [some (.float 1), some (.ref l1), some (.ref l2), some (.int l3)], [.int (l3 + 1), .float 1, .ref l2, .int v1292], H1292)) rfl ?_
                                                                                  obtain ⟨v1300, e1300, h⟩ := qv_bind h
                                                                                  refine qv_sld rfl e1300 ?_
                                                                                  obtain ⟨g1301, h⟩ := qv_guard h
                                                                                  obtain ⟨v1301, H1301, e1301, h⟩ := qv_bind2 h
                                                                                  refine qv_callV [.int v1300] rfl rfl rfl (Nat.le_of_ble_eq_true rfl) g1301 (th_X11_count (by omega) e1301) (tl_X11_count e1301) ?_
                                                                                  refine qv_br (c := v1292 = v1301) (a := (1332, [some (.float 1), some (.ref l1), some (.ref l2), some (.int l3)], [], H1301)) (b := (1307, [some (.float 1), some (.ref l1), some (.ref l2), some (.int l3)], [], H1301)) 1 rfl (fun c1304 => ?_) (fun c1304 => ?_)
                                                                                  · replace h := qv_pos c1304 h
                                                                                    exact tb_L_law_1332 hd _ ih hR l1 l2 l3 H1301 h
                                                                                  · replace h := qv_neg c1304 h
                                                                                    refine qv_run 1 (σ := (1308, [some (.float 1), some (.ref l1), some (.ref l2), some (.int l3)], [.int 0], H1301)) rfl ?_
                                                                                    obtain ⟨rfl, rfl⟩ := qv_pair h
                                                                                    exact qv_retz rfl (Or.inl rfl) hR
                                                                                · replace h := qv_neg c33_37 h
                                                                                  refine qv_swt (fun c33_38 => ?_) (fun c33_38 => ?_)
                                                                                  · replace h := qv_pos c33_38 h
                                                                                    refine qv_run 5 (σ := (1314, [some (.float 1), some (.ref l1), some (.ref l2), some (.int l3)], [.int (l3 + 1), .float 1, .ref l1], H)) rfl ?_
                                                                                    obtain ⟨v1314, e1314, h⟩ := qv_bind h
                                                                                    refine qv_sld rfl e1314 ?_
                                                                                    obtain ⟨g1315, h⟩ := qv_guard h
                                                                                    obtain ⟨v1315, H1315, e1315, h⟩ := qv_bind2 h
                                                                                    refine qv_callV [.int v1314] rfl rfl rfl (Nat.le_of_ble_eq_true rfl) g1315 (th_X10_told (by omega) e1315) (tl_X10_told e1315) ?_
                                                                                    refine qv_run 5 (σ := (1323, [some (.float 1), some (.ref l1), some (.ref l2), some (.int l3)], [.int (l3 + 1), .float 1, .ref l2, .int v1315], H1315)) rfl ?_
                                                                                    obtain ⟨v1323, e1323, h⟩ := qv_bind h
                                                                                    refine qv_sld rfl e1323 ?_
                                                                                    obtain ⟨g1324, h⟩ := qv_guard h
                                                                                    obtain ⟨v1324, H1324, e1324, h⟩ := qv_bind2 h
                                                                                    refine qv_callV [.int v1323] rfl rfl rfl (Nat.le_of_ble_eq_true rfl) g1324 (th_X11_told (by omega) e1324) (tl_X11_told e1324) ?_
                                                                                    refine qv_br (c := v1315 = v1324) (a := (1332, [some (.float 1), some (.ref l1), some (.ref l2), some (.int l3)], [], H1324)) (b := (1330, [some (.float 1), some (.ref l1), some (.ref l2), some (.int l3)], [], H1324)) 1 rfl (fun c1327 => ?_) (fun c1327 => ?_)
                                                                                    · replace h := qv_pos c1327 h
                                                                                      exact tb_L_law_1332 hd _ ih hR l1 l2 l3 H1324 h
                                                                                    · replace h := qv_neg c1327 h
                                                                                      refine qv_run 1 (σ := (1331, [some (.float 1), some (.ref l1), some (.ref l2), some (.int l3)], [.int 0], H1324)) rfl ?_
                                                                                      obtain ⟨rfl, rfl⟩ := qv_pair h
                                                                                      exact qv_retz rfl (Or.inl rfl) hR
                                                                                  · replace h := qv_neg c33_38 h
                                                                                    refine qv_sw0 ?_
                                                                                    exact tb_L_law_1332 hd _ ih hR l1 l2 l3 H h
set_option maxRecDepth 40000 in
set_option maxHeartbeats 8000000 in
theorem tb_L_law_0 {st : xT} {d : Nat} {R : Option Value → qx_H → Prop} (hd : 55 ≤ d) {r : Int32} {H' : qx_H} (hR : R (some (.int r)) H') (H : qx_H) (h : fm_L_law st H = some (r, H')) : qx_V (xE st d) R (xc233 st) (0, [some (.float 1), none, none, none], [], H) := by
  unfold fm_L_law at h
  obtain ⟨e0, h⟩ := qv_guard h
  refine qv_new rfl e0 ?_
  refine qv_run 1 (σ := (4, [some (.float 1), none, none, none], [.ref H.length, .ref H.length], (H ++ ([.inr (8, [.null, .null, .null, .null, .null, .null, .null, .null, .null, .null, .int 0])] : qx_H)))) rfl ?_
  obtain ⟨g4, h⟩ := qv_guard h
  obtain ⟨g4l, h⟩ := qv_guard h
  obtain ⟨H4, e4, h⟩ := qv_bind h
  refine qv_callA [] rfl rfl rfl (Nat.le_of_ble_eq_true rfl) g4 (th_X10_init (by omega) e4) g4l ?_
  refine qv_run 1 (σ := (8, [some (.float 1), some (.ref H.length), none, none], [], H4)) rfl ?_
  obtain ⟨e8, h⟩ := qv_guard h
  refine qv_new rfl e8 ?_
  refine qv_run 1 (σ := (12, [some (.float 1), some (.ref H.length), none, none], [.ref H4.length, .ref H4.length], (H4 ++ ([.inr (9, [.null, .null, .null, .int 0, .null, .int 0, .int 0, .int 0, .int 0, .null, .null, .null, .null, .null, .null, .null, .int 0, .int 0, .int 0, .null, .null, .null, .null])] : qx_H)))) rfl ?_
  obtain ⟨g12, h⟩ := qv_guard h
  obtain ⟨g12l, h⟩ := qv_guard h
  obtain ⟨H12, e12, h⟩ := qv_bind h
  refine qv_callA [] rfl rfl rfl (Nat.le_of_ble_eq_true rfl) g12 (th_X11_init (by omega) e12) g12l ?_
  refine qv_run 3 (σ := (18, [some (.float 1), some (.ref H.length), some (.ref H4.length), some (.int 0)], [], H12)) rfl ?_
  exact tb_L_law_18 hd hR 5000 H.length H4.length 0 H12 h
