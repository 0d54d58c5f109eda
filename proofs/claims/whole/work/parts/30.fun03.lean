def fm_X8_init (a0 : Nat) (H : qx_H) : Option qx_H := if qx_ok [some (.ref a0)] [.ref a0] H = true then (if hp_is (H ++ ([.inr (1, [.null, .null, .int 0])] : qx_H)) H.length 1 = true then (if qx_okl (H ++ ([.inr (1, [.null, .null, .int 0])] : qx_H)).length [some (.ref a0)] [.ref H.length, .ref a0] = true then ((fm_X3_init H.length (H ++ ([.inr (1, [.null, .null, .int 0])] : qx_H))).bind fun H9 => (hp_put H9 a0 6 0 (.ref H.length)).bind fun H12 => if ¬ ((60 : Int32) < 0 ∨ 100000 < Int32.toNatClampNeg 60) ∧ qx_ok [some (.ref a0)] [.ref a0] H12 = true then ((hp_put (H12 ++ ([.inl (Int32.toNatClampNeg 60, .inl fun _ => 0)] : qx_H)) a0 6 1 (.ref H12.length)).bind fun H20 => (hp_put H20 a0 6 2 (.int 0)).bind fun H25 => (hp_put H25 a0 6 3 (.int 0)).bind fun H30 => (hp_put H30 a0 6 4 (.int 1)).bind fun H35 => some H35) else none) else none) else none) else none
theorem tb_X8_init_0 {st : xT} {d : Nat} {R : Option Value → qx_H → Prop} (hd : 1 ≤ d) {H' : qx_H} (hR : R (none) H') (a0 : Nat) (H : qx_H) (h : fm_X8_init a0 H = some H') : qx_V (xE st d) R (xc63 st) (0, [some (.ref a0)], [], H) := by
  unfold fm_X8_init at h
  refine qv_run 3 (σ := (5, [some (.ref a0)], [.ref a0], H)) rfl ?_
  obtain ⟨e5, h⟩ := qv_guard h
  refine qv_new rfl e5 ?_
  refine qv_run 1 (σ := (9, [some (.ref a0)], [.ref H.length, .ref H.length, .ref a0], (H ++ ([.inr (1, [.null, .null, .int 0])] : qx_H)))) rfl ?_
  obtain ⟨g9, h⟩ := qv_guard h
  obtain ⟨g9l, h⟩ := qv_guard h
  obtain ⟨H9, e9, h⟩ := qv_bind h
  refine qv_callA [] rfl rfl rfl (Nat.le_of_ble_eq_true rfl) g9 (th_X3_init (by omega) e9) g9l ?_
  obtain ⟨H12, e12, h⟩ := qv_bind h
  refine qv_putR rfl e12 ?_
  refine qv_run 2 (σ := (18, [some (.ref a0)], [.int 60, .ref a0], H12)) rfl ?_
  obtain ⟨e18, h⟩ := qv_guard h
  refine qv_newa rfl e18.1 e18.2 ?_
  obtain ⟨H20, e20, h⟩ := qv_bind h
  refine qv_putR rfl e20 ?_
  refine qv_run 2 (σ := (25, [some (.ref a0)], [.int 0, .ref a0], H20)) rfl ?_
  obtain ⟨H25, e25, h⟩ := qv_bind h
  refine qv_putI rfl e25 ?_
  refine qv_run 2 (σ := (30, [some (.ref a0)], [.int 0, .ref a0], H25)) rfl ?_
  obtain ⟨H30, e30, h⟩ := qv_bind h
  refine qv_putI rfl e30 ?_
  refine qv_run 2 (σ := (35, [some (.ref a0)], [.int 1, .ref a0], H30)) rfl ?_
  obtain ⟨H35, e35, h⟩ := qv_bind h
  refine qv_putZ rfl (Or.inr rfl) e35 ?_
  cases h
  exact qv_ret0 rfl hR
theorem th_X8_init {st : xT} {d : Nat} (hd : 2 ≤ d) {a0 : Nat} {H : qx_H} {H' : qx_H} (h : fm_X8_init a0 H = some H') : xE st d 63 [.ref a0] H (none) H' := by
  obtain ⟨d, rfl⟩ : ∃ d', d = d' + 1 := ⟨d - 1, by omega⟩
  exact xE_of (xe63 st) xl63 (Nat.le_of_ble_eq_true rfl) (ls := [some (.ref a0)]) rfl (tb_X8_init_0 (by omega) ⟨rfl, rfl⟩ a0 H h)
def fm_X8_push (a0 : Nat) (a1 : Int32) (H : qx_H) : Option qx_H := (hp_gI H a0 6 2).bind fun v1 => if 60 ≤ v1 then (some H) else ((hp_gR H a0 6 1).bind fun v10 => (hp_gI H a0 6 2).bind fun v14 => (hp_ast H v10 v14 a1).bind fun H18 => (hp_gI H18 a0 6 2).bind fun v21 => (hp_put H18 a0 6 2 (.int (v21 + 1))).bind fun H26 => some H26)
theorem tb_X8_push_0 {st : xT} {d : Nat} {R : Option Value → qx_H → Prop} (hd : 0 ≤ d) {H' : qx_H} (hR : R (none) H') (a0 : Nat) (a1 : Int32) (H : qx_H) (h : fm_X8_push a0 a1 H = some H') : qx_V (xE st d) R (xc67 st) (0, [some (.ref a0), some (.int a1)], [], H) := by
  unfold fm_X8_push at h
  refine qv_run 1 (σ := (1, [some (.ref a0), some (.int a1)], [.ref a0], H)) rfl ?_
  obtain ⟨v1, e1, h⟩ := qv_bind h
  refine qv_getI rfl e1 ?_
  refine qv_br (c := 60 ≤ v1) (a := (29, [some (.ref a0), some (.int a1)], [], H)) (b := (9, [some (.ref a0), some (.int a1)], [], H)) 2 rfl (fun c6 => ?_) (fun c6 => ?_)
  · replace h := qv_pos c6 h
    cases h
    exact qv_ret0 rfl hR
  · replace h := qv_neg c6 h
    refine qv_run 1 (σ := (10, [some (.ref a0), some (.int a1)], [.ref a0], H)) rfl ?_
    obtain ⟨v10, e10, h⟩ := qv_bind h
    refine qv_getR rfl e10 ?_
    refine qv_run 1 (σ := (14, [some (.ref a0), some (.int a1)], [.ref a0, .ref v10], H)) rfl ?_
    obtain ⟨v14, e14, h⟩ := qv_bind h
    refine qv_getI rfl e14 ?_
    refine qv_run 1 (σ := (18, [some (.ref a0), some (.int a1)], [.int a1, .int v14, .ref v10], H)) rfl ?_
    obtain ⟨H18, e18, h⟩ := qv_bind h
    refine qv_ast rfl e18 ?_
    refine qv_run 2 (σ := (21, [some (.ref a0), some (.int a1)], [.ref a0, .ref a0], H18)) rfl ?_
    obtain ⟨v21, e21, h⟩ := qv_bind h
    refine qv_getI rfl e21 ?_
    refine qv_run 2 (σ := (26, [some (.ref a0), some (.int a1)], [.int (v21 + 1), .ref a0], H18)) rfl ?_
    obtain ⟨H26, e26, h⟩ := qv_bind h
    refine qv_putI rfl e26 ?_
    cases h
    exact qv_ret0 rfl hR
theorem tlb_X8_push_0 {H' : qx_H} (a0 : Nat) (a1 : Int32) (H : qx_H) (h : fm_X8_push a0 a1 H = some H') : H'.length = H.length := by
  unfold fm_X8_push at h
  obtain ⟨v1, e1, h⟩ := qv_bind h
  by_cases c6 : 60 ≤ v1
  · replace h := qv_pos c6 h
    cases h
    rfl
  · replace h := qv_neg c6 h
    obtain ⟨v10, e10, h⟩ := qv_bind h
    obtain ⟨v14, e14, h⟩ := qv_bind h
    obtain ⟨H18, e18, h⟩ := qv_bind h
    have q_H18 := hp_ast_len e18
    obtain ⟨v21, e21, h⟩ := qv_bind h
    obtain ⟨H26, e26, h⟩ := qv_bind h
    have q_H26 := hp_put_len e26
    cases h
    omega
theorem th_X8_push {st : xT} {d : Nat} (hd : 1 ≤ d) {a0 : Nat} {a1 : Int32} {H : qx_H} {H' : qx_H} (h : fm_X8_push a0 a1 H = some H') : xE st d 67 [.ref a0, .int a1] H (none) H' := by
  obtain ⟨d, rfl⟩ : ∃ d', d = d' + 1 := ⟨d - 1, by omega⟩
  exact xE_of (xe67 st) xl67 (Nat.le_of_ble_eq_true rfl) (ls := [some (.ref a0), some (.int a1)]) rfl (tb_X8_push_0 (by omega) ⟨rfl, rfl⟩ a0 a1 H h)
theorem tl_X8_push {a0 : Nat} {a1 : Int32} {H : qx_H} {H' : qx_H} (h : fm_X8_push a0 a1 H = some H') : H'.length = H.length := tlb_X8_push_0 a0 a1 H h
def fm_X8_nameOf (a0 : Int32) (a1 : Int32) : Int32 := if a0 = (if ((if a1 = 0 then 1 else 0) : Int32) = 0 then 116 else 109) then ((-1)) else (if a0 = (if ((if a1 = 0 then 1 else 0) : Int32) = 0 then 119 else 100) then ((-2)) else (if a0 = (if ((if a1 = 0 then 1 else 0) : Int32) = 0 then 97 else 104) then ((-3)) else (0)))
theorem tb_X8_nameOf_0 {st : xT} {d : Nat} {R : Option Value → qx_H → Prop} (hd : 0 ≤ d) {r : Int32} {H : qx_H} (hR : R (some (.int r)) H) (a0 : Int32) (a1 : Int32) (h : fm_X8_nameOf a0 a1 = r) : qx_V (xE st d) R (xc72 st) (0, [some (.int a0), some (.int a1), none], [], H) := by
  unfold fm_X8_nameOf at h
  refine qv_dia (c := a1 = 0) (a := (4, [some (.int a0), some (.int a1), none], [], H)) (b := (8, [some (.int a0), some (.int a1), none], [], H)) (σ' := (9, [some (.int a0), some (.int a1), none], [.int (if a1 = 0 then 1 else 0)], H)) 2 rfl ?_ (fun c1 kk => qv_run 2 (σ := (9, [some (.int a0), some (.int a1), none], [.int 1], H)) rfl (qv_eq (by simp only [if_pos c1]) kk)) (fun c1 kk => qv_run 1 (σ := (9, [some (.int a0), some (.int a1), none], [.int 0], H)) rfl (qv_eq (by simp only [if_neg c1]) kk))
  refine qv_dia (c := ((if a1 = 0 then 1 else 0) : Int32) = 0) (a := (20, [some (.int a0), some (.int a1), some (.int (if a1 = 0 then 1 else 0))], [.int a0], H)) (b := (15, [some (.int a0), some (.int a1), some (.int (if a1 = 0 then 1 else 0))], [.int a0], H)) (σ' := (22, [some (.int a0), some (.int a1), some (.int (if a1 = 0 then 1 else 0))], [.int (if ((if a1 = 0 then 1 else 0) : Int32) = 0 then 116 else 109), .int a0], H)) 4 rfl ?_ (fun c12 kk => qv_run 1 (σ := (22, [some (.int a0), some (.int a1), some (.int (if a1 = 0 then 1 else 0))], [.int 116, .int a0], H)) rfl (qv_eq (by simp only [if_pos c12]) kk)) (fun c12 kk => qv_run 2 (σ := (22, [some (.int a0), some (.int a1), some (.int (if a1 = 0 then 1 else 0))], [.int 109, .int a0], H)) rfl (qv_eq (by simp only [if_neg c12]) kk))
  refine qv_br (c := a0 = (if ((if a1 = 0 then 1 else 0) : Int32) = 0 then 116 else 109)) (a := (25, [some (.int a0), some (.int a1), some (.int (if a1 = 0 then 1 else 0))], [], H)) (b := (27, [some (.int a0), some (.int a1), some (.int (if a1 = 0 then 1 else 0))], [], H)) 1 rfl (fun c22 => ?_) (fun c22 => ?_)
  · replace h := qv_pos c22 h
    refine qv_run 1 (σ := (26, [some (.int a0), some (.int a1), some (.int (if a1 = 0 then 1 else 0))], [.int (-1)], H)) rfl ?_
    subst h
    exact qv_reti rfl hR
  · replace h := qv_neg c22 h
    refine qv_dia (c := ((if a1 = 0 then 1 else 0) : Int32) = 0) (a := (37, [some (.int a0), some (.int a1), some (.int (if a1 = 0 then 1 else 0))], [.int a0], H)) (b := (32, [some (.int a0), some (.int a1), some (.int (if a1 = 0 then 1 else 0))], [.int a0], H)) (σ' := (39, [some (.int a0), some (.int a1), some (.int (if a1 = 0 then 1 else 0))], [.int (if ((if a1 = 0 then 1 else 0) : Int32) = 0 then 119 else 100), .int a0], H)) 3 rfl ?_ (fun c29 kk => qv_run 1 (σ := (39, [some (.int a0), some (.int a1), some (.int (if a1 = 0 then 1 else 0))], [.int 119, .int a0], H)) rfl (qv_eq (by simp only [if_pos c29]) kk)) (fun c29 kk => qv_run 2 (σ := (39, [some (.int a0), some (.int a1), some (.int (if a1 = 0 then 1 else 0))], [.int 100, .int a0], H)) rfl (qv_eq (by simp only [if_neg c29]) kk))
    refine qv_br (c := a0 = (if ((if a1 = 0 then 1 else 0) : Int32) = 0 then 119 else 100)) (a := (42, [some (.int a0), some (.int a1), some (.int (if a1 = 0 then 1 else 0))], [], H)) (b := (45, [some (.int a0), some (.int a1), some (.int (if a1 = 0 then 1 else 0))], [], H)) 1 rfl (fun c39 => ?_) (fun c39 => ?_)
    · replace h := qv_pos c39 h
      refine qv_run 1 (σ := (44, [some (.int a0), some (.int a1), some (.int (if a1 = 0 then 1 else 0))], [.int (-2)], H)) rfl ?_
      subst h
      exact qv_reti rfl hR
    · replace h := qv_neg c39 h
      refine qv_dia (c := ((if a1 = 0 then 1 else 0) : Int32) = 0) (a := (55, [some (.int a0), some (.int a1), some (.int (if a1 = 0 then 1 else 0))], [.int a0], H)) (b := (50, [some (.int a0), some (.int a1), some (.int (if a1 = 0 then 1 else 0))], [.int a0], H)) (σ' := (57, [some (.int a0), some (.int a1), some (.int (if a1 = 0 then 1 else 0))], [.int (if ((if a1 = 0 then 1 else 0) : Int32) = 0 then 97 else 104), .int a0], H)) 3 rfl ?_ (fun c47 kk => qv_run 1 (σ := (57, [some (.int a0), some (.int a1), some (.int (if a1 = 0 then 1 else 0))], [.int 97, .int a0], H)) rfl (qv_eq (by simp only [if_pos c47]) kk)) (fun c47 kk => qv_run 2 (σ := (57, [some (.int a0), some (.int a1), some (.int (if a1 = 0 then 1 else 0))], [.int 104, .int a0], H)) rfl (qv_eq (by simp only [if_neg c47]) kk))
      refine qv_br (c := a0 = (if ((if a1 = 0 then 1 else 0) : Int32) = 0 then 97 else 104)) (a := (60, [some (.int a0), some (.int a1), some (.int (if a1 = 0 then 1 else 0))], [], H)) (b := (65, [some (.int a0), some (.int a1), some (.int (if a1 = 0 then 1 else 0))], [], H)) 1 rfl (fun c57 => ?_) (fun c57 => ?_)
      · replace h := qv_pos c57 h
        refine qv_run 2 (σ := (66, [some (.int a0), some (.int a1), some (.int (if a1 = 0 then 1 else 0))], [.int (-3)], H)) rfl ?_
        subst h
        exact qv_reti rfl hR
      · replace h := qv_neg c57 h
        refine qv_run 1 (σ := (66, [some (.int a0), some (.int a1), some (.int (if a1 = 0 then 1 else 0))], [.int 0], H)) rfl ?_
        subst h
        exact qv_reti rfl hR
theorem th_X8_nameOf {st : xT} {d : Nat} (hd : 1 ≤ d) {a0 : Int32} {a1 : Int32} {r : Int32} {H : qx_H} (h : fm_X8_nameOf a0 a1 = r) : xE st d 72 [.int a0, .int a1] H (some (.int r)) H := by
  obtain ⟨d, rfl⟩ : ∃ d', d = d' + 1 := ⟨d - 1, by omega⟩
  exact xE_of (xe72 st) xl72 (Nat.le_of_ble_eq_true rfl) (ls := [some (.int a0), some (.int a1), none]) rfl (tb_X8_nameOf_0 (by omega) ⟨rfl, rfl⟩ a0 a1 h)
def fm_X8_isDigit (a0 : Int32) : Int32 := if a0 < 48 then (0) else (if 57 < a0 then (0) else (1))
theorem tb_X8_isDigit_0 {st : xT} {d : Nat} {R : Option Value → qx_H → Prop} (hd : 0 ≤ d) {r : Int32} {H : qx_H} (hR : R (some (.int r)) H) (a0 : Int32) (h : fm_X8_isDigit a0 = r) : qx_V (xE st d) R (xc70 st) (0, [some (.int a0)], [], H) := by
  unfold fm_X8_isDigit at h
  refine qv_br (c := a0 < 48) (a := (16, [some (.int a0)], [], H)) (b := (6, [some (.int a0)], [], H)) 3 rfl (fun c3 => ?_) (fun c3 => ?_)
  · replace h := qv_pos c3 h
    refine qv_run 1 (σ := (17, [some (.int a0)], [.int 0], H)) rfl ?_
    subst h
    exact qv_retz rfl (Or.inl rfl) hR
  · replace h := qv_neg c3 h
    refine qv_br (c := 57 < a0) (a := (16, [some (.int a0)], [], H)) (b := (12, [some (.int a0)], [], H)) 3 rfl (fun c9 => ?_) (fun c9 => ?_)
    · replace h := qv_pos c9 h
      refine qv_run 1 (σ := (17, [some (.int a0)], [.int 0], H)) rfl ?_
      subst h
      exact qv_retz rfl (Or.inl rfl) hR
    · replace h := qv_neg c9 h
      refine qv_run 2 (σ := (17, [some (.int a0)], [.int 1], H)) rfl ?_
      subst h
      exact qv_retz rfl (Or.inr rfl) hR
theorem tzb_X8_isDigit_0 {r : Int32} (a0 : Int32) (h : fm_X8_isDigit a0 = r) : r = 0 ∨ r = 1 := by
  unfold fm_X8_isDigit at h
  by_cases c3 : a0 < 48
  · replace h := qv_pos c3 h
    subst h
    exact Or.inl rfl
  · replace h := qv_neg c3 h
    by_cases c9 : 57 < a0
    · replace h := qv_pos c9 h
      subst h
      exact Or.inl rfl
    · replace h := qv_neg c9 h
      subst h
      exact Or.inr rfl
theorem th_X8_isDigit {st : xT} {d : Nat} (hd : 1 ≤ d) {a0 : Int32} {r : Int32} {H : qx_H} (h : fm_X8_isDigit a0 = r) : xE st d 70 [.int a0] H (some (.int r)) H := by
  obtain ⟨d, rfl⟩ : ∃ d', d = d' + 1 := ⟨d - 1, by omega⟩
  exact xE_of (xe70 st) xl70 (Nat.le_of_ble_eq_true rfl) (ls := [some (.int a0)]) rfl (tb_X8_isDigit_0 (by omega) ⟨rfl, rfl⟩ a0 h)
theorem tz_X8_isDigit {a0 : Int32} {r : Int32} (h : fm_X8_isDigit a0 = r) : r = 0 ∨ r = 1 := tzb_X8_isDigit_0 a0 h
theorem fz_X8_isDigit {a0 : Int32} : fm_X8_isDigit a0 = 0 ∨ fm_X8_isDigit a0 = 1 := tz_X8_isDigit rfl
def fm_X8_endValue_b5 : Nat → Nat → qx_H → Option qx_H
  | 0, _, _ => none
  | n + 1, l0, H => (hp_gI H l0 6 2).bind fun v6 => if v6 ≤ 0 then (some H) else ((hp_gR H l0 6 1).bind fun v13 => (hp_gI H l0 6 2).bind fun v17 => (hp_ald H v13 (v17 - 1)).bind fun v22 => if v22 = 33 then ((hp_gI H l0 6 2).bind fun v30 => (hp_put H l0 6 2 (.int (v30 - 1))).bind fun H35 => (hp_gI H35 l0 6 3).bind fun v40 => (hp_put H35 l0 6 3 (.int (v40 - 1))).bind fun H45 => (hp_gR H45 l0 6 0).bind fun v49 => if hp_is H45 v49 1 = true then ((fm_X3_add v49 (-33) H45).bind fun H54 => fm_X8_endValue_b5 n l0 H54) else none) else (some H))
def fm_X8_endValue (a0 : Nat) (H : qx_H) : Option qx_H := (hp_put H a0 6 4 (.int 0)).bind fun H2 => fm_X8_endValue_b5 5000 a0 H2
theorem tb_X8_endValue_5 {st : xT} {d : Nat} {R : Option Value → qx_H → Prop} (hd : 1 ≤ d) {H' : qx_H} (hR : R (none) H') : ∀ (n : Nat) (l0 : Nat) (H : qx_H) (h : fm_X8_endValue_b5 n l0 H = some H'), qx_V (xE st d) R (xc68 st) (5, [some (.ref l0)], [], H) := by
  intro n
  induction n with
  | zero => intro l0 H h; exact nomatch (show (none : Option qx_H) = some H' from h)
  | succ n ih =>
    intro l0 H h
    unfold fm_X8_endValue_b5 at h
    refine qv_run 1 (σ := (6, [some (.ref l0)], [.ref l0], H)) rfl ?_
    obtain ⟨v6, e6, h⟩ := qv_bind h
    refine qv_getI rfl e6 ?_
    refine qv_br (c := v6 ≤ 0) (a := (60, [some (.ref l0)], [], H)) (b := (12, [some (.ref l0)], [], H)) 1 rfl (fun c9 => ?_) (fun c9 => ?_)
    · replace h := qv_pos c9 h
      cases h
      exact qv_ret0 rfl hR
    · replace h := qv_neg c9 h
      refine qv_run 1 (σ := (13, [some (.ref l0)], [.ref l0], H)) rfl ?_
      obtain ⟨v13, e13, h⟩ := qv_bind h
      refine qv_getR rfl e13 ?_
      refine qv_run 1 (σ := (17, [some (.ref l0)], [.ref l0, .ref v13], H)) rfl ?_
      obtain ⟨v17, e17, h⟩ := qv_bind h
      refine qv_getI rfl e17 ?_
      refine qv_run 2 (σ := (22, [some (.ref l0)], [.int (v17 - 1), .ref v13], H)) rfl ?_
      obtain ⟨v22, e22, h⟩ := qv_bind h
      refine qv_ald rfl e22 ?_
      refine qv_br (c := v22 = 33) (a := (28, [some (.ref l0)], [], H)) (b := (60, [some (.ref l0)], [], H)) 2 rfl (fun c25 => ?_) (fun c25 => ?_)
      · replace h := qv_pos c25 h
        refine qv_run 2 (σ := (30, [some (.ref l0)], [.ref l0, .ref l0], H)) rfl ?_
        obtain ⟨v30, e30, h⟩ := qv_bind h
        refine qv_getI rfl e30 ?_
        refine qv_run 2 (σ := (35, [some (.ref l0)], [.int (v30 - 1), .ref l0], H)) rfl ?_
        obtain ⟨H35, e35, h⟩ := qv_bind h
        refine qv_putI rfl e35 ?_
        refine qv_run 2 (σ := (40, [some (.ref l0)], [.ref l0, .ref l0], H35)) rfl ?_
        obtain ⟨v40, e40, h⟩ := qv_bind h
        refine qv_getI rfl e40 ?_
        refine qv_run 2 (σ := (45, [some (.ref l0)], [.int (v40 - 1), .ref l0], H35)) rfl ?_
        obtain ⟨H45, e45, h⟩ := qv_bind h
        refine qv_putI rfl e45 ?_
        refine qv_run 1 (σ := (49, [some (.ref l0)], [.ref l0], H45)) rfl ?_
        obtain ⟨v49, e49, h⟩ := qv_bind h
        refine qv_getR rfl e49 ?_
        refine qv_run 1 (σ := (54, [some (.ref l0)], [.int (-33), .ref v49], H45)) rfl ?_
        obtain ⟨g54, h⟩ := qv_guard h
        obtain ⟨H54, e54, h⟩ := qv_bind h
        refine qv_callV [.int (-33)] rfl rfl rfl (Nat.le_of_ble_eq_true rfl) g54 (th_X3_add (by omega) e54) (tl_X3_add e54) ?_
        refine qv_run 1 (σ := (5, [some (.ref l0)], [], H54)) rfl ?_
        exact ih l0 H54 h
      · replace h := qv_neg c25 h
        cases h
        exact qv_ret0 rfl hR
theorem tlb_X8_endValue_5 {H' : qx_H} : ∀ (n : Nat) (l0 : Nat) (H : qx_H) (h : fm_X8_endValue_b5 n l0 H = some H'), H'.length = H.length := by
  intro n
  induction n with
  | zero => intro l0 H h; exact nomatch (show (none : Option qx_H) = some H' from h)
  | succ n ih =>
    intro l0 H h
    unfold fm_X8_endValue_b5 at h
    obtain ⟨v6, e6, h⟩ := qv_bind h
    by_cases c9 : v6 ≤ 0
    · replace h := qv_pos c9 h
      cases h
      rfl
    · replace h := qv_neg c9 h
      obtain ⟨v13, e13, h⟩ := qv_bind h
      obtain ⟨v17, e17, h⟩ := qv_bind h
      obtain ⟨v22, e22, h⟩ := qv_bind h
      by_cases c25 : v22 = 33
      · replace h := qv_pos c25 h
        obtain ⟨v30, e30, h⟩ := qv_bind h
        obtain ⟨H35, e35, h⟩ := qv_bind h
        have q_H35 := hp_put_len e35
        obtain ⟨v40, e40, h⟩ := qv_bind h
        obtain ⟨H45, e45, h⟩ := qv_bind h
        have q_H45 := hp_put_len e45
        obtain ⟨v49, e49, h⟩ := qv_bind h
        obtain ⟨g54, h⟩ := qv_guard h
        obtain ⟨H54, e54, h⟩ := qv_bind h
        have q_H54 := tl_X3_add e54
        have q_end := ih l0 H54 h
        omega
      · replace h := qv_neg c25 h
        cases h
        rfl
theorem tb_X8_endValue_0 {st : xT} {d : Nat} {R : Option Value → qx_H → Prop} (hd : 1 ≤ d) {H' : qx_H} (hR : R (none) H') (a0 : Nat) (H : qx_H) (h : fm_X8_endValue a0 H = some H') : qx_V (xE st d) R (xc68 st) (0, [some (.ref a0)], [], H) := by
  unfold fm_X8_endValue at h
  refine qv_run 2 (σ := (2, [some (.ref a0)], [.int 0, .ref a0], H)) rfl ?_
  obtain ⟨H2, e2, h⟩ := qv_bind h
  refine qv_putZ rfl (Or.inl rfl) e2 ?_
  exact tb_X8_endValue_5 hd hR 5000 a0 H2 h
theorem tlb_X8_endValue_0 {H' : qx_H} (a0 : Nat) (H : qx_H) (h : fm_X8_endValue a0 H = some H') : H'.length = H.length := by
  unfold fm_X8_endValue at h
  obtain ⟨H2, e2, h⟩ := qv_bind h
  have q_H2 := hp_put_len e2
  have q_end := tlb_X8_endValue_5 5000 a0 H2 h
  omega
theorem th_X8_endValue {st : xT} {d : Nat} (hd : 2 ≤ d) {a0 : Nat} {H : qx_H} {H' : qx_H} (h : fm_X8_endValue a0 H = some H') : xE st d 68 [.ref a0] H (none) H' := by
  obtain ⟨d, rfl⟩ : ∃ d', d = d' + 1 := ⟨d - 1, by omega⟩
  exact xE_of (xe68 st) xl68 (Nat.le_of_ble_eq_true rfl) (ls := [some (.ref a0)]) rfl (tb_X8_endValue_0 (by omega) ⟨rfl, rfl⟩ a0 H h)
theorem tl_X8_endValue {a0 : Nat} {H : qx_H} {H' : qx_H} (h : fm_X8_endValue a0 H = some H') : H'.length = H.length := tlb_X8_endValue_0 a0 H h
def fm_X8_takeValue_b19 (l0 : Nat) (l5 : Int32) (H : qx_H) : Option (Int32 × qx_H) := (hp_gI H l0 6 3).bind fun v20 => if v20 < 5 then ((hp_gI H l0 6 3).bind fun v31 => (hp_put H l0 6 3 (.int (v31 + 1))).bind fun H36 => if hp_is H36 l0 6 = true then ((fm_X8_push l0 l5 H36).bind fun H42 => some (1, H42)) else none) else (some (0, H))
def fm_X8_takeValue_b116 (l0 : Nat) (l6 : Int32) (l7 : Int32) (H : qx_H) : Option (Int32 × qx_H) := if l6 ≤ 0 then (some (l6, H)) else ((hp_gR H l0 6 0).bind fun v122 => if hp_is H v122 1 = true then ((fm_X3_add v122 l7 H).bind fun H127 => if hp_is H127 l0 6 = true then ((fm_X8_endValue l0 H127).bind fun H131 => some (l6, H131)) else none) else none)
def fm_X8_takeValue_b67 : Nat → Nat → Nat → Int32 → Int32 → Int32 → Int32 → qx_H → Option (Int32 × qx_H)
  | 0, _, _, _, _, _, _, _ => none
  | n + 1, l0, l1, l2, l3, l6, l7, H => if 4 ≤ l6 then (fm_X8_takeValue_b116 l0 l6 l7 H) else (if l2 ≤ (l3 + l6) then (fm_X8_takeValue_b116 l0 l6 l7 H) else ((hp_ald H l1 (l3 + l6)).bind fun v86 => if (fm_X8_isDigit v86) = 0 then (fm_X8_takeValue_b116 l0 l6 l7 H) else ((hp_ald H l1 (l3 + l6)).bind fun v103 => fm_X8_takeValue_b67 n l0 l1 l2 l3 (l6 + 1) (((10 * l7) + v103) - 48) H)))
def fm_X8_takeValue (a0 : Nat) (a1 : Nat) (a2 : Int32) (a3 : Int32) (a4 : Int32) (H : qx_H) : Option (Int32 × qx_H) := (hp_ald H a1 a3).bind fun v2 => if v2 = 33 then (fm_X8_takeValue_b19 a0 v2 H) else (if v2 = 40 then (fm_X8_takeValue_b19 a0 v2 H) else (if (fm_X8_nameOf v2 a4) = 0 then (fm_X8_takeValue_b67 5000 a0 a1 a2 a3 0 (fm_X8_nameOf v2 a4) H) else (fm_X8_takeValue_b116 a0 1 (fm_X8_nameOf v2 a4) H)))
theorem tb_X8_takeValue_19 {st : xT} {d : Nat} {R : Option Value → qx_H → Prop} (hd : 2 ≤ d) {r : Int32} {H' : qx_H} (hR : R (some (.int r)) H') (l0 : Nat) (l5 : Int32) (z1 : Option Value) (hz1 : qx_ns z1 = true) (z2 : Option Value) (hz2 : qx_ns z2 = true) (z3 : Option Value) (hz3 : qx_ns z3 = true) (z4 : Option Value) (hz4 : qx_ns z4 = true) (H : qx_H) (h : fm_X8_takeValue_b19 l0 l5 H = some (r, H')) : qx_V (xE st d) R (xc65 st) (19, [some (.ref l0), z1, z2, z3, z4, some (.int l5), none, none], [], H) := by
  unfold fm_X8_takeValue_b19 at h
  refine qv_run 1 (σ := (20, [some (.ref l0), z1, z2, z3, z4, some (.int l5), none, none], [.ref l0], H)) rfl ?_
  obtain ⟨v20, e20, h⟩ := qv_bind h
  refine qv_getI rfl e20 ?_
  refine qv_br (c := v20 < 5) (a := (29, [some (.ref l0), z1, z2, z3, z4, some (.int l5), none, none], [], H)) (b := (27, [some (.ref l0), z1, z2, z3, z4, some (.int l5), none, none], [], H)) 2 rfl (fun c24 => ?_) (fun c24 => ?_)
  · replace h := qv_pos c24 h
    refine qv_run 2 (σ := (31, [some (.ref l0), z1, z2, z3, z4, some (.int l5), none, none], [.ref l0, .ref l0], H)) rfl ?_
    obtain ⟨v31, e31, h⟩ := qv_bind h
    refine qv_getI rfl e31 ?_
    refine qv_run 2 (σ := (36, [some (.ref l0), z1, z2, z3, z4, some (.int l5), none, none], [.int (v31 + 1), .ref l0], H)) rfl ?_
    obtain ⟨H36, e36, h⟩ := qv_bind h
    refine qv_putI rfl e36 ?_
    refine qv_run 2 (σ := (42, [some (.ref l0), z1, z2, z3, z4, some (.int l5), none, none], [.int l5, .ref l0], H36)) rfl ?_
    obtain ⟨g42, h⟩ := qv_guard h
    obtain ⟨H42, e42, h⟩ := qv_bind h
    refine qv_callV [.int l5] rfl rfl rfl (Nat.le_of_ble_eq_true rfl) g42 (th_X8_push (by omega) e42) (tl_X8_push e42) ?_
    refine qv_run 1 (σ := (46, [some (.ref l0), z1, z2, z3, z4, some (.int l5), none, none], [.int 1], H42)) rfl ?_
    obtain ⟨rfl, rfl⟩ := qv_pair h
    exact qv_reti rfl hR
  · replace h := qv_neg c24 h
    refine qv_run 1 (σ := (28, [some (.ref l0), z1, z2, z3, z4, some (.int l5), none, none], [.int 0], H)) rfl ?_
    obtain ⟨rfl, rfl⟩ := qv_pair h
    exact qv_reti rfl hR
theorem tlb_X8_takeValue_19 {r : Int32} {H' : qx_H} (l0 : Nat) (l5 : Int32) (H : qx_H) (h : fm_X8_takeValue_b19 l0 l5 H = some (r, H')) : H'.length = H.length := by
  unfold fm_X8_takeValue_b19 at h
  obtain ⟨v20, e20, h⟩ := qv_bind h
  by_cases c24 : v20 < 5
  · replace h := qv_pos c24 h
    obtain ⟨v31, e31, h⟩ := qv_bind h
    obtain ⟨H36, e36, h⟩ := qv_bind h
    have q_H36 := hp_put_len e36
    obtain ⟨g42, h⟩ := qv_guard h
    obtain ⟨H42, e42, h⟩ := qv_bind h
    have q_H42 := tl_X8_push e42
    obtain ⟨rfl, rfl⟩ := qv_pair h
    omega
  · replace h := qv_neg c24 h
    obtain ⟨rfl, rfl⟩ := qv_pair h
    rfl
theorem tb_X8_takeValue_116 {st : xT} {d : Nat} {R : Option Value → qx_H → Prop} (hd : 2 ≤ d) {r : Int32} {H' : qx_H} (hR : R (some (.int r)) H') (l0 : Nat) (l6 : Int32) (l7 : Int32) (z1 : Option Value) (hz1 : qx_ns z1 = true) (z2 : Option Value) (hz2 : qx_ns z2 = true) (z3 : Option Value) (hz3 : qx_ns z3 = true) (z4 : Option Value) (hz4 : qx_ns z4 = true) (z5 : Option Value) (hz5 : qx_ns z5 = true) (H : qx_H) (h : fm_X8_takeValue_b116 l0 l6 l7 H = some (r, H')) : qx_V (xE st d) R (xc65 st) (116, [some (.ref l0), z1, z2, z3, z4, z5, some (.int l6), some (.int l7)], [], H) := by
  unfold fm_X8_takeValue_b116 at h
  refine qv_br (c := l6 ≤ 0) (a := (134, [some (.ref l0), z1, z2, z3, z4, z5, some (.int l6), some (.int l7)], [], H)) (b := (121, [some (.ref l0), z1, z2, z3, z4, z5, some (.int l6), some (.int l7)], [], H)) 2 rfl (fun c118 => ?_) (fun c118 => ?_)
  · replace h := qv_pos c118 h
    refine qv_run 1 (σ := (136, [some (.ref l0), z1, z2, z3, z4, z5, some (.int l6), some (.int l7)], [.int l6], H)) rfl ?_
    obtain ⟨rfl, rfl⟩ := qv_pair h
    exact qv_reti rfl hR
  · replace h := qv_neg c118 h
    refine qv_run 1 (σ := (122, [some (.ref l0), z1, z2, z3, z4, z5, some (.int l6), some (.int l7)], [.ref l0], H)) rfl ?_
    obtain ⟨v122, e122, h⟩ := qv_bind h
    refine qv_getR rfl e122 ?_
    refine qv_run 1 (σ := (127, [some (.ref l0), z1, z2, z3, z4, z5, some (.int l6), some (.int l7)], [.int l7, .ref v122], H)) rfl ?_
    obtain ⟨g127, h⟩ := qv_guard h
    obtain ⟨H127, e127, h⟩ := qv_bind h
    refine qv_callV [.int l7] rfl rfl rfl (Nat.le_of_ble_eq_true rfl) g127 (th_X3_add (by omega) e127) (tl_X3_add e127) ?_
    refine qv_run 1 (σ := (131, [some (.ref l0), z1, z2, z3, z4, z5, some (.int l6), some (.int l7)], [.ref l0], H127)) rfl ?_
    obtain ⟨g131, h⟩ := qv_guard h
    obtain ⟨H131, e131, h⟩ := qv_bind h
    refine qv_callV [] rfl rfl rfl (Nat.le_of_ble_eq_true rfl) g131 (th_X8_endValue (by omega) e131) (tl_X8_endValue e131) ?_
    refine qv_run 1 (σ := (136, [some (.ref l0), z1, z2, z3, z4, z5, some (.int l6), some (.int l7)], [.int l6], H131)) rfl ?_
    obtain ⟨rfl, rfl⟩ := qv_pair h
    exact qv_reti rfl hR
theorem tlb_X8_takeValue_116 {r : Int32} {H' : qx_H} (l0 : Nat) (l6 : Int32) (l7 : Int32) (H : qx_H) (h : fm_X8_takeValue_b116 l0 l6 l7 H = some (r, H')) : H'.length = H.length := by
  unfold fm_X8_takeValue_b116 at h
  by_cases c118 : l6 ≤ 0
  · replace h := qv_pos c118 h
    obtain ⟨rfl, rfl⟩ := qv_pair h
    rfl
  · replace h := qv_neg c118 h
    obtain ⟨v122, e122, h⟩ := qv_bind h
    obtain ⟨g127, h⟩ := qv_guard h
    obtain ⟨H127, e127, h⟩ := qv_bind h
    have q_H127 := tl_X3_add e127
    obtain ⟨g131, h⟩ := qv_guard h
    obtain ⟨H131, e131, h⟩ := qv_bind h
    have q_H131 := tl_X8_endValue e131
    obtain ⟨rfl, rfl⟩ := qv_pair h
    omega
theorem tb_X8_takeValue_67 {st : xT} {d : Nat} {R : Option Value → qx_H → Prop} (hd : 2 ≤ d) {r : Int32} {H' : qx_H} (hR : R (some (.int r)) H') : ∀ (n : Nat) (l0 : Nat) (l1 : Nat) (l2 : Int32) (l3 : Int32) (l6 : Int32) (l7 : Int32) (z4 : Option Value) (hz4 : qx_ns z4 = true) (z5 : Option Value) (hz5 : qx_ns z5 = true) (H : qx_H) (h : fm_X8_takeValue_b67 n l0 l1 l2 l3 l6 l7 H = some (r, H')), qx_V (xE st d) R (xc65 st) (67, [some (.ref l0), some (.ref l1), some (.int l2), some (.int l3), z4, z5, some (.int l6), some (.int l7)], [], H) := by
  intro n
  induction n with
  | zero => intro l0 l1 l2 l3 l6 l7 z4 hz4 z5 hz5 H h; exact nomatch (show (none : Option (Int32 × qx_H)) = some (r, H') from h)
  | succ n ih =>
    intro l0 l1 l2 l3 l6 l7 z4 hz4 z5 hz5 H h
    unfold fm_X8_takeValue_b67 at h
    refine qv_br (c := 4 ≤ l6) (a := (116, [some (.ref l0), some (.ref l1), some (.int l2), some (.int l3), z4, z5, some (.int l6), some (.int l7)], [], H)) (b := (73, [some (.ref l0), some (.ref l1), some (.int l2), some (.int l3), z4, z5, some (.int l6), some (.int l7)], [], H)) 3 rfl (fun c70 => ?_) (fun c70 => ?_)
    · replace h := qv_pos c70 h
      exact tb_X8_takeValue_116 hd hR l0 l6 l7 (some (.ref l1)) rfl (some (.int l2)) rfl (some (.int l3)) rfl z4 hz4 z5 hz5 H h
    · replace h := qv_neg c70 h
      refine qv_br (c := l2 ≤ (l3 + l6)) (a := (116, [some (.ref l0), some (.ref l1), some (.int l2), some (.int l3), z4, z5, some (.int l6), some (.int l7)], [], H)) (b := (81, [some (.ref l0), some (.ref l1), some (.int l2), some (.int l3), z4, z5, some (.int l6), some (.int l7)], [], H)) 5 rfl (fun c78 => ?_) (fun c78 => ?_)
      · replace h := qv_pos c78 h
        exact tb_X8_takeValue_116 hd hR l0 l6 l7 (some (.ref l1)) rfl (some (.int l2)) rfl (some (.int l3)) rfl z4 hz4 z5 hz5 H h
      · replace h := qv_neg c78 h
        refine qv_run 4 (σ := (86, [some (.ref l0), some (.ref l1), some (.int l2), some (.int l3), z4, z5, some (.int l6), some (.int l7)], [.int (l3 + l6), .ref l1], H)) rfl ?_
        obtain ⟨v86, e86, h⟩ := qv_bind h
        refine qv_ald rfl e86 ?_
        refine qv_call [.int v86] rfl rfl rfl (Nat.le_of_ble_eq_true rfl) (th_X8_isDigit (by omega) rfl) rfl ?_
        refine qv_br (c := (fm_X8_isDigit v86) = 0) (a := (116, [some (.ref l0), some (.ref l1), some (.int l2), some (.int l3), z4, z5, some (.int l6), some (.int l7)], [], H)) (b := (93, [some (.ref l0), some (.ref l1), some (.int l2), some (.int l3), z4, z5, some (.int l6), some (.int l7)], [], H)) 1 rfl (fun c90 => ?_) (fun c90 => ?_)
        · replace h := qv_pos c90 h
          exact tb_X8_takeValue_116 hd hR l0 l6 l7 (some (.ref l1)) rfl (some (.int l2)) rfl (some (.int l3)) rfl z4 hz4 z5 hz5 H h
        · replace h := qv_neg c90 h
          refine qv_run 7 (σ := (103, [some (.ref l0), some (.ref l1), some (.int l2), some (.int l3), z4, z5, some (.int l6), some (.int l7)], [.int (l3 + l6), .ref l1, .int (10 * l7)], H)) rfl ?_
          obtain ⟨v103, e103, h⟩ := qv_bind h
          refine qv_ald rfl e103 ?_
          refine qv_run 4 (σ := (110, [some (.ref l0), some (.ref l1), some (.int l2), some (.int l3), z4, z5, some (.int l6), some (.int (((10 * l7) + v103) - 48))], [], H)) rfl ?_
          refine qv_incN (ls' := [some (.ref l0), some (.ref l1), some (.int l2), some (.int l3), z4, z5, some (.int (l6 + 1)), some (.int (((10 * l7) + v103) - 48))]) rfl rfl (qx_kl_ns rfl hz5) rfl ?_
          refine qv_run 1 (σ := (67, [some (.ref l0), some (.ref l1), some (.int l2), some (.int l3), z4, z5, some (.int (l6 + 1)), some (.int (((10 * l7) + v103) - 48))], [], H)) rfl ?_
          exact ih l0 l1 l2 l3 (l6 + 1) (((10 * l7) + v103) - 48) z4 hz4 z5 hz5 H h
theorem tlb_X8_takeValue_67 {r : Int32} {H' : qx_H} : ∀ (n : Nat) (l0 : Nat) (l1 : Nat) (l2 : Int32) (l3 : Int32) (l6 : Int32) (l7 : Int32) (H : qx_H) (h : fm_X8_takeValue_b67 n l0 l1 l2 l3 l6 l7 H = some (r, H')), H'.length = H.length := by
  intro n
  induction n with
  | zero => intro l0 l1 l2 l3 l6 l7 H h; exact nomatch (show (none : Option (Int32 × qx_H)) = some (r, H') from h)
  | succ n ih =>
    intro l0 l1 l2 l3 l6 l7 H h
    unfold fm_X8_takeValue_b67 at h
    by_cases c70 : 4 ≤ l6
    · replace h := qv_pos c70 h
      exact tlb_X8_takeValue_116 l0 l6 l7 H h
    · replace h := qv_neg c70 h
      by_cases c78 : l2 ≤ (l3 + l6)
      · replace h := qv_pos c78 h
        exact tlb_X8_takeValue_116 l0 l6 l7 H h
      · replace h := qv_neg c78 h
        obtain ⟨v86, e86, h⟩ := qv_bind h
        by_cases c90 : (fm_X8_isDigit v86) = 0
        · replace h := qv_pos c90 h
          exact tlb_X8_takeValue_116 l0 l6 l7 H h
        · replace h := qv_neg c90 h
          obtain ⟨v103, e103, h⟩ := qv_bind h
          exact ih l0 l1 l2 l3 (l6 + 1) (((10 * l7) + v103) - 48) H h
theorem tb_X8_takeValue_0 {st : xT} {d : Nat} {R : Option Value → qx_H → Prop} (hd : 2 ≤ d) {r : Int32} {H' : qx_H} (hR : R (some (.int r)) H') (a0 : Nat) (a1 : Nat) (a2 : Int32) (a3 : Int32) (a4 : Int32) (H : qx_H) (h : fm_X8_takeValue a0 a1 a2 a3 a4 H = some (r, H')) : qx_V (xE st d) R (xc65 st) (0, [some (.ref a0), some (.ref a1), some (.int a2), some (.int a3), some (.int a4), none, none, none], [], H) := by
  unfold fm_X8_takeValue at h
  refine qv_run 2 (σ := (2, [some (.ref a0), some (.ref a1), some (.int a2), some (.int a3), some (.int a4), none, none, none], [.int a3, .ref a1], H)) rfl ?_
  obtain ⟨v2, e2, h⟩ := qv_bind h
  refine qv_ald rfl e2 ?_
  refine qv_br (c := v2 = 33) (a := (19, [some (.ref a0), some (.ref a1), some (.int a2), some (.int a3), some (.int a4), some (.int v2), none, none], [], H)) (b := (12, [some (.ref a0), some (.ref a1), some (.int a2), some (.int a3), some (.int a4), some (.int v2), none, none], [], H)) 4 rfl (fun c9 => ?_) (fun c9 => ?_)
  · replace h := qv_pos c9 h
    exact tb_X8_takeValue_19 hd hR a0 v2 (some (.ref a1)) rfl (some (.int a2)) rfl (some (.int a3)) rfl (some (.int a4)) rfl H h
  · replace h := qv_neg c9 h
    refine qv_br (c := v2 = 40) (a := (19, [some (.ref a0), some (.ref a1), some (.int a2), some (.int a3), some (.int a4), some (.int v2), none, none], [], H)) (b := (47, [some (.ref a0), some (.ref a1), some (.int a2), some (.int a3), some (.int a4), some (.int v2), none, none], [], H)) 3 rfl (fun c16 => ?_) (fun c16 => ?_)
    · replace h := qv_pos c16 h
      exact tb_X8_takeValue_19 hd hR a0 v2 (some (.ref a1)) rfl (some (.int a2)) rfl (some (.int a3)) rfl (some (.int a4)) rfl H h
    · replace h := qv_neg c16 h
      refine qv_run 4 (σ := (54, [some (.ref a0), some (.ref a1), some (.int a2), some (.int a3), some (.int a4), some (.int v2), some (.int 1), none], [.int a4, .int v2], H)) rfl ?_
      refine qv_call [.int v2, .int a4] rfl rfl rfl (Nat.le_of_ble_eq_true rfl) (th_X8_nameOf (by omega) rfl) rfl ?_
      refine qv_br (c := (fm_X8_nameOf v2 a4) = 0) (a := (64, [some (.ref a0), some (.ref a1), some (.int a2), some (.int a3), some (.int a4), some (.int v2), some (.int 1), some (.int (fm_X8_nameOf v2 a4))], [], H)) (b := (116, [some (.ref a0), some (.ref a1), some (.int a2), some (.int a3), some (.int a4), some (.int v2), some (.int 1), some (.int (fm_X8_nameOf v2 a4))], [], H)) 3 rfl (fun c61 => ?_) (fun c61 => ?_)
      · replace h := qv_pos c61 h
        refine qv_run 2 (σ := (67, [some (.ref a0), some (.ref a1), some (.int a2), some (.int a3), some (.int a4), some (.int v2), some (.int 0), some (.int (fm_X8_nameOf v2 a4))], [], H)) rfl ?_
        exact tb_X8_takeValue_67 hd hR 5000 a0 a1 a2 a3 0 (fm_X8_nameOf v2 a4) (some (.int a4)) rfl (some (.int v2)) rfl H h
      · replace h := qv_neg c61 h
        exact tb_X8_takeValue_116 hd hR a0 1 (fm_X8_nameOf v2 a4) (some (.ref a1)) rfl (some (.int a2)) rfl (some (.int a3)) rfl (some (.int a4)) rfl (some (.int v2)) rfl H h
theorem tlb_X8_takeValue_0 {r : Int32} {H' : qx_H} (a0 : Nat) (a1 : Nat) (a2 : Int32) (a3 : Int32) (a4 : Int32) (H : qx_H) (h : fm_X8_takeValue a0 a1 a2 a3 a4 H = some (r, H')) : H'.length = H.length := by
  unfold fm_X8_takeValue at h
  obtain ⟨v2, e2, h⟩ := qv_bind h
  by_cases c9 : v2 = 33
  · replace h := qv_pos c9 h
    exact tlb_X8_takeValue_19 a0 v2 H h
  · replace h := qv_neg c9 h
    by_cases c16 : v2 = 40
    · replace h := qv_pos c16 h
      exact tlb_X8_takeValue_19 a0 v2 H h
    · replace h := qv_neg c16 h
      by_cases c61 : (fm_X8_nameOf v2 a4) = 0
      · replace h := qv_pos c61 h
        exact tlb_X8_takeValue_67 5000 a0 a1 a2 a3 0 (fm_X8_nameOf v2 a4) H h
      · replace h := qv_neg c61 h
        exact tlb_X8_takeValue_116 a0 1 (fm_X8_nameOf v2 a4) H h
theorem th_X8_takeValue {st : xT} {d : Nat} (hd : 3 ≤ d) {a0 : Nat} {a1 : Nat} {a2 : Int32} {a3 : Int32} {a4 : Int32} {H : qx_H} {r : Int32} {H' : qx_H} (h : fm_X8_takeValue a0 a1 a2 a3 a4 H = some (r, H')) : xE st d 65 [.ref a0, .ref a1, .int a2, .int a3, .int a4] H (some (.int r)) H' := by
  obtain ⟨d, rfl⟩ : ∃ d', d = d' + 1 := ⟨d - 1, by omega⟩
  exact xE_of (xe65 st) xl65 (Nat.le_of_ble_eq_true rfl) (ls := [some (.ref a0), some (.ref a1), some (.int a2), some (.int a3), some (.int a4), none, none, none]) rfl (tb_X8_takeValue_0 (by omega) ⟨rfl, rfl⟩ a0 a1 a2 a3 a4 H h)
theorem tl_X8_takeValue {a0 : Nat} {a1 : Nat} {a2 : Int32} {a3 : Int32} {a4 : Int32} {H : qx_H} {r : Int32} {H' : qx_H} (h : fm_X8_takeValue a0 a1 a2 a3 a4 H = some (r, H')) : H'.length = H.length := tlb_X8_takeValue_0 a0 a1 a2 a3 a4 H h
def fm_X8_rankOf (a0 : Int32) : Int32 := if a0 = 37 then (5) else if a0 = 38 then (2) else if a0 = 42 then (5) else if a0 = 43 then (4) else if a0 = 45 then (4) else if a0 = 47 then (5) else if a0 = 60 then (3) else if a0 = 61 then (3) else if a0 = 62 then (3) else if a0 = 124 then (1) else (0)
theorem tb_X8_rankOf_0 {st : xT} {d : Nat} {R : Option Value → qx_H → Prop} (hd : 0 ≤ d) {r : Int32} {H : qx_H} (hR : R (some (.int r)) H) (a0 : Int32) (h : fm_X8_rankOf a0 = r) : qx_V (xE st d) R (xc71 st) (0, [some (.int a0)], [], H) := by
  unfold fm_X8_rankOf at h
  refine qv_run 2 (σ := (qx_swt a0 102 [(37, 100), (38, 94), (42, 100), (43, 98), (45, 98), (47, 100), (60, 96), (61, 96), (62, 96), (124, 92)], [some (.int a0)], [], H)) rfl ?_
  refine qv_swt (fun c1_0 => ?_) (fun c1_0 => ?_)
  · replace h := qv_pos c1_0 h
    refine qv_run 1 (σ := (101, [some (.int a0)], [.int 5], H)) rfl ?_
    subst h
    exact qv_reti rfl hR
  · replace h := qv_neg c1_0 h
    refine qv_swt (fun c1_1 => ?_) (fun c1_1 => ?_)
    · replace h := qv_pos c1_1 h
      refine qv_run 1 (σ := (95, [some (.int a0)], [.int 2], H)) rfl ?_
      subst h
      exact qv_reti rfl hR
    · replace h := qv_neg c1_1 h
      refine qv_swt (fun c1_2 => ?_) (fun c1_2 => ?_)
      · replace h := qv_pos c1_2 h
        refine qv_run 1 (σ := (101, [some (.int a0)], [.int 5], H)) rfl ?_
        subst h
        exact qv_reti rfl hR
      · replace h := qv_neg c1_2 h
        refine qv_swt (fun c1_3 => ?_) (fun c1_3 => ?_)
        · replace h := qv_pos c1_3 h
          refine qv_run 1 (σ := (99, [some (.int a0)], [.int 4], H)) rfl ?_
          subst h
          exact qv_reti rfl hR
        · replace h := qv_neg c1_3 h
          refine qv_swt (fun c1_4 => ?_) (fun c1_4 => ?_)
          · replace h := qv_pos c1_4 h
            refine qv_run 1 (σ := (99, [some (.int a0)], [.int 4], H)) rfl ?_
            subst h
            exact qv_reti rfl hR
          · replace h := qv_neg c1_4 h
            refine qv_swt (fun c1_5 => ?_) (fun c1_5 => ?_)
            · replace h := qv_pos c1_5 h
              refine qv_run 1 (σ := (101, [some (.int a0)], [.int 5], H)) rfl ?_
              subst h
              exact qv_reti rfl hR
            · replace h := qv_neg c1_5 h
              refine qv_swt (fun c1_6 => ?_) (fun c1_6 => ?_)
              · replace h := qv_pos c1_6 h
                refine qv_run 1 (σ := (97, [some (.int a0)], [.int 3], H)) rfl ?_
                subst h
                exact qv_reti rfl hR
              · replace h := qv_neg c1_6 h
                refine qv_swt (fun c1_7 => ?_) (fun c1_7 => ?_)
                · replace h := qv_pos c1_7 h
                  refine qv_run 1 (σ := (97, [some (.int a0)], [.int 3], H)) rfl ?_
                  subst h
                  exact qv_reti rfl hR
                · replace h := qv_neg c1_7 h
                  refine qv_swt (fun c1_8 => ?_) (fun c1_8 => ?_)
                  · replace h := qv_pos c1_8 h
                    refine qv_run 1 (σ := (97, [some (.int a0)], [.int 3], H)) rfl ?_
                    subst h
                    exact qv_reti rfl hR
                  · replace h := qv_neg c1_8 h
                    refine qv_swt (fun c1_9 => ?_) (fun c1_9 => ?_)
                    · replace h := qv_pos c1_9 h
                      refine qv_run 1 (σ := (93, [some (.int a0)], [.int 1], H)) rfl ?_
                      subst h
                      exact qv_reti rfl hR
                    · replace h := qv_neg c1_9 h
                      refine qv_sw0 ?_
                      refine qv_run 1 (σ := (103, [some (.int a0)], [.int 0], H)) rfl ?_
                      subst h
                      exact qv_reti rfl hR
theorem th_X8_rankOf {st : xT} {d : Nat} (hd : 1 ≤ d) {a0 : Int32} {r : Int32} {H : qx_H} (h : fm_X8_rankOf a0 = r) : xE st d 71 [.int a0] H (some (.int r)) H := by
  obtain ⟨d, rfl⟩ : ∃ d', d = d' + 1 := ⟨d - 1, by omega⟩
  exact xE_of (xe71 st) xl71 (Nat.le_of_ble_eq_true rfl) (ls := [some (.int a0)]) rfl (tb_X8_rankOf_0 (by omega) ⟨rfl, rfl⟩ a0 h)
def fm_X8_settle_b0 : Nat → Nat → Int32 → qx_H → Option qx_H
  | 0, _, _, _ => none
  | n + 1, a0, a1, H => (hp_gI H a0 6 2).bind fun v1 => if v1 ≤ 0 then (some H) else ((hp_gR H a0 6 1).bind fun v8 => (hp_gI H a0 6 2).bind fun v12 => (hp_ald H v8 (v12 - 1)).bind fun v17 => if (fm_X8_rankOf v17) < a1 then (some H) else ((hp_gI H a0 6 2).bind fun v27 => (hp_put H a0 6 2 (.int (v27 - 1))).bind fun H32 => (hp_gR H32 a0 6 0).bind fun v36 => (hp_gR H32 a0 6 1).bind fun v40 => (hp_gI H32 a0 6 2).bind fun v44 => (hp_ald H32 v40 v44).bind fun v47 => if hp_is H32 v36 1 = true then ((fm_X3_add v36 (-v47) H32).bind fun H49 => fm_X8_settle_b0 n a0 a1 H49) else none))
def fm_X8_settle (a0 : Nat) (a1 : Int32) (H : qx_H) : Option qx_H := fm_X8_settle_b0 5000 a0 a1 H
theorem tb_X8_settle_0 {st : xT} {d : Nat} {R : Option Value → qx_H → Prop} (hd : 1 ≤ d) {H' : qx_H} (hR : R (none) H') : ∀ (n : Nat) (a0 : Nat) (a1 : Int32) (H : qx_H) (h : fm_X8_settle_b0 n a0 a1 H = some H'), qx_V (xE st d) R (xc69 st) (0, [some (.ref a0), some (.int a1)], [], H) := by
  intro n
  induction n with
  | zero => intro a0 a1 H h; exact nomatch (show (none : Option qx_H) = some H' from h)
  | succ n ih =>
    intro a0 a1 H h
    unfold fm_X8_settle_b0 at h
    refine qv_run 1 (σ := (1, [some (.ref a0), some (.int a1)], [.ref a0], H)) rfl ?_
    obtain ⟨v1, e1, h⟩ := qv_bind h
    refine qv_getI rfl e1 ?_
    refine qv_br (c := v1 ≤ 0) (a := (55, [some (.ref a0), some (.int a1)], [], H)) (b := (7, [some (.ref a0), some (.int a1)], [], H)) 1 rfl (fun c4 => ?_) (fun c4 => ?_)
    · replace h := qv_pos c4 h
      cases h
      exact qv_ret0 rfl hR
    · replace h := qv_neg c4 h
      refine qv_run 1 (σ := (8, [some (.ref a0), some (.int a1)], [.ref a0], H)) rfl ?_
      obtain ⟨v8, e8, h⟩ := qv_bind h
      refine qv_getR rfl e8 ?_
      refine qv_run 1 (σ := (12, [some (.ref a0), some (.int a1)], [.ref a0, .ref v8], H)) rfl ?_
      obtain ⟨v12, e12, h⟩ := qv_bind h
      refine qv_getI rfl e12 ?_
      refine qv_run 2 (σ := (17, [some (.ref a0), some (.int a1)], [.int (v12 - 1), .ref v8], H)) rfl ?_
      obtain ⟨v17, e17, h⟩ := qv_bind h
      refine qv_ald rfl e17 ?_
      refine qv_call [.int v17] rfl rfl rfl (Nat.le_of_ble_eq_true rfl) (th_X8_rankOf (by omega) rfl) rfl ?_
      refine qv_br (c := (fm_X8_rankOf v17) < a1) (a := (55, [some (.ref a0), some (.int a1)], [], H)) (b := (25, [some (.ref a0), some (.int a1)], [], H)) 2 rfl (fun c22 => ?_) (fun c22 => ?_)
      · replace h := qv_pos c22 h
        cases h
        exact qv_ret0 rfl hR
      · replace h := qv_neg c22 h
        refine qv_run 2 (σ := (27, [some (.ref a0), some (.int a1)], [.ref a0, .ref a0], H)) rfl ?_
        obtain ⟨v27, e27, h⟩ := qv_bind h
        refine qv_getI rfl e27 ?_
        refine qv_run 2 (σ := (32, [some (.ref a0), some (.int a1)], [.int (v27 - 1), .ref a0], H)) rfl ?_
        obtain ⟨H32, e32, h⟩ := qv_bind h
        refine qv_putI rfl e32 ?_
        refine qv_run 1 (σ := (36, [some (.ref a0), some (.int a1)], [.ref a0], H32)) rfl ?_
        obtain ⟨v36, e36, h⟩ := qv_bind h
        refine qv_getR rfl e36 ?_
        refine qv_run 1 (σ := (40, [some (.ref a0), some (.int a1)], [.ref a0, .ref v36], H32)) rfl ?_
        obtain ⟨v40, e40, h⟩ := qv_bind h
        refine qv_getR rfl e40 ?_
        refine qv_run 1 (σ := (44, [some (.ref a0), some (.int a1)], [.ref a0, .ref v40, .ref v36], H32)) rfl ?_
        obtain ⟨v44, e44, h⟩ := qv_bind h
        refine qv_getI rfl e44 ?_
        obtain ⟨v47, e47, h⟩ := qv_bind h
        refine qv_ald rfl e47 ?_
        refine qv_run 1 (σ := (49, [some (.ref a0), some (.int a1)], [.int (-v47), .ref v36], H32)) rfl ?_
        obtain ⟨g49, h⟩ := qv_guard h
        obtain ⟨H49, e49, h⟩ := qv_bind h
        refine qv_callV [.int (-v47)] rfl rfl rfl (Nat.le_of_ble_eq_true rfl) g49 (th_X3_add (by omega) e49) (tl_X3_add e49) ?_
        refine qv_run 1 (σ := (0, [some (.ref a0), some (.int a1)], [], H49)) rfl ?_
        exact ih a0 a1 H49 h
theorem tlb_X8_settle_0 {H' : qx_H} : ∀ (n : Nat) (a0 : Nat) (a1 : Int32) (H : qx_H) (h : fm_X8_settle_b0 n a0 a1 H = some H'), H'.length = H.length := by
  intro n
  induction n with
  | zero => intro a0 a1 H h; exact nomatch (show (none : Option qx_H) = some H' from h)
  | succ n ih =>
    intro a0 a1 H h
    unfold fm_X8_settle_b0 at h
    obtain ⟨v1, e1, h⟩ := qv_bind h
    by_cases c4 : v1 ≤ 0
    · replace h := qv_pos c4 h
      cases h
      rfl
    · replace h := qv_neg c4 h
      obtain ⟨v8, e8, h⟩ := qv_bind h
      obtain ⟨v12, e12, h⟩ := qv_bind h
      obtain ⟨v17, e17, h⟩ := qv_bind h
      by_cases c22 : (fm_X8_rankOf v17) < a1
      · replace h := qv_pos c22 h
        cases h
        rfl
      · replace h := qv_neg c22 h
        obtain ⟨v27, e27, h⟩ := qv_bind h
        obtain ⟨H32, e32, h⟩ := qv_bind h
        have q_H32 := hp_put_len e32
        obtain ⟨v36, e36, h⟩ := qv_bind h
        obtain ⟨v40, e40, h⟩ := qv_bind h
        obtain ⟨v44, e44, h⟩ := qv_bind h
        obtain ⟨v47, e47, h⟩ := qv_bind h
        obtain ⟨g49, h⟩ := qv_guard h
        obtain ⟨H49, e49, h⟩ := qv_bind h
        have q_H49 := tl_X3_add e49
        have q_end := ih a0 a1 H49 h
        omega
theorem th_X8_settle {st : xT} {d : Nat} (hd : 2 ≤ d) {a0 : Nat} {a1 : Int32} {H : qx_H} {H' : qx_H} (h : fm_X8_settle a0 a1 H = some H') : xE st d 69 [.ref a0, .int a1] H (none) H' := by
  obtain ⟨d, rfl⟩ : ∃ d', d = d' + 1 := ⟨d - 1, by omega⟩
  exact xE_of (xe69 st) xl69 (Nat.le_of_ble_eq_true rfl) (ls := [some (.ref a0), some (.int a1)]) rfl (tb_X8_settle_0 (by omega) ⟨rfl, rfl⟩ 5000 a0 a1 H h)
theorem tl_X8_settle {a0 : Nat} {a1 : Int32} {H : qx_H} {H' : qx_H} (h : fm_X8_settle a0 a1 H = some H') : H'.length = H.length := tlb_X8_settle_0 5000 a0 a1 H h
def fm_X8_takeSign_b105 (l0 : Nat) (l1 : Int32) (H : qx_H) : Option (Int32 × qx_H) := if hp_is H l0 6 = true then ((fm_X8_push l0 l1 H).bind fun H107 => (hp_put H107 l0 6 4 (.int 1)).bind fun H112 => some (1, H112)) else none
def fm_X8_takeSign (a0 : Nat) (a1 : Int32) (H : qx_H) : Option (Int32 × qx_H) := if a1 = 41 then (if hp_is H a0 6 = true then ((fm_X8_settle a0 1 H).bind fun H8 => (hp_gI H8 a0 6 2).bind fun v12 => if v12 = 0 then (some (0, H8)) else ((hp_gI H8 a0 6 2).bind fun v22 => (hp_put H8 a0 6 2 (.int (v22 - 1))).bind fun H27 => (hp_gI H27 a0 6 3).bind fun v32 => (hp_put H27 a0 6 3 (.int (v32 - 1))).bind fun H37 => if hp_is H37 a0 6 = true then ((fm_X8_endValue a0 H37).bind fun H41 => some (1, H41)) else none)) else none) else (if (fm_X8_rankOf a1) = 0 then (some (0, H)) else (if hp_is H a0 6 = true then ((fm_X8_settle a0 (if (fm_X8_rankOf a1) = 3 then (fm_X8_rankOf a1) + 1 else (fm_X8_rankOf a1)) H).bind fun H70 => if (fm_X8_rankOf a1) = 3 then ((hp_gI H70 a0 6 2).bind fun v79 => if v79 ≤ 0 then (fm_X8_takeSign_b105 a0 a1 H70) else ((hp_gR H70 a0 6 1).bind fun v86 => (hp_gI H70 a0 6 2).bind fun v90 => (hp_ald H70 v86 (v90 - 1)).bind fun v95 => if (fm_X8_rankOf v95) = 3 then (some (0, H70)) else (fm_X8_takeSign_b105 a0 a1 H70))) else (fm_X8_takeSign_b105 a0 a1 H70)) else none))
theorem tb_X8_takeSign_105 {st : xT} {d : Nat} {R : Option Value → qx_H → Prop} (hd : 2 ≤ d) {r : Int32} {H' : qx_H} (hR : R (some (.int r)) H') (l0 : Nat) (l1 : Int32) (z2 : Option Value) (hz2 : qx_ns z2 = true) (H : qx_H) (h : fm_X8_takeSign_b105 l0 l1 H = some (r, H')) : qx_V (xE st d) R (xc66 st) (105, [some (.ref l0), some (.int l1), z2], [], H) := by
  unfold fm_X8_takeSign_b105 at h
  refine qv_run 2 (σ := (107, [some (.ref l0), some (.int l1), z2], [.int l1, .ref l0], H)) rfl ?_
  obtain ⟨g107, h⟩ := qv_guard h
  obtain ⟨H107, e107, h⟩ := qv_bind h
  refine qv_callV [.int l1] rfl rfl rfl (Nat.le_of_ble_eq_true rfl) g107 (th_X8_push (by omega) e107) (tl_X8_push e107) ?_
  refine qv_run 2 (σ := (112, [some (.ref l0), some (.int l1), z2], [.int 1, .ref l0], H107)) rfl ?_
  obtain ⟨H112, e112, h⟩ := qv_bind h
  refine qv_putZ rfl (Or.inr rfl) e112 ?_
  refine qv_run 1 (σ := (116, [some (.ref l0), some (.int l1), z2], [.int 1], H112)) rfl ?_
  obtain ⟨rfl, rfl⟩ := qv_pair h
  exact qv_reti rfl hR
theorem tlb_X8_takeSign_105 {r : Int32} {H' : qx_H} (l0 : Nat) (l1 : Int32) (H : qx_H) (h : fm_X8_takeSign_b105 l0 l1 H = some (r, H')) : H'.length = H.length := by
  unfold fm_X8_takeSign_b105 at h
  obtain ⟨g107, h⟩ := qv_guard h
  obtain ⟨H107, e107, h⟩ := qv_bind h
  have q_H107 := tl_X8_push e107
  obtain ⟨H112, e112, h⟩ := qv_bind h
  have q_H112 := hp_put_len e112
  obtain ⟨rfl, rfl⟩ := qv_pair h
  omega
theorem tb_X8_takeSign_0 {st : xT} {d : Nat} {R : Option Value → qx_H → Prop} (hd : 2 ≤ d) {r : Int32} {H' : qx_H} (hR : R (some (.int r)) H') (a0 : Nat) (a1 : Int32) (H : qx_H) (h : fm_X8_takeSign a0 a1 H = some (r, H')) : qx_V (xE st d) R (xc66 st) (0, [some (.ref a0), some (.int a1), none], [], H) := by
  unfold fm_X8_takeSign at h
  refine qv_br (c := a1 = 41) (a := (6, [some (.ref a0), some (.int a1), none], [], H)) (b := (46, [some (.ref a0), some (.int a1), none], [], H)) 3 rfl (fun c3 => ?_) (fun c3 => ?_)
  · replace h := qv_pos c3 h
    refine qv_run 2 (σ := (8, [some (.ref a0), some (.int a1), none], [.int 1, .ref a0], H)) rfl ?_
    obtain ⟨g8, h⟩ := qv_guard h
    obtain ⟨H8, e8, h⟩ := qv_bind h
    refine qv_callV [.int 1] rfl rfl rfl (Nat.le_of_ble_eq_true rfl) g8 (th_X8_settle (by omega) e8) (tl_X8_settle e8) ?_
    refine qv_run 1 (σ := (12, [some (.ref a0), some (.int a1), none], [.ref a0], H8)) rfl ?_
    obtain ⟨v12, e12, h⟩ := qv_bind h
    refine qv_getI rfl e12 ?_
    refine qv_br (c := v12 = 0) (a := (18, [some (.ref a0), some (.int a1), none], [], H8)) (b := (20, [some (.ref a0), some (.int a1), none], [], H8)) 1 rfl (fun c15 => ?_) (fun c15 => ?_)
    · replace h := qv_pos c15 h
      refine qv_run 1 (σ := (19, [some (.ref a0), some (.int a1), none], [.int 0], H8)) rfl ?_
      obtain ⟨rfl, rfl⟩ := qv_pair h
      exact qv_reti rfl hR
    · replace h := qv_neg c15 h
      refine qv_run 2 (σ := (22, [some (.ref a0), some (.int a1), none], [.ref a0, .ref a0], H8)) rfl ?_
      obtain ⟨v22, e22, h⟩ := qv_bind h
      refine qv_getI rfl e22 ?_
      refine qv_run 2 (σ := (27, [some (.ref a0), some (.int a1), none], [.int (v22 - 1), .ref a0], H8)) rfl ?_
      obtain ⟨H27, e27, h⟩ := qv_bind h
      refine qv_putI rfl e27 ?_
      refine qv_run 2 (σ := (32, [some (.ref a0), some (.int a1), none], [.ref a0, .ref a0], H27)) rfl ?_
      obtain ⟨v32, e32, h⟩ := qv_bind h
      refine qv_getI rfl e32 ?_
      refine qv_run 2 (σ := (37, [some (.ref a0), some (.int a1), none], [.int (v32 - 1), .ref a0], H27)) rfl ?_
      obtain ⟨H37, e37, h⟩ := qv_bind h
      refine qv_putI rfl e37 ?_
      refine qv_run 1 (σ := (41, [some (.ref a0), some (.int a1), none], [.ref a0], H37)) rfl ?_
      obtain ⟨g41, h⟩ := qv_guard h
      obtain ⟨H41, e41, h⟩ := qv_bind h
      refine qv_callV [] rfl rfl rfl (Nat.le_of_ble_eq_true rfl) g41 (th_X8_endValue (by omega) e41) (tl_X8_endValue e41) ?_
      refine qv_run 1 (σ := (45, [some (.ref a0), some (.int a1), none], [.int 1], H41)) rfl ?_
      obtain ⟨rfl, rfl⟩ := qv_pair h
      exact qv_reti rfl hR
  · replace h := qv_neg c3 h
    refine qv_run 1 (σ := (47, [some (.ref a0), some (.int a1), none], [.int a1], H)) rfl ?_
    refine qv_call [.int a1] rfl rfl rfl (Nat.le_of_ble_eq_true rfl) (th_X8_rankOf (by omega) rfl) rfl ?_
    refine qv_br (c := (fm_X8_rankOf a1) = 0) (a := (55, [some (.ref a0), some (.int a1), some (.int (fm_X8_rankOf a1))], [], H)) (b := (57, [some (.ref a0), some (.int a1), some (.int (fm_X8_rankOf a1))], [], H)) 3 rfl (fun c52 => ?_) (fun c52 => ?_)
    · replace h := qv_pos c52 h
      refine qv_run 1 (σ := (56, [some (.ref a0), some (.int a1), some (.int (fm_X8_rankOf a1))], [.int 0], H)) rfl ?_
      obtain ⟨rfl, rfl⟩ := qv_pair h
      exact qv_reti rfl hR
    · replace h := qv_neg c52 h
      refine qv_dia (c := (fm_X8_rankOf a1) = 3) (a := (63, [some (.ref a0), some (.int a1), some (.int (fm_X8_rankOf a1))], [.ref a0], H)) (b := (69, [some (.ref a0), some (.int a1), some (.int (fm_X8_rankOf a1))], [.ref a0], H)) (σ' := (70, [some (.ref a0), some (.int a1), some (.int (fm_X8_rankOf a1))], [.int (if (fm_X8_rankOf a1) = 3 then (fm_X8_rankOf a1) + 1 else (fm_X8_rankOf a1)), .ref a0], H)) 4 rfl ?_ (fun c60 kk => qv_run 4 (σ := (70, [some (.ref a0), some (.int a1), some (.int (fm_X8_rankOf a1))], [.int ((fm_X8_rankOf a1) + 1), .ref a0], H)) rfl (qv_eq (by simp only [if_pos c60]) kk)) (fun c60 kk => qv_run 1 (σ := (70, [some (.ref a0), some (.int a1), some (.int (fm_X8_rankOf a1))], [.int (fm_X8_rankOf a1), .ref a0], H)) rfl (qv_eq (by simp only [if_neg c60]) kk))
      obtain ⟨g70, h⟩ := qv_guard h
      obtain ⟨H70, e70, h⟩ := qv_bind h
      refine qv_callV [.int (if (fm_X8_rankOf a1) = 3 then (fm_X8_rankOf a1) + 1 else (fm_X8_rankOf a1))] rfl rfl rfl (Nat.le_of_ble_eq_true rfl) g70 (th_X8_settle (by omega) e70) (tl_X8_settle e70) ?_
      refine qv_br (c := (fm_X8_rankOf a1) = 3) (a := (78, [some (.ref a0), some (.int a1), some (.int (fm_X8_rankOf a1))], [], H70)) (b := (105, [some (.ref a0), some (.int a1), some (.int (fm_X8_rankOf a1))], [], H70)) 3 rfl (fun c75 => ?_) (fun c75 => ?_)
      · replace h := qv_pos c75 h
        refine qv_run 1 (σ := (79, [some (.ref a0), some (.int a1), some (.int (fm_X8_rankOf a1))], [.ref a0], H70)) rfl ?_
        obtain ⟨v79, e79, h⟩ := qv_bind h
        refine qv_getI rfl e79 ?_
        refine qv_br (c := v79 ≤ 0) (a := (105, [some (.ref a0), some (.int a1), some (.int (fm_X8_rankOf a1))], [], H70)) (b := (85, [some (.ref a0), some (.int a1), some (.int (fm_X8_rankOf a1))], [], H70)) 1 rfl (fun c82 => ?_) (fun c82 => ?_)
        · replace h := qv_pos c82 h
          exact tb_X8_takeSign_105 hd hR a0 a1 (some (.int (fm_X8_rankOf a1))) rfl H70 h
        · replace h := qv_neg c82 h
          refine qv_run 1 (σ := (86, [some (.ref a0), some (.int a1), some (.int (fm_X8_rankOf a1))], [.ref a0], H70)) rfl ?_
          obtain ⟨v86, e86, h⟩ := qv_bind h
          refine qv_getR rfl e86 ?_
          refine qv_run 1 (σ := (90, [some (.ref a0), some (.int a1), some (.int (fm_X8_rankOf a1))], [.ref a0, .ref v86], H70)) rfl ?_
          obtain ⟨v90, e90, h⟩ := qv_bind h
          refine qv_getI rfl e90 ?_
          refine qv_run 2 (σ := (95, [some (.ref a0), some (.int a1), some (.int (fm_X8_rankOf a1))], [.int (v90 - 1), .ref v86], H70)) rfl ?_
          obtain ⟨v95, e95, h⟩ := qv_bind h
          refine qv_ald rfl e95 ?_
          refine qv_call [.int v95] rfl rfl rfl (Nat.le_of_ble_eq_true rfl) (th_X8_rankOf (by omega) rfl) rfl ?_
          refine qv_br (c := (fm_X8_rankOf v95) = 3) (a := (103, [some (.ref a0), some (.int a1), some (.int (fm_X8_rankOf a1))], [], H70)) (b := (105, [some (.ref a0), some (.int a1), some (.int (fm_X8_rankOf a1))], [], H70)) 2 rfl (fun c100 => ?_) (fun c100 => ?_)
          · replace h := qv_pos c100 h
            refine qv_run 1 (σ := (104, [some (.ref a0), some (.int a1), some (.int (fm_X8_rankOf a1))], [.int 0], H70)) rfl ?_
            obtain ⟨rfl, rfl⟩ := qv_pair h
            exact qv_reti rfl hR
          · replace h := qv_neg c100 h
            exact tb_X8_takeSign_105 hd hR a0 a1 (some (.int (fm_X8_rankOf a1))) rfl H70 h
      · replace h := qv_neg c75 h
        exact tb_X8_takeSign_105 hd hR a0 a1 (some (.int (fm_X8_rankOf a1))) rfl H70 h
theorem tlb_X8_takeSign_0 {r : Int32} {H' : qx_H} (a0 : Nat) (a1 : Int32) (H : qx_H) (h : fm_X8_takeSign a0 a1 H = some (r, H')) : H'.length = H.length := by
  unfold fm_X8_takeSign at h
  by_cases c3 : a1 = 41
  · replace h := qv_pos c3 h
    obtain ⟨g8, h⟩ := qv_guard h
    obtain ⟨H8, e8, h⟩ := qv_bind h
    have q_H8 := tl_X8_settle e8
    obtain ⟨v12, e12, h⟩ := qv_bind h
    by_cases c15 : v12 = 0
    · replace h := qv_pos c15 h
      obtain ⟨rfl, rfl⟩ := qv_pair h
      omega
    · replace h := qv_neg c15 h
      obtain ⟨v22, e22, h⟩ := qv_bind h
      obtain ⟨H27, e27, h⟩ := qv_bind h
      have q_H27 := hp_put_len e27
      obtain ⟨v32, e32, h⟩ := qv_bind h
      obtain ⟨H37, e37, h⟩ := qv_bind h
      have q_H37 := hp_put_len e37
      obtain ⟨g41, h⟩ := qv_guard h
      obtain ⟨H41, e41, h⟩ := qv_bind h
      have q_H41 := tl_X8_endValue e41
      obtain ⟨rfl, rfl⟩ := qv_pair h
      omega
  · replace h := qv_neg c3 h
    by_cases c52 : (fm_X8_rankOf a1) = 0
    · replace h := qv_pos c52 h
      obtain ⟨rfl, rfl⟩ := qv_pair h
      rfl
    · replace h := qv_neg c52 h
      obtain ⟨g70, h⟩ := qv_guard h
      obtain ⟨H70, e70, h⟩ := qv_bind h
      have q_H70 := tl_X8_settle e70
      by_cases c75 : (fm_X8_rankOf a1) = 3
      · replace h := qv_pos c75 h
        obtain ⟨v79, e79, h⟩ := qv_bind h
        by_cases c82 : v79 ≤ 0
        · replace h := qv_pos c82 h
          have q_end := tlb_X8_takeSign_105 a0 a1 H70 h
          omega
        · replace h := qv_neg c82 h
          obtain ⟨v86, e86, h⟩ := qv_bind h
          obtain ⟨v90, e90, h⟩ := qv_bind h
          obtain ⟨v95, e95, h⟩ := qv_bind h
          by_cases c100 : (fm_X8_rankOf v95) = 3
          · replace h := qv_pos c100 h
            obtain ⟨rfl, rfl⟩ := qv_pair h
            omega
          · replace h := qv_neg c100 h
            have q_end := tlb_X8_takeSign_105 a0 a1 H70 h
            omega
      · replace h := qv_neg c75 h
        have q_end := tlb_X8_takeSign_105 a0 a1 H70 h
        omega
theorem th_X8_takeSign {st : xT} {d : Nat} (hd : 3 ≤ d) {a0 : Nat} {a1 : Int32} {H : qx_H} {r : Int32} {H' : qx_H} (h : fm_X8_takeSign a0 a1 H = some (r, H')) : xE st d 66 [.ref a0, .int a1] H (some (.int r)) H' := by
  obtain ⟨d, rfl⟩ : ∃ d', d = d' + 1 := ⟨d - 1, by omega⟩
  exact xE_of (xe66 st) xl66 (Nat.le_of_ble_eq_true rfl) (ls := [some (.ref a0), some (.int a1), none]) rfl (tb_X8_takeSign_0 (by omega) ⟨rfl, rfl⟩ a0 a1 H h)
theorem tl_X8_takeSign {a0 : Nat} {a1 : Int32} {H : qx_H} {r : Int32} {H' : qx_H} (h : fm_X8_takeSign a0 a1 H = some (r, H')) : H'.length = H.length := tlb_X8_takeSign_0 a0 a1 H h
def fm_X8_read_b58 (k25 : Nat → Nat → Int32 → Int32 → Int32 → qx_H → Option (Int32 × qx_H)) (l0 : Nat) (l1 : Nat) (l2 : Int32) (l3 : Int32) (l4 : Int32) (t0 : Int32) (H : qx_H) : Option (Int32 × qx_H) := if 0 < t0 then (k25 l0 l1 l2 l3 (l4 + t0) H) else (some (l4, H))
def fm_X8_read_b25 : Nat → Nat → Nat → Int32 → Int32 → Int32 → qx_H → Option (Int32 × qx_H)
  | 0, _, _, _, _, _, _ => none
  | n + 1, l0, l1, l2, l3, l4, H => if l2 ≤ l4 then ((hp_gI H l0 6 4).bind fun v79 => if v79 = 0 then ((hp_gI H l0 6 3).bind fun v86 => if v86 ≤ 0 then (if hp_is H l0 6 = true then ((fm_X8_settle l0 0 H).bind fun H96 => some ((-1), H96)) else none) else (some (l2, H))) else (some (l2, H))) else ((hp_gI H l0 6 4).bind fun v32 => if v32 = 0 then ((hp_ald H l1 l4).bind fun v54 => if hp_is H l0 6 = true then (ob2 (fm_X8_takeSign l0 v54 H) fun v55 H55 => fm_X8_read_b58 (fm_X8_read_b25 n) l0 l1 l2 l3 l4 v55 H55) else none) else (if hp_is H l0 6 = true then (ob2 (fm_X8_takeValue l0 l1 l2 l4 l3 H) fun v44 H44 => fm_X8_read_b58 (fm_X8_read_b25 n) l0 l1 l2 l3 l4 v44 H44) else none))
def fm_X8_read (a0 : Nat) (a1 : Nat) (a2 : Int32) (a3 : Int32) (H : qx_H) : Option (Int32 × qx_H) := (hp_gR H a0 6 0).bind fun v1 => if hp_is H v1 1 = true then ((fm_X3_forget v1 H).bind fun H4 => (hp_put H4 a0 6 2 (.int 0)).bind fun H9 => (hp_put H9 a0 6 3 (.int 0)).bind fun H14 => (hp_put H14 a0 6 4 (.int 1)).bind fun H19 => fm_X8_read_b25 5000 a0 a1 a2 a3 0 H19) else none
theorem tb_X8_read_58 {st : xT} {d : Nat} {R : Option Value → qx_H → Prop} (hd : 3 ≤ d) {r : Int32} {H' : qx_H} (k25 : Nat → Nat → Int32 → Int32 → Int32 → qx_H → Option (Int32 × qx_H)) (hk25 : ∀ (l0 : Nat) (l1 : Nat) (l2 : Int32) (l3 : Int32) (l4 : Int32) (z5 : Option Value) (hz5 : qx_ns z5 = true) (H : qx_H), k25 l0 l1 l2 l3 l4 H = some (r, H') → qx_V (xE st d) R (xc64 st) (25, [some (.ref l0), some (.ref l1), some (.int l2), some (.int l3), some (.int l4), z5], [], H)) (hR : R (some (.int r)) H') (l0 : Nat) (l1 : Nat) (l2 : Int32) (l3 : Int32) (l4 : Int32) (t0 : Int32) (z5 : Option Value) (hz5 : qx_ns z5 = true) (H : qx_H) (h : fm_X8_read_b58 k25 l0 l1 l2 l3 l4 t0 H = some (r, H')) : qx_V (xE st d) R (xc64 st) (58, [some (.ref l0), some (.ref l1), some (.int l2), some (.int l3), some (.int l4), z5], [.int t0], H) := by
  unfold fm_X8_read_b58 at h
  refine qv_br (c := 0 < t0) (a := (68, [some (.ref l0), some (.ref l1), some (.int l2), some (.int l3), some (.int l4), some (.int t0)], [], H)) (b := (65, [some (.ref l0), some (.ref l1), some (.int l2), some (.int l3), some (.int l4), some (.int t0)], [], H)) 3 rfl (fun c62 => ?_) (fun c62 => ?_)
  · replace h := qv_pos c62 h
    refine qv_run 5 (σ := (25, [some (.ref l0), some (.ref l1), some (.int l2), some (.int l3), some (.int (l4 + t0)), some (.int t0)], [], H)) rfl ?_
    exact hk25 l0 l1 l2 l3 (l4 + t0) (some (.int t0)) rfl H h
  · replace h := qv_neg c62 h
    refine qv_run 1 (σ := (67, [some (.ref l0), some (.ref l1), some (.int l2), some (.int l3), some (.int l4), some (.int t0)], [.int l4], H)) rfl ?_
    obtain ⟨rfl, rfl⟩ := qv_pair h
    exact qv_reti rfl hR
theorem tlb_X8_read_58 {r : Int32} {H' : qx_H} (k25 : Nat → Nat → Int32 → Int32 → Int32 → qx_H → Option (Int32 × qx_H)) (hk25 : ∀ (l0 : Nat) (l1 : Nat) (l2 : Int32) (l3 : Int32) (l4 : Int32) (H : qx_H), k25 l0 l1 l2 l3 l4 H = some (r, H') → H'.length = H.length) (l0 : Nat) (l1 : Nat) (l2 : Int32) (l3 : Int32) (l4 : Int32) (t0 : Int32) (H : qx_H) (h : fm_X8_read_b58 k25 l0 l1 l2 l3 l4 t0 H = some (r, H')) : H'.length = H.length := by
  unfold fm_X8_read_b58 at h
  by_cases c62 : 0 < t0
  · replace h := qv_pos c62 h
    exact hk25 l0 l1 l2 l3 (l4 + t0) H h
  · replace h := qv_neg c62 h
    obtain ⟨rfl, rfl⟩ := qv_pair h
    rfl
theorem tb_X8_read_25 {st : xT} {d : Nat} {R : Option Value → qx_H → Prop} (hd : 3 ≤ d) {r : Int32} {H' : qx_H} (hR : R (some (.int r)) H') : ∀ (n : Nat) (l0 : Nat) (l1 : Nat) (l2 : Int32) (l3 : Int32) (l4 : Int32) (z5 : Option Value) (hz5 : qx_ns z5 = true) (H : qx_H) (h : fm_X8_read_b25 n l0 l1 l2 l3 l4 H = some (r, H')), qx_V (xE st d) R (xc64 st) (25, [some (.ref l0), some (.ref l1), some (.int l2), some (.int l3), some (.int l4), z5], [], H) := by
  intro n
  induction n with
  | zero => intro l0 l1 l2 l3 l4 z5 hz5 H h; exact nomatch (show (none : Option (Int32 × qx_H)) = some (r, H') from h)
  | succ n ih =>
    intro l0 l1 l2 l3 l4 z5 hz5 H h
    unfold fm_X8_read_b25 at h
    refine qv_br (c := l2 ≤ l4) (a := (78, [some (.ref l0), some (.ref l1), some (.int l2), some (.int l3), some (.int l4), z5], [], H)) (b := (31, [some (.ref l0), some (.ref l1), some (.int l2), some (.int l3), some (.int l4), z5], [], H)) 3 rfl (fun c28 => ?_) (fun c28 => ?_)
    · replace h := qv_pos c28 h
      refine qv_run 1 (σ := (79, [some (.ref l0), some (.ref l1), some (.int l2), some (.int l3), some (.int l4), z5], [.ref l0], H)) rfl ?_
      obtain ⟨v79, e79, h⟩ := qv_bind h
      refine qv_getI rfl e79 ?_
      refine qv_br (c := v79 = 0) (a := (85, [some (.ref l0), some (.ref l1), some (.int l2), some (.int l3), some (.int l4), z5], [], H)) (b := (92, [some (.ref l0), some (.ref l1), some (.int l2), some (.int l3), some (.int l4), z5], [], H)) 1 rfl (fun c82 => ?_) (fun c82 => ?_)
      · replace h := qv_pos c82 h
        refine qv_run 1 (σ := (86, [some (.ref l0), some (.ref l1), some (.int l2), some (.int l3), some (.int l4), z5], [.ref l0], H)) rfl ?_
        obtain ⟨v86, e86, h⟩ := qv_bind h
        refine qv_getI rfl e86 ?_
        refine qv_br (c := v86 ≤ 0) (a := (94, [some (.ref l0), some (.ref l1), some (.int l2), some (.int l3), some (.int l4), z5], [], H)) (b := (92, [some (.ref l0), some (.ref l1), some (.int l2), some (.int l3), some (.int l4), z5], [], H)) 1 rfl (fun c89 => ?_) (fun c89 => ?_)
        · replace h := qv_pos c89 h
          refine qv_run 2 (σ := (96, [some (.ref l0), some (.ref l1), some (.int l2), some (.int l3), some (.int l4), z5], [.int 0, .ref l0], H)) rfl ?_
          obtain ⟨g96, h⟩ := qv_guard h
          obtain ⟨H96, e96, h⟩ := qv_bind h
          refine qv_callV [.int 0] rfl rfl rfl (Nat.le_of_ble_eq_true rfl) g96 (th_X8_settle (by omega) e96) (tl_X8_settle e96) ?_
          refine qv_run 1 (σ := (100, [some (.ref l0), some (.ref l1), some (.int l2), some (.int l3), some (.int l4), z5], [.int (-1)], H96)) rfl ?_
          obtain ⟨rfl, rfl⟩ := qv_pair h
          exact qv_reti rfl hR
        · replace h := qv_neg c89 h
          refine qv_run 1 (σ := (93, [some (.ref l0), some (.ref l1), some (.int l2), some (.int l3), some (.int l4), z5], [.int l2], H)) rfl ?_
          obtain ⟨rfl, rfl⟩ := qv_pair h
          exact qv_reti rfl hR
      · replace h := qv_neg c82 h
        refine qv_run 1 (σ := (93, [some (.ref l0), some (.ref l1), some (.int l2), some (.int l3), some (.int l4), z5], [.int l2], H)) rfl ?_
        obtain ⟨rfl, rfl⟩ := qv_pair h
        exact qv_reti rfl hR
    · replace h := qv_neg c28 h
      refine qv_run 1 (σ := (32, [some (.ref l0), some (.ref l1), some (.int l2), some (.int l3), some (.int l4), z5], [.ref l0], H)) rfl ?_
      obtain ⟨v32, e32, h⟩ := qv_bind h
      refine qv_getI rfl e32 ?_
      refine qv_br (c := v32 = 0) (a := (50, [some (.ref l0), some (.ref l1), some (.int l2), some (.int l3), some (.int l4), z5], [], H)) (b := (38, [some (.ref l0), some (.ref l1), some (.int l2), some (.int l3), some (.int l4), z5], [], H)) 1 rfl (fun c35 => ?_) (fun c35 => ?_)
      · replace h := qv_pos c35 h
        refine qv_run 3 (σ := (54, [some (.ref l0), some (.ref l1), some (.int l2), some (.int l3), some (.int l4), z5], [.int l4, .ref l1, .ref l0], H)) rfl ?_
        obtain ⟨v54, e54, h⟩ := qv_bind h
        refine qv_ald rfl e54 ?_
        obtain ⟨g55, h⟩ := qv_guard h
        obtain ⟨v55, H55, e55, h⟩ := qv_bind2 h
        refine qv_callV [.int v54] rfl rfl rfl (Nat.le_of_ble_eq_true rfl) g55 (th_X8_takeSign (by omega) e55) (tl_X8_takeSign e55) ?_
        exact tb_X8_read_58 hd _ ih hR l0 l1 l2 l3 l4 v55 z5 hz5 H55 h
      · replace h := qv_neg c35 h
        refine qv_run 5 (σ := (44, [some (.ref l0), some (.ref l1), some (.int l2), some (.int l3), some (.int l4), z5], [.int l3, .int l4, .int l2, .ref l1, .ref l0], H)) rfl ?_
        obtain ⟨g44, h⟩ := qv_guard h
        obtain ⟨v44, H44, e44, h⟩ := qv_bind2 h
        refine qv_callV [.ref l1, .int l2, .int l4, .int l3] rfl rfl rfl (Nat.le_of_ble_eq_true rfl) g44 (th_X8_takeValue (by omega) e44) (tl_X8_takeValue e44) ?_
        refine qv_run 1 (σ := (58, [some (.ref l0), some (.ref l1), some (.int l2), some (.int l3), some (.int l4), z5], [.int v44], H44)) rfl ?_
        exact tb_X8_read_58 hd _ ih hR l0 l1 l2 l3 l4 v44 z5 hz5 H44 h
theorem tlb_X8_read_25 {r : Int32} {H' : qx_H} : ∀ (n : Nat) (l0 : Nat) (l1 : Nat) (l2 : Int32) (l3 : Int32) (l4 : Int32) (H : qx_H) (h : fm_X8_read_b25 n l0 l1 l2 l3 l4 H = some (r, H')), H'.length = H.length := by
  intro n
  induction n with
  | zero => intro l0 l1 l2 l3 l4 H h; exact nomatch (show (none : Option (Int32 × qx_H)) = some (r, H') from h)
  | succ n ih =>
    intro l0 l1 l2 l3 l4 H h
    unfold fm_X8_read_b25 at h
    by_cases c28 : l2 ≤ l4
    · replace h := qv_pos c28 h
      obtain ⟨v79, e79, h⟩ := qv_bind h
      by_cases c82 : v79 = 0
      · replace h := qv_pos c82 h
        obtain ⟨v86, e86, h⟩ := qv_bind h
        by_cases c89 : v86 ≤ 0
        · replace h := qv_pos c89 h
          obtain ⟨g96, h⟩ := qv_guard h
          obtain ⟨H96, e96, h⟩ := qv_bind h
          have q_H96 := tl_X8_settle e96
          obtain ⟨rfl, rfl⟩ := qv_pair h
          omega
        · replace h := qv_neg c89 h
          obtain ⟨rfl, rfl⟩ := qv_pair h
          rfl
      · replace h := qv_neg c82 h
        obtain ⟨rfl, rfl⟩ := qv_pair h
        rfl
    · replace h := qv_neg c28 h
      obtain ⟨v32, e32, h⟩ := qv_bind h
      by_cases c35 : v32 = 0
      · replace h := qv_pos c35 h
        obtain ⟨v54, e54, h⟩ := qv_bind h
        obtain ⟨g55, h⟩ := qv_guard h
        obtain ⟨v55, H55, e55, h⟩ := qv_bind2 h
        have q_H55 := tl_X8_takeSign e55
        have q_end := tlb_X8_read_58 _ ih l0 l1 l2 l3 l4 v55 H55 h
        omega
      · replace h := qv_neg c35 h
        obtain ⟨g44, h⟩ := qv_guard h
        obtain ⟨v44, H44, e44, h⟩ := qv_bind2 h
        have q_H44 := tl_X8_takeValue e44
        have q_end := tlb_X8_read_58 _ ih l0 l1 l2 l3 l4 v44 H44 h
        omega
theorem tb_X8_read_0 {st : xT} {d : Nat} {R : Option Value → qx_H → Prop} (hd : 3 ≤ d) {r : Int32} {H' : qx_H} (hR : R (some (.int r)) H') (a0 : Nat) (a1 : Nat) (a2 : Int32) (a3 : Int32) (H : qx_H) (h : fm_X8_read a0 a1 a2 a3 H = some (r, H')) : qx_V (xE st d) R (xc64 st) (0, [some (.ref a0), some (.ref a1), some (.int a2), some (.int a3), none, none], [], H) := by
  unfold fm_X8_read at h
  refine qv_run 1 (σ := (1, [some (.ref a0), some (.ref a1), some (.int a2), some (.int a3), none, none], [.ref a0], H)) rfl ?_
  obtain ⟨v1, e1, h⟩ := qv_bind h
  refine qv_getR rfl e1 ?_
  obtain ⟨g4, h⟩ := qv_guard h
  obtain ⟨H4, e4, h⟩ := qv_bind h
  refine qv_callV [] rfl rfl rfl (Nat.le_of_ble_eq_true rfl) g4 (th_X3_forget (by omega) e4) (tl_X3_forget e4) ?_
  refine qv_run 2 (σ := (9, [some (.ref a0), some (.ref a1), some (.int a2), some (.int a3), none, none], [.int 0, .ref a0], H4)) rfl ?_
  obtain ⟨H9, e9, h⟩ := qv_bind h
  refine qv_putI rfl e9 ?_
  refine qv_run 2 (σ := (14, [some (.ref a0), some (.ref a1), some (.int a2), some (.int a3), none, none], [.int 0, .ref a0], H9)) rfl ?_
  obtain ⟨H14, e14, h⟩ := qv_bind h
  refine qv_putI rfl e14 ?_
  refine qv_run 2 (σ := (19, [some (.ref a0), some (.ref a1), some (.int a2), some (.int a3), none, none], [.int 1, .ref a0], H14)) rfl ?_
  obtain ⟨H19, e19, h⟩ := qv_bind h
  refine qv_putZ rfl (Or.inr rfl) e19 ?_
  refine qv_run 2 (σ := (25, [some (.ref a0), some (.ref a1), some (.int a2), some (.int a3), some (.int 0), none], [], H19)) rfl ?_
  exact tb_X8_read_25 hd hR 5000 a0 a1 a2 a3 0 none rfl H19 h
theorem tlb_X8_read_0 {r : Int32} {H' : qx_H} (a0 : Nat) (a1 : Nat) (a2 : Int32) (a3 : Int32) (H : qx_H) (h : fm_X8_read a0 a1 a2 a3 H = some (r, H')) : H'.length = H.length := by
  unfold fm_X8_read at h
  obtain ⟨v1, e1, h⟩ := qv_bind h
  obtain ⟨g4, h⟩ := qv_guard h
  obtain ⟨H4, e4, h⟩ := qv_bind h
  have q_H4 := tl_X3_forget e4
  obtain ⟨H9, e9, h⟩ := qv_bind h
  have q_H9 := hp_put_len e9
  obtain ⟨H14, e14, h⟩ := qv_bind h
  have q_H14 := hp_put_len e14
  obtain ⟨H19, e19, h⟩ := qv_bind h
  have q_H19 := hp_put_len e19
  have q_end := tlb_X8_read_25 5000 a0 a1 a2 a3 0 H19 h
  omega
theorem th_X8_read {st : xT} {d : Nat} (hd : 4 ≤ d) {a0 : Nat} {a1 : Nat} {a2 : Int32} {a3 : Int32} {H : qx_H} {r : Int32} {H' : qx_H} (h : fm_X8_read a0 a1 a2 a3 H = some (r, H')) : xE st d 64 [.ref a0, .ref a1, .int a2, .int a3] H (some (.int r)) H' := by
  obtain ⟨d, rfl⟩ : ∃ d', d = d' + 1 := ⟨d - 1, by omega⟩
  exact xE_of (xe64 st) xl64 (Nat.le_of_ble_eq_true rfl) (ls := [some (.ref a0), some (.ref a1), some (.int a2), some (.int a3), none, none]) rfl (tb_X8_read_0 (by omega) ⟨rfl, rfl⟩ a0 a1 a2 a3 H h)
theorem tl_X8_read {a0 : Nat} {a1 : Nat} {a2 : Int32} {a3 : Int32} {H : qx_H} {r : Int32} {H' : qx_H} (h : fm_X8_read a0 a1 a2 a3 H = some (r, H')) : H'.length = H.length := tlb_X8_read_0 a0 a1 a2 a3 H h
def fm_X9_init (a0 : Nat) (H : qx_H) : Option qx_H := if ¬ ((30 : Int32) < 0 ∨ 100000 < Int32.toNatClampNeg 30) ∧ qx_ok [some (.ref a0)] [.ref a0] H = true then ((hp_put (H ++ ([.inl (Int32.toNatClampNeg 30, .inl fun _ => 0)] : qx_H)) a0 7 0 (.ref H.length)).bind fun H9 => (hp_put H9 a0 7 1 (.int 0)).bind fun H14 => (hp_put H14 a0 7 2 (.int 0)).bind fun H19 => (hp_put H19 a0 7 3 (.int 0)).bind fun H24 => (hp_put H24 a0 7 4 (.int 0)).bind fun H29 => (hp_put H29 a0 7 5 (.int 0)).bind fun H34 => some H34) else none
theorem tb_X9_init_0 {st : xT} {d : Nat} {R : Option Value → qx_H → Prop} (hd : 0 ≤ d) {H' : qx_H} (hR : R (none) H') (a0 : Nat) (H : qx_H) (h : fm_X9_init a0 H = some H') : qx_V (xE st d) R (xc73 st) (0, [some (.ref a0)], [], H) := by
  unfold fm_X9_init at h
  refine qv_run 4 (σ := (7, [some (.ref a0)], [.int 30, .ref a0], H)) rfl ?_
  obtain ⟨e7, h⟩ := qv_guard h
  refine qv_newa rfl e7.1 e7.2 ?_
  obtain ⟨H9, e9, h⟩ := qv_bind h
  refine qv_putR rfl e9 ?_
  refine qv_run 2 (σ := (14, [some (.ref a0)], [.int 0, .ref a0], H9)) rfl ?_
  obtain ⟨H14, e14, h⟩ := qv_bind h
  refine qv_putI rfl e14 ?_
  refine qv_run 2 (σ := (19, [some (.ref a0)], [.int 0, .ref a0], H14)) rfl ?_
  obtain ⟨H19, e19, h⟩ := qv_bind h
  refine qv_putZ rfl (Or.inl rfl) e19 ?_
  refine qv_run 2 (σ := (24, [some (.ref a0)], [.int 0, .ref a0], H19)) rfl ?_
  obtain ⟨H24, e24, h⟩ := qv_bind h
  refine qv_putI rfl e24 ?_
  refine qv_run 2 (σ := (29, [some (.ref a0)], [.int 0, .ref a0], H24)) rfl ?_
  obtain ⟨H29, e29, h⟩ := qv_bind h
  refine qv_putI rfl e29 ?_
  refine qv_run 2 (σ := (34, [some (.ref a0)], [.int 0, .ref a0], H29)) rfl ?_
  obtain ⟨H34, e34, h⟩ := qv_bind h
  refine qv_putI rfl e34 ?_
  cases h
  exact qv_ret0 rfl hR
theorem th_X9_init {st : xT} {d : Nat} (hd : 1 ≤ d) {a0 : Nat} {H : qx_H} {H' : qx_H} (h : fm_X9_init a0 H = some H') : xE st d 73 [.ref a0] H (none) H' := by
  obtain ⟨d, rfl⟩ : ∃ d', d = d' + 1 := ⟨d - 1, by omega⟩
  exact xE_of (xe73 st) xl73 (Nat.le_of_ble_eq_true rfl) (ls := [some (.ref a0)]) rfl (tb_X9_init_0 (by omega) ⟨rfl, rfl⟩ a0 H h)
def fm_X9_bodySays_b38 (st : xT) (rc : Nat → Int32 → Int32 → Int32 → Int32 → qx_H → Option (Int32 × qx_H)) (l0 : Nat) (l1 : Int32) (l2 : Int32) (l3 : Int32) (l4 : Int32) (H : qx_H) : Option (Int32 × qx_H) := if l1 = 10 then ((hp_gI H l0 7 5).bind fun v154 => some (l3 + v154, H)) else if l1 = 11 then ((hp_gI H l0 7 3).bind fun v161 => if hp_is H l0 7 = true then (ob2 (rc l0 v161 0 l3 (l4 + 1) H) fun v168 H168 => some (v168 * 2, H168)) else none) else if l1 = 12 then ((hp_gI H l0 7 3).bind fun v176 => if hp_is H l0 7 = true then (ob2 (rc l0 v176 1 l3 (l4 + 1) H) fun v183 H183 => (hp_gI H183 l0 7 4).bind fun v187 => some (v183 - v187, H183)) else none) else if l1 = 13 then ((hp_gI H l0 7 4).bind fun v194 => (hp_gI H l0 7 5).bind fun v198 => if ((if v194 = v198 then 1 else 0) : Int32) = 0 ∨ ((if v194 = v198 then 1 else 0) : Int32) = 1 then ((hp_put H l0 7 2 (.int (if v194 = v198 then 1 else 0))).bind fun H209 => (hp_gI H209 l0 7 2).bind fun v213 => if v213 = 0 then ((hp_gI H209 l0 7 4).bind fun v225 => (hp_gI H209 l0 7 5).bind fun v229 => if ¬ (v225 - v229) = 0 then (some (l3 / (v225 - v229), H209)) else none) else (some (0, H209))) else none) else if l1 = 20 then (if hp_is H l0 7 = true then (ob2 (rc l0 l2 0 l3 (l4 + 1) H) fun v241 H241 => some (v241 - 8, H241)) else none) else if l1 = 21 then (if hp_is H l0 7 = true then (ob2 (rc l0 l2 3 l3 (l4 + 1) H) fun v254 H254 => (hp_gI H254 l0 7 2).bind fun v260 => if v260 = 0 then ((hp_gI H254 l0 7 3).bind fun v274 => if hp_is H254 l0 7 = true then (ob2 (rc l0 v274 1 1 (l4 + 1) H254) fun v281 H281 => some (v254 + v281, H281)) else none) else (some (0, H254))) else none) else if l1 = 30 then (if hp_is H l0 7 = true then (ob2 (rc l0 l2 1 l3 (l4 + 1) H) fun v293 H293 => some (0 - v293, H293)) else none) else if l1 = 40 then (if hp_is H l0 7 = true then (ob2 (rc l0 l2 2 (l3 / 2) (l4 + 1) H) fun v306 H306 => some (v306, H306)) else none) else if l1 = 50 then (if hp_is H l0 7 = true then (ob2 (rc l0 l2 0 l3 (l4 + 1) H) fun v316 H316 => some (v316 * 3, H316)) else none) else if l1 = 51 then (if hp_is H l0 7 = true then (ob2 (rc l0 l2 2 l3 (l4 + 1) H) fun v328 H328 => (hp_gI H328 l0 7 5).bind fun v332 => some (v328 ^^^ v332, H328)) else none) else if l1 = 60 then (if hp_is H l0 7 = true then (ob2 (rc l0 l2 1 (l3 + 1) (l4 + 1) H) fun v345 H345 => some (v345, H345)) else none) else if l1 = 70 then (some (4, H)) else (if hp_is H l0 7 = true then (ob2 (rc l0 l2 1 l3 (l4 + 1) H) fun v357 H357 => (hp_gI H357 l0 7 4).bind fun v361 => some (v357 + v361, H357)) else none)
def fm_X9_bodySays (st : xT) (rc : Nat → Int32 → Int32 → Int32 → Int32 → qx_H → Option (Int32 × qx_H)) (a0 : Nat) (a1 : Int32) (a2 : Int32) (a3 : Int32) (a4 : Int32) (H : qx_H) : Option (Int32 × qx_H) := if a4 ≤ 40 then ((hp_gI H a0 7 1).bind fun v10 => if 30 ≤ v10 then (fm_X9_bodySays_b38 st rc a0 a1 a2 a3 a4 H) else ((hp_gR H a0 7 0).bind fun v19 => (hp_gI H a0 7 1).bind fun v23 => (hp_ast H v19 v23 a1).bind fun H27 => (hp_gI H27 a0 7 1).bind fun v30 => (hp_put H27 a0 7 1 (.int (v30 + 1))).bind fun H35 => fm_X9_bodySays_b38 st rc a0 a1 a2 a3 a4 H35)) else (some (0, H))
theorem tb_X9_bodySays_38 {st : xT} {e : Nat} {d : Nat} {R : Option Value → qx_H → Prop} (rc : Nat → Int32 → Int32 → Int32 → Int32 → qx_H → Option (Int32 × qx_H)) (hB : 1 ≤ e) (hrc : ∀ {b0 : Nat} {b1 : Int32} {b2 : Int32} {b3 : Int32} {b4 : Int32} {H1 H2 : qx_H} {r1 : Int32}, rc b0 b1 b2 b3 b4 H1 = some (r1, H2) → xE st e 75 [.ref b0, .int b1, .int b2, .int b3, .int b4] H1 (some (.int r1)) H2) (hrl : ∀ {b0 : Nat} {b1 : Int32} {b2 : Int32} {b3 : Int32} {b4 : Int32} {H1 H2 : qx_H} {r1 : Int32}, rc b0 b1 b2 b3 b4 H1 = some (r1, H2) → H2.length = H1.length) (hd : e + 0 ≤ d) {r : Int32} {H' : qx_H} (hR : R (some (.int r)) H') (l0 : Nat) (l1 : Int32) (l2 : Int32) (l3 : Int32) (l4 : Int32) (H : qx_H) (h : fm_X9_bodySays_b38 st rc l0 l1 l2 l3 l4 H = some (r, H')) : qx_V (xE st d) R (xc76 st) (38, [some (.ref l0), some (.int l1), some (.int l2), some (.int l3), some (.int l4), none, none], [], H) := by
  unfold fm_X9_bodySays_b38 at h
  refine qv_run 6 (σ := (qx_swt l1 351 [(10, 152), (11, 159), (12, 174), (13, 192), (20, 235), (21, 248), (30, 286), (40, 298), (50, 310), (51, 322), (60, 337), (70, 349)], [some (.ref l0), some (.int l1), some (.int l2), some (.int l3), some (.int l4), some (.int (l4 + 1)), none], [], H)) rfl ?_
  refine qv_swt (fun c45_0 => ?_) (fun c45_0 => ?_)
  · replace h := qv_pos c45_0 h
    refine qv_run 2 (σ := (154, [some (.ref l0), some (.int l1), some (.int l2), some (.int l3), some (.int l4), some (.int (l4 + 1)), none], [.ref l0, .int l3], H)) rfl ?_
    obtain ⟨v154, e154, h⟩ := qv_bind h
    refine qv_getI rfl e154 ?_
    refine qv_run 1 (σ := (158, [some (.ref l0), some (.int l1), some (.int l2), some (.int l3), some (.int l4), some (.int (l4 + 1)), none], [.int (l3 + v154)], H)) rfl ?_
    obtain ⟨rfl, rfl⟩ := qv_pair h
    exact qv_reti rfl hR
  · replace h := qv_neg c45_0 h
    refine qv_swt (fun c45_1 => ?_) (fun c45_1 => ?_)
    · replace h := qv_pos c45_1 h
      refine qv_run 2 (σ := (161, [some (.ref l0), some (.int l1), some (.int l2), some (.int l3), some (.int l4), some (.int (l4 + 1)), none], [.ref l0, .ref l0], H)) rfl ?_
      obtain ⟨v161, e161, h⟩ := qv_bind h
      refine qv_getI rfl e161 ?_
      refine qv_run 3 (σ := (168, [some (.ref l0), some (.int l1), some (.int l2), some (.int l3), some (.int l4), some (.int (l4 + 1)), none], [.int (l4 + 1), .int l3, .int 0, .int v161, .ref l0], H)) rfl ?_
      obtain ⟨g168, h⟩ := qv_guard h
      obtain ⟨v168, H168, e168, h⟩ := qv_bind2 h
      refine qv_callV [.int v161, .int 0, .int l3, .int (l4 + 1)] rfl rfl rfl (Nat.le_of_ble_eq_true rfl) g168 (xE_le (by omega) (hrc e168)) (hrl e168) ?_
      refine qv_run 2 (σ := (173, [some (.ref l0), some (.int l1), some (.int l2), some (.int l3), some (.int l4), some (.int (l4 + 1)), none], [.int (v168 * 2)], H168)) rfl ?_
      obtain ⟨rfl, rfl⟩ := qv_pair h
      exact qv_reti rfl hR
    · replace h := qv_neg c45_1 h
      refine qv_swt (fun c45_2 => ?_) (fun c45_2 => ?_)
      · replace h := qv_pos c45_2 h
        refine qv_run 2 (σ := (176, [some (.ref l0), some (.int l1), some (.int l2), some (.int l3), some (.int l4), some (.int (l4 + 1)), none], [.ref l0, .ref l0], H)) rfl ?_
        obtain ⟨v176, e176, h⟩ := qv_bind h
        refine qv_getI rfl e176 ?_
        refine qv_run 3 (σ := (183, [some (.ref l0), some (.int l1), some (.int l2), some (.int l3), some (.int l4), some (.int (l4 + 1)), none], [.int (l4 + 1), .int l3, .int 1, .int v176, .ref l0], H)) rfl ?_
        obtain ⟨g183, h⟩ := qv_guard h
        obtain ⟨v183, H183, e183, h⟩ := qv_bind2 h
        refine qv_callV [.int v176, .int 1, .int l3, .int (l4 + 1)] rfl rfl rfl (Nat.le_of_ble_eq_true rfl) g183 (xE_le (by omega) (hrc e183)) (hrl e183) ?_
        refine qv_run 1 (σ := (187, [some (.ref l0), some (.int l1), some (.int l2), some (.int l3), some (.int l4), some (.int (l4 + 1)), none], [.ref l0, .int v183], H183)) rfl ?_
        obtain ⟨v187, e187, h⟩ := qv_bind h
        refine qv_getI rfl e187 ?_
        refine qv_run 1 (σ := (191, [some (.ref l0), some (.int l1), some (.int l2), some (.int l3), some (.int l4), some (.int (l4 + 1)), none], [.int (v183 - v187)], H183)) rfl ?_
        obtain ⟨rfl, rfl⟩ := qv_pair h
        exact qv_reti rfl hR
      · replace h := qv_neg c45_2 h
        refine qv_swt (fun c45_3 => ?_) (fun c45_3 => ?_)
        · replace h := qv_pos c45_3 h
          refine qv_run 2 (σ := (194, [some (.ref l0), some (.int l1), some (.int l2), some (.int l3), some (.int l4), some (.int (l4 + 1)), none], [.ref l0, .ref l0], H)) rfl ?_
          obtain ⟨v194, e194, h⟩ := qv_bind h
          refine qv_getI rfl e194 ?_
          refine qv_run 1 (σ := (198, [some (.ref l0), some (.int l1), some (.int l2), some (.int l3), some (.int l4), some (.int (l4 + 1)), none], [.ref l0, .int v194, .ref l0], H)) rfl ?_
          obtain ⟨v198, e198, h⟩ := qv_bind h
          refine qv_getI rfl e198 ?_
          refine qv_dia (c := v194 = v198) (a := (204, [some (.ref l0), some (.int l1), some (.int l2), some (.int l3), some (.int l4), some (.int (l4 + 1)), none], [.ref l0], H)) (b := (208, [some (.ref l0), some (.int l1), some (.int l2), some (.int l3), some (.int l4), some (.int (l4 + 1)), none], [.ref l0], H)) (σ' := (209, [some (.ref l0), some (.int l1), some (.int l2), some (.int l3), some (.int l4), some (.int (l4 + 1)), none], [.int (if v194 = v198 then 1 else 0), .ref l0], H)) 1 rfl ?_ (fun c201 kk => qv_run 2 (σ := (209, [some (.ref l0), some (.int l1), some (.int l2), some (.int l3), some (.int l4), some (.int (l4 + 1)), none], [.int 1, .ref l0], H)) rfl (qv_eq (by simp only [if_pos c201]) kk)) (fun c201 kk => qv_run 1 (σ := (209, [some (.ref l0), some (.int l1), some (.int l2), some (.int l3), some (.int l4), some (.int (l4 + 1)), none], [.int 0, .ref l0], H)) rfl (qv_eq (by simp only [if_neg c201]) kk))
          obtain ⟨g209, h⟩ := qv_guard h
          obtain ⟨H209, e209, h⟩ := qv_bind h
          refine qv_putZ rfl g209 e209 ?_
          refine qv_run 1 (σ := (213, [some (.ref l0), some (.int l1), some (.int l2), some (.int l3), some (.int l4), some (.int (l4 + 1)), none], [.ref l0], H209)) rfl ?_
          obtain ⟨v213, e213, h⟩ := qv_bind h
          refine qv_getI rfl e213 ?_
          refine qv_br (c := v213 = 0) (a := (223, [some (.ref l0), some (.int l1), some (.int l2), some (.int l3), some (.int l4), some (.int (l4 + 1)), none], [], H209)) (b := (219, [some (.ref l0), some (.int l1), some (.int l2), some (.int l3), some (.int l4), some (.int (l4 + 1)), none], [], H209)) 1 rfl (fun c216 => ?_) (fun c216 => ?_)
          · replace h := qv_pos c216 h
            refine qv_run 2 (σ := (225, [some (.ref l0), some (.int l1), some (.int l2), some (.int l3), some (.int l4), some (.int (l4 + 1)), none], [.ref l0, .int l3], H209)) rfl ?_
            obtain ⟨v225, e225, h⟩ := qv_bind h
            refine qv_getI rfl e225 ?_
            refine qv_run 1 (σ := (229, [some (.ref l0), some (.int l1), some (.int l2), some (.int l3), some (.int l4), some (.int (l4 + 1)), none], [.ref l0, .int v225, .int l3], H209)) rfl ?_
            obtain ⟨v229, e229, h⟩ := qv_bind h
            refine qv_getI rfl e229 ?_
            refine qv_run 1 (σ := (233, [some (.ref l0), some (.int l1), some (.int l2), some (.int l3), some (.int l4), some (.int (l4 + 1)), none], [.int (v225 - v229), .int l3], H209)) rfl ?_
            obtain ⟨e233, h⟩ := qv_guard h
            refine qv_div rfl e233 ?_
            obtain ⟨rfl, rfl⟩ := qv_pair h
            exact qv_reti rfl hR
          · replace h := qv_neg c216 h
            refine qv_run 2 (σ := (234, [some (.ref l0), some (.int l1), some (.int l2), some (.int l3), some (.int l4), some (.int (l4 + 1)), none], [.int 0], H209)) rfl ?_
            obtain ⟨rfl, rfl⟩ := qv_pair h
            exact qv_reti rfl hR
        · replace h := qv_neg c45_3 h
          refine qv_swt (fun c45_4 => ?_) (fun c45_4 => ?_)
          · replace h := qv_pos c45_4 h
            refine qv_run 5 (σ := (241, [some (.ref l0), some (.int l1), some (.int l2), some (.int l3), some (.int l4), some (.int (l4 + 1)), none], [.int (l4 + 1), .int l3, .int 0, .int l2, .ref l0], H)) rfl ?_
            obtain ⟨g241, h⟩ := qv_guard h
            obtain ⟨v241, H241, e241, h⟩ := qv_bind2 h
            refine qv_callV [.int l2, .int 0, .int l3, .int (l4 + 1)] rfl rfl rfl (Nat.le_of_ble_eq_true rfl) g241 (xE_le (by omega) (hrc e241)) (hrl e241) ?_
            refine qv_run 2 (σ := (247, [some (.ref l0), some (.int l1), some (.int l2), some (.int l3), some (.int l4), some (.int (l4 + 1)), none], [.int (v241 - 8)], H241)) rfl ?_
            obtain ⟨rfl, rfl⟩ := qv_pair h
            exact qv_reti rfl hR
          · replace h := qv_neg c45_4 h
            refine qv_swt (fun c45_5 => ?_) (fun c45_5 => ?_)
            · replace h := qv_pos c45_5 h
              refine qv_run 5 (σ := (254, [some (.ref l0), some (.int l1), some (.int l2), some (.int l3), some (.int l4), some (.int (l4 + 1)), none], [.int (l4 + 1), .int l3, .int 3, .int l2, .ref l0], H)) rfl ?_
              obtain ⟨g254, h⟩ := qv_guard h
              obtain ⟨v254, H254, e254, h⟩ := qv_bind2 h
              refine qv_callV [.int l2, .int 3, .int l3, .int (l4 + 1)] rfl rfl rfl (Nat.le_of_ble_eq_true rfl) g254 (xE_le (by omega) (hrc e254)) (hrl e254) ?_
              refine qv_run 2 (σ := (260, [some (.ref l0), some (.int l1), some (.int l2), some (.int l3), some (.int l4), some (.int (l4 + 1)), some (.int v254)], [.ref l0], H254)) rfl ?_
              obtain ⟨v260, e260, h⟩ := qv_bind h
              refine qv_getI rfl e260 ?_
              refine qv_br (c := v260 = 0) (a := (270, [some (.ref l0), some (.int l1), some (.int l2), some (.int l3), some (.int l4), some (.int (l4 + 1)), some (.int v254)], [], H254)) (b := (266, [some (.ref l0), some (.int l1), some (.int l2), some (.int l3), some (.int l4), some (.int (l4 + 1)), some (.int v254)], [], H254)) 1 rfl (fun c263 => ?_) (fun c263 => ?_)
              · replace h := qv_pos c263 h
                refine qv_run 3 (σ := (274, [some (.ref l0), some (.int l1), some (.int l2), some (.int l3), some (.int l4), some (.int (l4 + 1)), some (.int v254)], [.ref l0, .ref l0, .int v254], H254)) rfl ?_
                obtain ⟨v274, e274, h⟩ := qv_bind h
                refine qv_getI rfl e274 ?_
                refine qv_run 3 (σ := (281, [some (.ref l0), some (.int l1), some (.int l2), some (.int l3), some (.int l4), some (.int (l4 + 1)), some (.int v254)], [.int (l4 + 1), .int 1, .int 1, .int v274, .ref l0, .int v254], H254)) rfl ?_
                obtain ⟨g281, h⟩ := qv_guard h
                obtain ⟨v281, H281, e281, h⟩ := qv_bind2 h
                refine qv_callV [.int v274, .int 1, .int 1, .int (l4 + 1)] rfl rfl rfl (Nat.le_of_ble_eq_true rfl) g281 (xE_le (by omega) (hrc e281)) (hrl e281) ?_
                refine qv_run 1 (σ := (285, [some (.ref l0), some (.int l1), some (.int l2), some (.int l3), some (.int l4), some (.int (l4 + 1)), some (.int v254)], [.int (v254 + v281)], H281)) rfl ?_
                obtain ⟨rfl, rfl⟩ := qv_pair h
                exact qv_reti rfl hR
              · replace h := qv_neg c263 h
                refine qv_run 2 (σ := (285, [some (.ref l0), some (.int l1), some (.int l2), some (.int l3), some (.int l4), some (.int (l4 + 1)), some (.int v254)], [.int 0], H254)) rfl ?_
                obtain ⟨rfl, rfl⟩ := qv_pair h
                exact qv_reti rfl hR
            · replace h := qv_neg c45_5 h
              refine qv_swt (fun c45_6 => ?_) (fun c45_6 => ?_)
              · replace h := qv_pos c45_6 h
                refine qv_run 6 (σ := (293, [some (.ref l0), some (.int l1), some (.int l2), some (.int l3), some (.int l4), some (.int (l4 + 1)), none], [.int (l4 + 1), .int l3, .int 1, .int l2, .ref l0, .int 0], H)) rfl ?_
                obtain ⟨g293, h⟩ := qv_guard h
                obtain ⟨v293, H293, e293, h⟩ := qv_bind2 h
                refine qv_callV [.int l2, .int 1, .int l3, .int (l4 + 1)] rfl rfl rfl (Nat.le_of_ble_eq_true rfl) g293 (xE_le (by omega) (hrc e293)) (hrl e293) ?_
                refine qv_run 1 (σ := (297, [some (.ref l0), some (.int l1), some (.int l2), some (.int l3), some (.int l4), some (.int (l4 + 1)), none], [.int (0 - v293)], H293)) rfl ?_
                obtain ⟨rfl, rfl⟩ := qv_pair h
                exact qv_reti rfl hR
              · replace h := qv_neg c45_6 h
                refine qv_swt (fun c45_7 => ?_) (fun c45_7 => ?_)
                · replace h := qv_pos c45_7 h
                  refine qv_run 5 (σ := (303, [some (.ref l0), some (.int l1), some (.int l2), some (.int l3), some (.int l4), some (.int (l4 + 1)), none], [.int 2, .int l3, .int 2, .int l2, .ref l0], H)) rfl ?_
                  refine qv_div rfl (by decide) ?_
                  refine qv_run 1 (σ := (306, [some (.ref l0), some (.int l1), some (.int l2), some (.int l3), some (.int l4), some (.int (l4 + 1)), none], [.int (l4 + 1), .int (l3 / 2), .int 2, .int l2, .ref l0], H)) rfl ?_
                  obtain ⟨g306, h⟩ := qv_guard h
                  obtain ⟨v306, H306, e306, h⟩ := qv_bind2 h
                  refine qv_callV [.int l2, .int 2, .int (l3 / 2), .int (l4 + 1)] rfl rfl rfl (Nat.le_of_ble_eq_true rfl) g306 (xE_le (by omega) (hrc e306)) (hrl e306) ?_
                  obtain ⟨rfl, rfl⟩ := qv_pair h
                  exact qv_reti rfl hR
                · replace h := qv_neg c45_7 h
                  refine qv_swt (fun c45_8 => ?_) (fun c45_8 => ?_)
                  · replace h := qv_pos c45_8 h
                    refine qv_run 5 (σ := (316, [some (.ref l0), some (.int l1), some (.int l2), some (.int l3), some (.int l4), some (.int (l4 + 1)), none], [.int (l4 + 1), .int l3, .int 0, .int l2, .ref l0], H)) rfl ?_
                    obtain ⟨g316, h⟩ := qv_guard h
                    obtain ⟨v316, H316, e316, h⟩ := qv_bind2 h
                    refine qv_callV [.int l2, .int 0, .int l3, .int (l4 + 1)] rfl rfl rfl (Nat.le_of_ble_eq_true rfl) g316 (xE_le (by omega) (hrc e316)) (hrl e316) ?_
                    refine qv_run 2 (σ := (321, [some (.ref l0), some (.int l1), some (.int l2), some (.int l3), some (.int l4), some (.int (l4 + 1)), none], [.int (v316 * 3)], H316)) rfl ?_
                    obtain ⟨rfl, rfl⟩ := qv_pair h
                    exact qv_reti rfl hR
                  · replace h := qv_neg c45_8 h
                    refine qv_swt (fun c45_9 => ?_) (fun c45_9 => ?_)
                    · replace h := qv_pos c45_9 h
                      refine qv_run 5 (σ := (328, [some (.ref l0), some (.int l1), some (.int l2), some (.int l3), some (.int l4), some (.int (l4 + 1)), none], [.int (l4 + 1), .int l3, .int 2, .int l2, .ref l0], H)) rfl ?_
                      obtain ⟨g328, h⟩ := qv_guard h
                      obtain ⟨v328, H328, e328, h⟩ := qv_bind2 h
                      refine qv_callV [.int l2, .int 2, .int l3, .int (l4 + 1)] rfl rfl rfl (Nat.le_of_ble_eq_true rfl) g328 (xE_le (by omega) (hrc e328)) (hrl e328) ?_
                      refine qv_run 1 (σ := (332, [some (.ref l0), some (.int l1), some (.int l2), some (.int l3), some (.int l4), some (.int (l4 + 1)), none], [.ref l0, .int v328], H328)) rfl ?_
                      obtain ⟨v332, e332, h⟩ := qv_bind h
                      refine qv_getI rfl e332 ?_
                      refine qv_run 1 (σ := (336, [some (.ref l0), some (.int l1), some (.int l2), some (.int l3), some (.int l4), some (.int (l4 + 1)), none], [.int (v328 ^^^ v332)], H328)) rfl ?_
                      obtain ⟨rfl, rfl⟩ := qv_pair h
                      exact qv_reti rfl hR
                    · replace h := qv_neg c45_9 h
                      refine qv_swt (fun c45_10 => ?_) (fun c45_10 => ?_)
                      · replace h := qv_pos c45_10 h
                        refine qv_run 7 (σ := (345, [some (.ref l0), some (.int l1), some (.int l2), some (.int l3), some (.int l4), some (.int (l4 + 1)), none], [.int (l4 + 1), .int (l3 + 1), .int 1, .int l2, .ref l0], H)) rfl ?_
                        obtain ⟨g345, h⟩ := qv_guard h
                        obtain ⟨v345, H345, e345, h⟩ := qv_bind2 h
                        refine qv_callV [.int l2, .int 1, .int (l3 + 1), .int (l4 + 1)] rfl rfl rfl (Nat.le_of_ble_eq_true rfl) g345 (xE_le (by omega) (hrc e345)) (hrl e345) ?_
                        obtain ⟨rfl, rfl⟩ := qv_pair h
                        exact qv_reti rfl hR
                      · replace h := qv_neg c45_10 h
                        refine qv_swt (fun c45_11 => ?_) (fun c45_11 => ?_)
                        · replace h := qv_pos c45_11 h
                          refine qv_run 1 (σ := (350, [some (.ref l0), some (.int l1), some (.int l2), some (.int l3), some (.int l4), some (.int (l4 + 1)), none], [.int 4], H)) rfl ?_
                          obtain ⟨rfl, rfl⟩ := qv_pair h
                          exact qv_reti rfl hR
                        · replace h := qv_neg c45_11 h
                          refine qv_sw0 ?_
                          refine qv_run 5 (σ := (357, [some (.ref l0), some (.int l1), some (.int l2), some (.int l3), some (.int l4), some (.int (l4 + 1)), none], [.int (l4 + 1), .int l3, .int 1, .int l2, .ref l0], H)) rfl ?_
                          obtain ⟨g357, h⟩ := qv_guard h
                          obtain ⟨v357, H357, e357, h⟩ := qv_bind2 h
                          refine qv_callV [.int l2, .int 1, .int l3, .int (l4 + 1)] rfl rfl rfl (Nat.le_of_ble_eq_true rfl) g357 (xE_le (by omega) (hrc e357)) (hrl e357) ?_
                          refine qv_run 1 (σ := (361, [some (.ref l0), some (.int l1), some (.int l2), some (.int l3), some (.int l4), some (.int (l4 + 1)), none], [.ref l0, .int v357], H357)) rfl ?_
                          obtain ⟨v361, e361, h⟩ := qv_bind h
                          refine qv_getI rfl e361 ?_
                          refine qv_run 1 (σ := (365, [some (.ref l0), some (.int l1), some (.int l2), some (.int l3), some (.int l4), some (.int (l4 + 1)), none], [.int (v357 + v361)], H357)) rfl ?_
                          obtain ⟨rfl, rfl⟩ := qv_pair h
                          exact qv_reti rfl hR
theorem tlb_X9_bodySays_38 {st : xT} (rc : Nat → Int32 → Int32 → Int32 → Int32 → qx_H → Option (Int32 × qx_H)) (hrl : ∀ {b0 : Nat} {b1 : Int32} {b2 : Int32} {b3 : Int32} {b4 : Int32} {H1 H2 : qx_H} {r1 : Int32}, rc b0 b1 b2 b3 b4 H1 = some (r1, H2) → H2.length = H1.length) {r : Int32} {H' : qx_H} (l0 : Nat) (l1 : Int32) (l2 : Int32) (l3 : Int32) (l4 : Int32) (H : qx_H) (h : fm_X9_bodySays_b38 st rc l0 l1 l2 l3 l4 H = some (r, H')) : H'.length = H.length := by
  unfold fm_X9_bodySays_b38 at h
  by_cases c45_0 : l1 = 10
  · replace h := qv_pos c45_0 h
    obtain ⟨v154, e154, h⟩ := qv_bind h
    obtain ⟨rfl, rfl⟩ := qv_pair h
    rfl
  · replace h := qv_neg c45_0 h
    by_cases c45_1 : l1 = 11
    · replace h := qv_pos c45_1 h
      obtain ⟨v161, e161, h⟩ := qv_bind h
      obtain ⟨g168, h⟩ := qv_guard h
      obtain ⟨v168, H168, e168, h⟩ := qv_bind2 h
      have q_H168 := hrl e168
      obtain ⟨rfl, rfl⟩ := qv_pair h
      omega
    · replace h := qv_neg c45_1 h
      by_cases c45_2 : l1 = 12
      · replace h := qv_pos c45_2 h
        obtain ⟨v176, e176, h⟩ := qv_bind h
        obtain ⟨g183, h⟩ := qv_guard h
        obtain ⟨v183, H183, e183, h⟩ := qv_bind2 h
        have q_H183 := hrl e183
        obtain ⟨v187, e187, h⟩ := qv_bind h
        obtain ⟨rfl, rfl⟩ := qv_pair h
        omega
      · replace h := qv_neg c45_2 h
        by_cases c45_3 : l1 = 13
        · replace h := qv_pos c45_3 h
          obtain ⟨v194, e194, h⟩ := qv_bind h
          obtain ⟨v198, e198, h⟩ := qv_bind h
          obtain ⟨g209, h⟩ := qv_guard h
          obtain ⟨H209, e209, h⟩ := qv_bind h
          have q_H209 := hp_put_len e209
          obtain ⟨v213, e213, h⟩ := qv_bind h
          by_cases c216 : v213 = 0
          · replace h := qv_pos c216 h
            obtain ⟨v225, e225, h⟩ := qv_bind h
            obtain ⟨v229, e229, h⟩ := qv_bind h
            obtain ⟨e233, h⟩ := qv_guard h
            obtain ⟨rfl, rfl⟩ := qv_pair h
            omega
          · replace h := qv_neg c216 h
            obtain ⟨rfl, rfl⟩ := qv_pair h
            omega
        · replace h := qv_neg c45_3 h
          by_cases c45_4 : l1 = 20
          · replace h := qv_pos c45_4 h
            obtain ⟨g241, h⟩ := qv_guard h
            obtain ⟨v241, H241, e241, h⟩ := qv_bind2 h
            have q_H241 := hrl e241
            obtain ⟨rfl, rfl⟩ := qv_pair h
            omega
          · replace h := qv_neg c45_4 h
            by_cases c45_5 : l1 = 21
            · replace h := qv_pos c45_5 h
              obtain ⟨g254, h⟩ := qv_guard h
              obtain ⟨v254, H254, e254, h⟩ := qv_bind2 h
              have q_H254 := hrl e254
              obtain ⟨v260, e260, h⟩ := qv_bind h
              by_cases c263 : v260 = 0
              · replace h := qv_pos c263 h
                obtain ⟨v274, e274, h⟩ := qv_bind h
                obtain ⟨g281, h⟩ := qv_guard h
                obtain ⟨v281, H281, e281, h⟩ := qv_bind2 h
                have q_H281 := hrl e281
                obtain ⟨rfl, rfl⟩ := qv_pair h
                omega
              · replace h := qv_neg c263 h
                obtain ⟨rfl, rfl⟩ := qv_pair h
                omega
            · replace h := qv_neg c45_5 h
              by_cases c45_6 : l1 = 30
              · replace h := qv_pos c45_6 h
                obtain ⟨g293, h⟩ := qv_guard h
                obtain ⟨v293, H293, e293, h⟩ := qv_bind2 h
                have q_H293 := hrl e293
                obtain ⟨rfl, rfl⟩ := qv_pair h
                omega
              · replace h := qv_neg c45_6 h
                by_cases c45_7 : l1 = 40
                · replace h := qv_pos c45_7 h
                  obtain ⟨g306, h⟩ := qv_guard h
                  obtain ⟨v306, H306, e306, h⟩ := qv_bind2 h
                  have q_H306 := hrl e306
                  obtain ⟨rfl, rfl⟩ := qv_pair h
                  omega
                · replace h := qv_neg c45_7 h
                  by_cases c45_8 : l1 = 50
                  · replace h := qv_pos c45_8 h
                    obtain ⟨g316, h⟩ := qv_guard h
                    obtain ⟨v316, H316, e316, h⟩ := qv_bind2 h
                    have q_H316 := hrl e316
                    obtain ⟨rfl, rfl⟩ := qv_pair h
                    omega
                  · replace h := qv_neg c45_8 h
                    by_cases c45_9 : l1 = 51
                    · replace h := qv_pos c45_9 h
                      obtain ⟨g328, h⟩ := qv_guard h
                      obtain ⟨v328, H328, e328, h⟩ := qv_bind2 h
                      have q_H328 := hrl e328
                      obtain ⟨v332, e332, h⟩ := qv_bind h
                      obtain ⟨rfl, rfl⟩ := qv_pair h
                      omega
                    · replace h := qv_neg c45_9 h
                      by_cases c45_10 : l1 = 60
                      · replace h := qv_pos c45_10 h
                        obtain ⟨g345, h⟩ := qv_guard h
                        obtain ⟨v345, H345, e345, h⟩ := qv_bind2 h
                        have q_H345 := hrl e345
                        obtain ⟨rfl, rfl⟩ := qv_pair h
                        omega
                      · replace h := qv_neg c45_10 h
                        by_cases c45_11 : l1 = 70
                        · replace h := qv_pos c45_11 h
                          obtain ⟨rfl, rfl⟩ := qv_pair h
                          rfl
                        · replace h := qv_neg c45_11 h
                          obtain ⟨g357, h⟩ := qv_guard h
                          obtain ⟨v357, H357, e357, h⟩ := qv_bind2 h
                          have q_H357 := hrl e357
                          obtain ⟨v361, e361, h⟩ := qv_bind h
                          obtain ⟨rfl, rfl⟩ := qv_pair h
                          omega
theorem tb_X9_bodySays_0 {st : xT} {e : Nat} {d : Nat} {R : Option Value → qx_H → Prop} (rc : Nat → Int32 → Int32 → Int32 → Int32 → qx_H → Option (Int32 × qx_H)) (hB : 1 ≤ e) (hrc : ∀ {b0 : Nat} {b1 : Int32} {b2 : Int32} {b3 : Int32} {b4 : Int32} {H1 H2 : qx_H} {r1 : Int32}, rc b0 b1 b2 b3 b4 H1 = some (r1, H2) → xE st e 75 [.ref b0, .int b1, .int b2, .int b3, .int b4] H1 (some (.int r1)) H2) (hrl : ∀ {b0 : Nat} {b1 : Int32} {b2 : Int32} {b3 : Int32} {b4 : Int32} {H1 H2 : qx_H} {r1 : Int32}, rc b0 b1 b2 b3 b4 H1 = some (r1, H2) → H2.length = H1.length) (hd : e + 0 ≤ d) {r : Int32} {H' : qx_H} (hR : R (some (.int r)) H') (a0 : Nat) (a1 : Int32) (a2 : Int32) (a3 : Int32) (a4 : Int32) (H : qx_H) (h : fm_X9_bodySays st rc a0 a1 a2 a3 a4 H = some (r, H')) : qx_V (xE st d) R (xc76 st) (0, [some (.ref a0), some (.int a1), some (.int a2), some (.int a3), some (.int a4), none, none], [], H) := by
  unfold fm_X9_bodySays at h
  refine qv_br (c := a4 ≤ 40) (a := (9, [some (.ref a0), some (.int a1), some (.int a2), some (.int a3), some (.int a4), none, none], [], H)) (b := (7, [some (.ref a0), some (.int a1), some (.int a2), some (.int a3), some (.int a4), none, none], [], H)) 3 rfl (fun c4 => ?_) (fun c4 => ?_)
  · replace h := qv_pos c4 h
    refine qv_run 1 (σ := (10, [some (.ref a0), some (.int a1), some (.int a2), some (.int a3), some (.int a4), none, none], [.ref a0], H)) rfl ?_
    obtain ⟨v10, e10, h⟩ := qv_bind h
    refine qv_getI rfl e10 ?_
    refine qv_br (c := 30 ≤ v10) (a := (38, [some (.ref a0), some (.int a1), some (.int a2), some (.int a3), some (.int a4), none, none], [], H)) (b := (18, [some (.ref a0), some (.int a1), some (.int a2), some (.int a3), some (.int a4), none, none], [], H)) 2 rfl (fun c15 => ?_) (fun c15 => ?_)
    · replace h := qv_pos c15 h
      exact tb_X9_bodySays_38 rc hB hrc hrl hd hR a0 a1 a2 a3 a4 H h
    · replace h := qv_neg c15 h
      refine qv_run 1 (σ := (19, [some (.ref a0), some (.int a1), some (.int a2), some (.int a3), some (.int a4), none, none], [.ref a0], H)) rfl ?_
      obtain ⟨v19, e19, h⟩ := qv_bind h
      refine qv_getR rfl e19 ?_
      refine qv_run 1 (σ := (23, [some (.ref a0), some (.int a1), some (.int a2), some (.int a3), some (.int a4), none, none], [.ref a0, .ref v19], H)) rfl ?_
      obtain ⟨v23, e23, h⟩ := qv_bind h
      refine qv_getI rfl e23 ?_
      refine qv_run 1 (σ := (27, [some (.ref a0), some (.int a1), some (.int a2), some (.int a3), some (.int a4), none, none], [.int a1, .int v23, .ref v19], H)) rfl ?_
      obtain ⟨H27, e27, h⟩ := qv_bind h
      refine qv_ast rfl e27 ?_
      refine qv_run 2 (σ := (30, [some (.ref a0), some (.int a1), some (.int a2), some (.int a3), some (.int a4), none, none], [.ref a0, .ref a0], H27)) rfl ?_
      obtain ⟨v30, e30, h⟩ := qv_bind h
      refine qv_getI rfl e30 ?_
      refine qv_run 2 (σ := (35, [some (.ref a0), some (.int a1), some (.int a2), some (.int a3), some (.int a4), none, none], [.int (v30 + 1), .ref a0], H27)) rfl ?_
      obtain ⟨H35, e35, h⟩ := qv_bind h
      refine qv_putI rfl e35 ?_
      exact tb_X9_bodySays_38 rc hB hrc hrl hd hR a0 a1 a2 a3 a4 H35 h
  · replace h := qv_neg c4 h
    refine qv_run 1 (σ := (8, [some (.ref a0), some (.int a1), some (.int a2), some (.int a3), some (.int a4), none, none], [.int 0], H)) rfl ?_
    obtain ⟨rfl, rfl⟩ := qv_pair h
    exact qv_reti rfl hR
theorem tlb_X9_bodySays_0 {st : xT} (rc : Nat → Int32 → Int32 → Int32 → Int32 → qx_H → Option (Int32 × qx_H)) (hrl : ∀ {b0 : Nat} {b1 : Int32} {b2 : Int32} {b3 : Int32} {b4 : Int32} {H1 H2 : qx_H} {r1 : Int32}, rc b0 b1 b2 b3 b4 H1 = some (r1, H2) → H2.length = H1.length) {r : Int32} {H' : qx_H} (a0 : Nat) (a1 : Int32) (a2 : Int32) (a3 : Int32) (a4 : Int32) (H : qx_H) (h : fm_X9_bodySays st rc a0 a1 a2 a3 a4 H = some (r, H')) : H'.length = H.length := by
  unfold fm_X9_bodySays at h
  by_cases c4 : a4 ≤ 40
  · replace h := qv_pos c4 h
    obtain ⟨v10, e10, h⟩ := qv_bind h
    by_cases c15 : 30 ≤ v10
    · replace h := qv_pos c15 h
      exact tlb_X9_bodySays_38 rc hrl a0 a1 a2 a3 a4 H h
    · replace h := qv_neg c15 h
      obtain ⟨v19, e19, h⟩ := qv_bind h
      obtain ⟨v23, e23, h⟩ := qv_bind h
      obtain ⟨H27, e27, h⟩ := qv_bind h
      have q_H27 := hp_ast_len e27
      obtain ⟨v30, e30, h⟩ := qv_bind h
      obtain ⟨H35, e35, h⟩ := qv_bind h
      have q_H35 := hp_put_len e35
      have q_end := tlb_X9_bodySays_38 rc hrl a0 a1 a2 a3 a4 H35 h
      omega
  · replace h := qv_neg c4 h
    obtain ⟨rfl, rfl⟩ := qv_pair h
    rfl
theorem th_X9_bodySays {st : xT} {e : Nat} (rc : Nat → Int32 → Int32 → Int32 → Int32 → qx_H → Option (Int32 × qx_H)) (hB : 1 ≤ e) (hrc : ∀ {b0 : Nat} {b1 : Int32} {b2 : Int32} {b3 : Int32} {b4 : Int32} {H1 H2 : qx_H} {r1 : Int32}, rc b0 b1 b2 b3 b4 H1 = some (r1, H2) → xE st e 75 [.ref b0, .int b1, .int b2, .int b3, .int b4] H1 (some (.int r1)) H2) (hrl : ∀ {b0 : Nat} {b1 : Int32} {b2 : Int32} {b3 : Int32} {b4 : Int32} {H1 H2 : qx_H} {r1 : Int32}, rc b0 b1 b2 b3 b4 H1 = some (r1, H2) → H2.length = H1.length) {a0 : Nat} {a1 : Int32} {a2 : Int32} {a3 : Int32} {a4 : Int32} {H : qx_H} {r : Int32} {H' : qx_H} (h : fm_X9_bodySays st rc a0 a1 a2 a3 a4 H = some (r, H')) : xE st (e + 1) 76 [.ref a0, .int a1, .int a2, .int a3, .int a4] H (some (.int r)) H' := by
  exact xE_of (xe76 st) xl76 (Nat.le_of_ble_eq_true rfl) (ls := [some (.ref a0), some (.int a1), some (.int a2), some (.int a3), some (.int a4), none, none]) rfl (tb_X9_bodySays_0 rc hB hrc hrl (Nat.le_refl _) ⟨rfl, rfl⟩ a0 a1 a2 a3 a4 H h)
theorem tl_X9_bodySays {st : xT} (rc : Nat → Int32 → Int32 → Int32 → Int32 → qx_H → Option (Int32 × qx_H)) (hrl : ∀ {b0 : Nat} {b1 : Int32} {b2 : Int32} {b3 : Int32} {b4 : Int32} {H1 H2 : qx_H} {r1 : Int32}, rc b0 b1 b2 b3 b4 H1 = some (r1, H2) → H2.length = H1.length) {a0 : Nat} {a1 : Int32} {a2 : Int32} {a3 : Int32} {a4 : Int32} {H : qx_H} {r : Int32} {H' : qx_H} (h : fm_X9_bodySays st rc a0 a1 a2 a3 a4 H = some (r, H')) : H'.length = H.length := tlb_X9_bodySays_0 rc hrl a0 a1 a2 a3 a4 H h
def fm_X9_speak_b6 (st : xT) (rc : Nat → Int32 → Int32 → Int32 → Int32 → qx_H → Option (Int32 × qx_H)) : Nat → Nat → Int32 → Int32 → Int32 → Int32 → Int32 → qx_H → Option (Int32 × qx_H)
  | 0, _, _, _, _, _, _, _ => none
  | n + 1, l0, l2, l3, l4, l5, l6, H => if 7 ≤ l6 then (some (0, H)) else (if l5 = (-1) then (some (0, H)) else (if ((4 * l5) + l2) < 0 then (some (0, H)) else ((hp_sln st 0).bind fun v37 => if ((4 * l5) + l2) < v37 then ((hp_sld st 0 ((4 * l5) + l2)).bind fun v48 => if v48 = 0 then (fm_X9_speak_b6 st rc n l0 l2 l3 l4 (fm_X2_above l5) (l6 + 1) H) else ((hp_sld st 0 ((4 * l5) + l2)).bind fun v58 => if hp_is H l0 7 = true then (ob2 (fm_X9_bodySays st rc l0 v58 (fm_X2_above l5) l3 l4 H) fun v67 H67 => some (v67, H67)) else none)) else (some (0, H)))))
def fm_X9_speak_e (st : xT) (rc : Nat → Int32 → Int32 → Int32 → Int32 → qx_H → Option (Int32 × qx_H)) (a0 : Nat) (a1 : Int32) (a2 : Int32) (a3 : Int32) (a4 : Int32) (H : qx_H) : Option (Int32 × qx_H) := fm_X9_speak_b6 st rc 5000 a0 a2 a3 a4 a1 0 H
def fm_X9_speak (st : xT) : Nat → Nat → Int32 → Int32 → Int32 → Int32 → qx_H → Option (Int32 × qx_H)
  | 0, _, _, _, _, _, _ => none
  | n + 1, a0, a1, a2, a3, a4, H => fm_X9_speak_e st (fm_X9_speak st n) a0 a1 a2 a3 a4 H
theorem tb_X9_speak_6 {st : xT} {e : Nat} {d : Nat} {R : Option Value → qx_H → Prop} (rc : Nat → Int32 → Int32 → Int32 → Int32 → qx_H → Option (Int32 × qx_H)) (hB : 1 ≤ e) (hrc : ∀ {b0 : Nat} {b1 : Int32} {b2 : Int32} {b3 : Int32} {b4 : Int32} {H1 H2 : qx_H} {r1 : Int32}, rc b0 b1 b2 b3 b4 H1 = some (r1, H2) → xE st e 75 [.ref b0, .int b1, .int b2, .int b3, .int b4] H1 (some (.int r1)) H2) (hrl : ∀ {b0 : Nat} {b1 : Int32} {b2 : Int32} {b3 : Int32} {b4 : Int32} {H1 H2 : qx_H} {r1 : Int32}, rc b0 b1 b2 b3 b4 H1 = some (r1, H2) → H2.length = H1.length) (hd : e + 1 ≤ d) {r : Int32} {H' : qx_H} (hR : R (some (.int r)) H') : ∀ (n : Nat) (l0 : Nat) (l2 : Int32) (l3 : Int32) (l4 : Int32) (l5 : Int32) (l6 : Int32) (z1 : Option Value) (hz1 : qx_ns z1 = true) (z7 : Option Value) (hz7 : qx_ns z7 = true) (H : qx_H) (h : fm_X9_speak_b6 st rc n l0 l2 l3 l4 l5 l6 H = some (r, H')), qx_V (xE st d) R (xc75 st) (6, [some (.ref l0), z1, some (.int l2), some (.int l3), some (.int l4), some (.int l5), some (.int l6), z7], [], H) := by
  intro n
  induction n with
  | zero => intro l0 l2 l3 l4 l5 l6 z1 hz1 z7 hz7 H h; exact nomatch (show (none : Option (Int32 × qx_H)) = some (r, H') from h)
  | succ n ih =>
    intro l0 l2 l3 l4 l5 l6 z1 hz1 z7 hz7 H h
    unfold fm_X9_speak_b6 at h
    refine qv_br (c := 7 ≤ l6) (a := (84, [some (.ref l0), z1, some (.int l2), some (.int l3), some (.int l4), some (.int l5), some (.int l6), z7], [], H)) (b := (13, [some (.ref l0), z1, some (.int l2), some (.int l3), some (.int l4), some (.int l5), some (.int l6), z7], [], H)) 3 rfl (fun c10 => ?_) (fun c10 => ?_)
    · replace h := qv_pos c10 h
      refine qv_run 1 (σ := (85, [some (.ref l0), z1, some (.int l2), some (.int l3), some (.int l4), some (.int l5), some (.int l6), z7], [.int 0], H)) rfl ?_
      obtain ⟨rfl, rfl⟩ := qv_pair h
      exact qv_reti rfl hR
    · replace h := qv_neg c10 h
      refine qv_br (c := l5 = (-1)) (a := (84, [some (.ref l0), z1, some (.int l2), some (.int l3), some (.int l4), some (.int l5), some (.int l6), z7], [], H)) (b := (19, [some (.ref l0), z1, some (.int l2), some (.int l3), some (.int l4), some (.int l5), some (.int l6), z7], [], H)) 3 rfl (fun c16 => ?_) (fun c16 => ?_)
      · replace h := qv_pos c16 h
        refine qv_run 1 (σ := (85, [some (.ref l0), z1, some (.int l2), some (.int l3), some (.int l4), some (.int l5), some (.int l6), z7], [.int 0], H)) rfl ?_
        obtain ⟨rfl, rfl⟩ := qv_pair h
        exact qv_reti rfl hR
      · replace h := qv_neg c16 h
        refine qv_br (c := ((4 * l5) + l2) < 0) (a := (41, [some (.ref l0), z1, some (.int l2), some (.int l3), some (.int l4), some (.int l5), some (.int l6), some (.int ((4 * l5) + l2))], [], H)) (b := (32, [some (.ref l0), z1, some (.int l2), some (.int l3), some (.int l4), some (.int l5), some (.int l6), some (.int ((4 * l5) + l2))], [], H)) 8 rfl (fun c29 => ?_) (fun c29 => ?_)
        · replace h := qv_pos c29 h
          refine qv_run 1 (σ := (42, [some (.ref l0), z1, some (.int l2), some (.int l3), some (.int l4), some (.int l5), some (.int l6), some (.int ((4 * l5) + l2))], [.int 0], H)) rfl ?_
          obtain ⟨rfl, rfl⟩ := qv_pair h
          exact qv_reti rfl hR
        · replace h := qv_neg c29 h
          refine qv_run 2 (σ := (37, [some (.ref l0), z1, some (.int l2), some (.int l3), some (.int l4), some (.int l5), some (.int l6), some (.int ((4 * l5) + l2))], [.float 0, .int ((4 * l5) + l2)], H)) rfl ?_
          obtain ⟨v37, e37, h⟩ := qv_bind h
          refine qv_sln rfl e37 ?_
          refine qv_br (c := ((4 * l5) + l2) < v37) (a := (43, [some (.ref l0), z1, some (.int l2), some (.int l3), some (.int l4), some (.int l5), some (.int l6), some (.int ((4 * l5) + l2))], [], H)) (b := (41, [some (.ref l0), z1, some (.int l2), some (.int l3), some (.int l4), some (.int l5), some (.int l6), some (.int ((4 * l5) + l2))], [], H)) 1 rfl (fun c38 => ?_) (fun c38 => ?_)
          · replace h := qv_pos c38 h
            refine qv_run 2 (σ := (48, [some (.ref l0), z1, some (.int l2), some (.int l3), some (.int l4), some (.int l5), some (.int l6), some (.int ((4 * l5) + l2))], [.int ((4 * l5) + l2), .float 0], H)) rfl ?_
            obtain ⟨v48, e48, h⟩ := qv_bind h
            refine qv_sld rfl e48 ?_
            refine qv_br (c := v48 = 0) (a := (71, [some (.ref l0), z1, some (.int l2), some (.int l3), some (.int l4), some (.int l5), some (.int l6), some (.int ((4 * l5) + l2))], [], H)) (b := (52, [some (.ref l0), z1, some (.int l2), some (.int l3), some (.int l4), some (.int l5), some (.int l6), some (.int ((4 * l5) + l2))], [], H)) 1 rfl (fun c49 => ?_) (fun c49 => ?_)
            · replace h := qv_pos c49 h
              refine qv_run 1 (σ := (73, [some (.ref l0), z1, some (.int l2), some (.int l3), some (.int l4), some (.int l5), some (.int l6), some (.int ((4 * l5) + l2))], [.int l5], H)) rfl ?_
              refine qv_call [.int l5] rfl rfl rfl (Nat.le_of_ble_eq_true rfl) (th_X2_above (by omega) rfl) rfl ?_
              refine qv_run 3 (σ := (6, [some (.ref l0), z1, some (.int l2), some (.int l3), some (.int l4), some (.int (fm_X2_above l5)), some (.int (l6 + 1)), some (.int ((4 * l5) + l2))], [], H)) rfl ?_
              exact ih l0 l2 l3 l4 (fm_X2_above l5) (l6 + 1) z1 hz1 (some (.int ((4 * l5) + l2))) rfl H h
            · replace h := qv_neg c49 h
              refine qv_run 3 (σ := (58, [some (.ref l0), z1, some (.int l2), some (.int l3), some (.int l4), some (.int l5), some (.int l6), some (.int ((4 * l5) + l2))], [.int ((4 * l5) + l2), .float 0, .ref l0], H)) rfl ?_
              obtain ⟨v58, e58, h⟩ := qv_bind h
              refine qv_sld rfl e58 ?_
              refine qv_run 1 (σ := (61, [some (.ref l0), z1, some (.int l2), some (.int l3), some (.int l4), some (.int l5), some (.int l6), some (.int ((4 * l5) + l2))], [.int l5, .int v58, .ref l0], H)) rfl ?_
              refine qv_call [.int l5] rfl rfl rfl (Nat.le_of_ble_eq_true rfl) (th_X2_above (by omega) rfl) rfl ?_
              refine qv_run 2 (σ := (67, [some (.ref l0), z1, some (.int l2), some (.int l3), some (.int l4), some (.int l5), some (.int l6), some (.int ((4 * l5) + l2))], [.int l4, .int l3, .int (fm_X2_above l5), .int v58, .ref l0], H)) rfl ?_
              obtain ⟨g67, h⟩ := qv_guard h
              obtain ⟨v67, H67, e67, h⟩ := qv_bind2 h
              refine qv_callV [.int v58, .int (fm_X2_above l5), .int l3, .int l4] rfl rfl rfl (Nat.le_of_ble_eq_true rfl) g67 (xE_le (by omega) (th_X9_bodySays rc hB hrc hrl e67)) (tl_X9_bodySays rc hrl e67) ?_
              obtain ⟨rfl, rfl⟩ := qv_pair h
              exact qv_reti rfl hR
          · replace h := qv_neg c38 h
            refine qv_run 1 (σ := (42, [some (.ref l0), z1, some (.int l2), some (.int l3), some (.int l4), some (.int l5), some (.int l6), some (.int ((4 * l5) + l2))], [.int 0], H)) rfl ?_
            obtain ⟨rfl, rfl⟩ := qv_pair h
            exact qv_reti rfl hR
theorem tlb_X9_speak_6 {st : xT} (rc : Nat → Int32 → Int32 → Int32 → Int32 → qx_H → Option (Int32 × qx_H)) (hrl : ∀ {b0 : Nat} {b1 : Int32} {b2 : Int32} {b3 : Int32} {b4 : Int32} {H1 H2 : qx_H} {r1 : Int32}, rc b0 b1 b2 b3 b4 H1 = some (r1, H2) → H2.length = H1.length) {r : Int32} {H' : qx_H} : ∀ (n : Nat) (l0 : Nat) (l2 : Int32) (l3 : Int32) (l4 : Int32) (l5 : Int32) (l6 : Int32) (H : qx_H) (h : fm_X9_speak_b6 st rc n l0 l2 l3 l4 l5 l6 H = some (r, H')), H'.length = H.length := by
  intro n
  induction n with
  | zero => intro l0 l2 l3 l4 l5 l6 H h; exact nomatch (show (none : Option (Int32 × qx_H)) = some (r, H') from h)
  | succ n ih =>
    intro l0 l2 l3 l4 l5 l6 H h
    unfold fm_X9_speak_b6 at h
    by_cases c10 : 7 ≤ l6
    · replace h := qv_pos c10 h
      obtain ⟨rfl, rfl⟩ := qv_pair h
      rfl
    · replace h := qv_neg c10 h
      by_cases c16 : l5 = (-1)
      · replace h := qv_pos c16 h
        obtain ⟨rfl, rfl⟩ := qv_pair h
        rfl
      · replace h := qv_neg c16 h
        by_cases c29 : ((4 * l5) + l2) < 0
        · replace h := qv_pos c29 h
          obtain ⟨rfl, rfl⟩ := qv_pair h
          rfl
        · replace h := qv_neg c29 h
          obtain ⟨v37, e37, h⟩ := qv_bind h
          by_cases c38 : ((4 * l5) + l2) < v37
          · replace h := qv_pos c38 h
            obtain ⟨v48, e48, h⟩ := qv_bind h
            by_cases c49 : v48 = 0
            · replace h := qv_pos c49 h
              exact ih l0 l2 l3 l4 (fm_X2_above l5) (l6 + 1) H h
            · replace h := qv_neg c49 h
              obtain ⟨v58, e58, h⟩ := qv_bind h
              obtain ⟨g67, h⟩ := qv_guard h
              obtain ⟨v67, H67, e67, h⟩ := qv_bind2 h
              have q_H67 := tl_X9_bodySays rc hrl e67
              obtain ⟨rfl, rfl⟩ := qv_pair h
              omega
          · replace h := qv_neg c38 h
            obtain ⟨rfl, rfl⟩ := qv_pair h
            rfl
theorem tb_X9_speak_0 {st : xT} {e : Nat} {d : Nat} {R : Option Value → qx_H → Prop} (rc : Nat → Int32 → Int32 → Int32 → Int32 → qx_H → Option (Int32 × qx_H)) (hB : 1 ≤ e) (hrc : ∀ {b0 : Nat} {b1 : Int32} {b2 : Int32} {b3 : Int32} {b4 : Int32} {H1 H2 : qx_H} {r1 : Int32}, rc b0 b1 b2 b3 b4 H1 = some (r1, H2) → xE st e 75 [.ref b0, .int b1, .int b2, .int b3, .int b4] H1 (some (.int r1)) H2) (hrl : ∀ {b0 : Nat} {b1 : Int32} {b2 : Int32} {b3 : Int32} {b4 : Int32} {H1 H2 : qx_H} {r1 : Int32}, rc b0 b1 b2 b3 b4 H1 = some (r1, H2) → H2.length = H1.length) (hd : e + 1 ≤ d) {r : Int32} {H' : qx_H} (hR : R (some (.int r)) H') (a0 : Nat) (a1 : Int32) (a2 : Int32) (a3 : Int32) (a4 : Int32) (H : qx_H) (h : fm_X9_speak_e st rc a0 a1 a2 a3 a4 H = some (r, H')) : qx_V (xE st d) R (xc75 st) (0, [some (.ref a0), some (.int a1), some (.int a2), some (.int a3), some (.int a4), none, none, none], [], H) := by
  unfold fm_X9_speak_e at h
  refine qv_run 4 (σ := (6, [some (.ref a0), some (.int a1), some (.int a2), some (.int a3), some (.int a4), some (.int a1), some (.int 0), none], [], H)) rfl ?_
  exact tb_X9_speak_6 rc hB hrc hrl hd hR 5000 a0 a2 a3 a4 a1 0 (some (.int a1)) rfl none rfl H h
theorem tlb_X9_speak_0 {st : xT} (rc : Nat → Int32 → Int32 → Int32 → Int32 → qx_H → Option (Int32 × qx_H)) (hrl : ∀ {b0 : Nat} {b1 : Int32} {b2 : Int32} {b3 : Int32} {b4 : Int32} {H1 H2 : qx_H} {r1 : Int32}, rc b0 b1 b2 b3 b4 H1 = some (r1, H2) → H2.length = H1.length) {r : Int32} {H' : qx_H} (a0 : Nat) (a1 : Int32) (a2 : Int32) (a3 : Int32) (a4 : Int32) (H : qx_H) (h : fm_X9_speak_e st rc a0 a1 a2 a3 a4 H = some (r, H')) : H'.length = H.length := by
  unfold fm_X9_speak_e at h
  exact tlb_X9_speak_6 rc hrl 5000 a0 a2 a3 a4 a1 0 H h
theorem tln_X9_speak {st : xT} : ∀ (n : Nat) {a0 : Nat} {a1 : Int32} {a2 : Int32} {a3 : Int32} {a4 : Int32} {H : qx_H} {r : Int32} {H' : qx_H}, fm_X9_speak st n a0 a1 a2 a3 a4 H = some (r, H') → H'.length = H.length := by
  intro n
  induction n with
  | zero => intro a0 a1 a2 a3 a4 H r H' h; exact nomatch (show (none : Option (Int32 × qx_H)) = some (r, H') from h)
  | succ n ih =>
    intro a0 a1 a2 a3 a4 H r H' h
    exact tlb_X9_speak_0 (fm_X9_speak st n) (fun h => ih h) a0 a1 a2 a3 a4 H h
theorem tl_X9_speak {st : xT} {a0 : Nat} {a1 : Int32} {a2 : Int32} {a3 : Int32} {a4 : Int32} {H : qx_H} {r : Int32} {H' : qx_H} (h : fm_X9_speak st 24 a0 a1 a2 a3 a4 H = some (r, H')) : H'.length = H.length := tln_X9_speak _ h
theorem thn_X9_speak {st : xT} : ∀ (n : Nat) {a0 : Nat} {a1 : Int32} {a2 : Int32} {a3 : Int32} {a4 : Int32} {H : qx_H} {r : Int32} {H' : qx_H}, fm_X9_speak st n a0 a1 a2 a3 a4 H = some (r, H') → xE st (1 + 2 * n) 75 [.ref a0, .int a1, .int a2, .int a3, .int a4] H (some (.int r)) H' := by
  intro n
  induction n with
  | zero => intro a0 a1 a2 a3 a4 H r H' h; exact nomatch (show (none : Option (Int32 × qx_H)) = some (r, H') from h)
  | succ n ih =>
    intro a0 a1 a2 a3 a4 H r H' h
    have hx : xE st (1 + 2 * n + 2) 75 [.ref a0, .int a1, .int a2, .int a3, .int a4] H (some (.int r)) H' := by
      exact xE_of (xe75 st) xl75 (Nat.le_of_ble_eq_true rfl) (ls := [some (.ref a0), some (.int a1), some (.int a2), some (.int a3), some (.int a4), none, none, none]) rfl (tb_X9_speak_0 (e := 1 + 2 * n) (fm_X9_speak st n) (by omega) (fun h => ih h) (fun h => tln_X9_speak n h) (Nat.le_refl _) ⟨rfl, rfl⟩ a0 a1 a2 a3 a4 H h)
    exact xE_le (by omega) hx
theorem th_X9_speak {st : xT} {d : Nat} (hd : 49 ≤ d) {a0 : Nat} {a1 : Int32} {a2 : Int32} {a3 : Int32} {a4 : Int32} {H : qx_H} {r : Int32} {H' : qx_H} (h : fm_X9_speak st 24 a0 a1 a2 a3 a4 H = some (r, H')) : xE st d 75 [.ref a0, .int a1, .int a2, .int a3, .int a4] H (some (.int r)) H' := xE_le (by omega) (thn_X9_speak 24 h)
theorem th_X9_bodySays_x {st : xT} {d : Nat} (hd : 50 ≤ d) {a0 : Nat} {a1 : Int32} {a2 : Int32} {a3 : Int32} {a4 : Int32} {H : qx_H} {r : Int32} {H' : qx_H} (h : fm_X9_bodySays st (fm_X9_speak st 24) a0 a1 a2 a3 a4 H = some (r, H')) : xE st d 76 [.ref a0, .int a1, .int a2, .int a3, .int a4] H (some (.int r)) H' := xE_le (by omega) (th_X9_bodySays _ (e := 1 + 2 * 24) (by omega) (fun h => thn_X9_speak 24 h) (fun h => tln_X9_speak 24 h) h)
theorem tl_X9_bodySays_x {st : xT} {a0 : Nat} {a1 : Int32} {a2 : Int32} {a3 : Int32} {a4 : Int32} {H : qx_H} {r : Int32} {H' : qx_H} (h : fm_X9_bodySays st (fm_X9_speak st 24) a0 a1 a2 a3 a4 H = some (r, H')) : H'.length = H.length := tl_X9_bodySays _ (fun h => tln_X9_speak 24 h) h
def fm_X9_hear (st : xT) (a0 : Nat) (a1 : Int32) (a2 : Int32) (a3 : Int32) (a4 : Int32) (a5 : Int32) (H : qx_H) : Option (Int32 × qx_H) := (hp_put H a0 7 3 (.int a1)).bind fun H2 => (hp_put H2 a0 7 4 (.int a2)).bind fun H7 => (hp_put H7 a0 7 5 (.int a3)).bind fun H12 => (hp_put H12 a0 7 1 (.int 0)).bind fun H17 => (hp_put H17 a0 7 2 (.int 0)).bind fun H22 => (hp_gI H22 a0 7 3).bind fun v27 => if hp_is H22 a0 7 = true then (ob2 (fm_X9_speak st 24 a0 v27 a4 a5 0 H22) fun v35 H35 => some (v35, H35)) else none
theorem tb_X9_hear_0 {st : xT} {d : Nat} {R : Option Value → qx_H → Prop} (hd : 49 ≤ d) {r : Int32} {H' : qx_H} (hR : R (some (.int r)) H') (a0 : Nat) (a1 : Int32) (a2 : Int32) (a3 : Int32) (a4 : Int32) (a5 : Int32) (H : qx_H) (h : fm_X9_hear st a0 a1 a2 a3 a4 a5 H = some (r, H')) : qx_V (xE st d) R (xc74 st) (0, [some (.ref a0), some (.int a1), some (.int a2), some (.int a3), some (.int a4), some (.int a5)], [], H) := by
  unfold fm_X9_hear at h
  refine qv_run 2 (σ := (2, [some (.ref a0), some (.int a1), some (.int a2), some (.int a3), some (.int a4), some (.int a5)], [.int a1, .ref a0], H)) rfl ?_
  obtain ⟨H2, e2, h⟩ := qv_bind h
  refine qv_putI rfl e2 ?_
  refine qv_run 2 (σ := (7, [some (.ref a0), some (.int a1), some (.int a2), some (.int a3), some (.int a4), some (.int a5)], [.int a2, .ref a0], H2)) rfl ?_
  obtain ⟨H7, e7, h⟩ := qv_bind h
  refine qv_putI rfl e7 ?_
  refine qv_run 2 (σ := (12, [some (.ref a0), some (.int a1), some (.int a2), some (.int a3), some (.int a4), some (.int a5)], [.int a3, .ref a0], H7)) rfl ?_
  obtain ⟨H12, e12, h⟩ := qv_bind h
  refine qv_putI rfl e12 ?_
  refine qv_run 2 (σ := (17, [some (.ref a0), some (.int a1), some (.int a2), some (.int a3), some (.int a4), some (.int a5)], [.int 0, .ref a0], H12)) rfl ?_
  obtain ⟨H17, e17, h⟩ := qv_bind h
  refine qv_putI rfl e17 ?_
  refine qv_run 2 (σ := (22, [some (.ref a0), some (.int a1), some (.int a2), some (.int a3), some (.int a4), some (.int a5)], [.int 0, .ref a0], H17)) rfl ?_
  obtain ⟨H22, e22, h⟩ := qv_bind h
  refine qv_putZ rfl (Or.inl rfl) e22 ?_
  refine qv_run 2 (σ := (27, [some (.ref a0), some (.int a1), some (.int a2), some (.int a3), some (.int a4), some (.int a5)], [.ref a0, .ref a0], H22)) rfl ?_
  obtain ⟨v27, e27, h⟩ := qv_bind h
  refine qv_getI rfl e27 ?_
  refine qv_run 3 (σ := (35, [some (.ref a0), some (.int a1), some (.int a2), some (.int a3), some (.int a4), some (.int a5)], [.int 0, .int a5, .int a4, .int v27, .ref a0], H22)) rfl ?_
  obtain ⟨g35, h⟩ := qv_guard h
  obtain ⟨v35, H35, e35, h⟩ := qv_bind2 h
  refine qv_callV [.int v27, .int a4, .int a5, .int 0] rfl rfl rfl (Nat.le_of_ble_eq_true rfl) g35 (th_X9_speak (by omega) e35) (tl_X9_speak e35) ?_
  obtain ⟨rfl, rfl⟩ := qv_pair h
  exact qv_reti rfl hR
theorem tlb_X9_hear_0 {st : xT} {r : Int32} {H' : qx_H} (a0 : Nat) (a1 : Int32) (a2 : Int32) (a3 : Int32) (a4 : Int32) (a5 : Int32) (H : qx_H) (h : fm_X9_hear st a0 a1 a2 a3 a4 a5 H = some (r, H')) : H'.length = H.length := by
  unfold fm_X9_hear at h
  obtain ⟨H2, e2, h⟩ := qv_bind h
  have q_H2 := hp_put_len e2
  obtain ⟨H7, e7, h⟩ := qv_bind h
  have q_H7 := hp_put_len e7
  obtain ⟨H12, e12, h⟩ := qv_bind h
  have q_H12 := hp_put_len e12
  obtain ⟨H17, e17, h⟩ := qv_bind h
  have q_H17 := hp_put_len e17
  obtain ⟨H22, e22, h⟩ := qv_bind h
  have q_H22 := hp_put_len e22
  obtain ⟨v27, e27, h⟩ := qv_bind h
  obtain ⟨g35, h⟩ := qv_guard h
  obtain ⟨v35, H35, e35, h⟩ := qv_bind2 h
  have q_H35 := tl_X9_speak e35
  obtain ⟨rfl, rfl⟩ := qv_pair h
  omega
theorem th_X9_hear {st : xT} {d : Nat} (hd : 50 ≤ d) {a0 : Nat} {a1 : Int32} {a2 : Int32} {a3 : Int32} {a4 : Int32} {a5 : Int32} {H : qx_H} {r : Int32} {H' : qx_H} (h : fm_X9_hear st a0 a1 a2 a3 a4 a5 H = some (r, H')) : xE st d 74 [.ref a0, .int a1, .int a2, .int a3, .int a4, .int a5] H (some (.int r)) H' := by
  obtain ⟨d, rfl⟩ : ∃ d', d = d' + 1 := ⟨d - 1, by omega⟩
  exact xE_of (xe74 st) xl74 (Nat.le_of_ble_eq_true rfl) (ls := [some (.ref a0), some (.int a1), some (.int a2), some (.int a3), some (.int a4), some (.int a5)]) rfl (tb_X9_hear_0 (by omega) ⟨rfl, rfl⟩ a0 a1 a2 a3 a4 a5 H h)
theorem tl_X9_hear {st : xT} {a0 : Nat} {a1 : Int32} {a2 : Int32} {a3 : Int32} {a4 : Int32} {a5 : Int32} {H : qx_H} {r : Int32} {H' : qx_H} (h : fm_X9_hear st a0 a1 a2 a3 a4 a5 H = some (r, H')) : H'.length = H.length := tlb_X9_hear_0 a0 a1 a2 a3 a4 a5 H h
def fm_X10_init_b115 : Nat → Nat → Int32 → qx_H → Option qx_H
  | 0, _, _, _ => none
  | n + 1, l0, l1, H => if 4 ≤ l1 then (some H) else ((hp_gR H l0 8 8).bind fun v121 => if qx_ok [some (.ref l0), some (.int l1)] [.int l1, .ref v121] H = true then (if hp_is (H ++ ([.inr (5, [.null, .int 0, .int 0])] : qx_H)) H.length 5 = true then (if qx_okl (H ++ ([.inr (5, [.null, .int 0, .int 0])] : qx_H)).length [some (.ref l0), some (.int l1)] [.ref H.length, .int l1, .ref v121] = true then ((fm_X7_init H.length (H ++ ([.inr (5, [.null, .int 0, .int 0])] : qx_H))).bind fun H129 => (hp_rast H129 v121 l1 5 H.length).bind fun H132 => fm_X10_init_b115 n l0 (l1 + 1) H132) else none) else none) else none)
def fm_X10_init (a0 : Nat) (H : qx_H) : Option qx_H := if qx_ok [some (.ref a0), none] [.ref a0] H = true then (if hp_is (H ++ ([.inr (4, [.null, .null, .null, .null, .int 0, .int 0, .int 0, .int 0])] : qx_H)) H.length 4 = true then (if qx_okl (H ++ ([.inr (4, [.null, .null, .null, .null, .int 0, .int 0, .int 0, .int 0])] : qx_H)).length [some (.ref a0), none] [.ref H.length, .ref a0] = true then ((fm_X6_init H.length (H ++ ([.inr (4, [.null, .null, .null, .null, .int 0, .int 0, .int 0, .int 0])] : qx_H))).bind fun H9 => (hp_put H9 a0 8 0 (.ref H.length)).bind fun H12 => if qx_ok [some (.ref a0), none] [.ref a0] H12 = true then (if hp_is (H12 ++ ([.inr (4, [.null, .null, .null, .null, .int 0, .int 0, .int 0, .int 0])] : qx_H)) H12.length 4 = true then (if qx_okl (H12 ++ ([.inr (4, [.null, .null, .null, .null, .int 0, .int 0, .int 0, .int 0])] : qx_H)).length [some (.ref a0), none] [.ref H12.length, .ref a0] = true then ((fm_X6_init H12.length (H12 ++ ([.inr (4, [.null, .null, .null, .null, .int 0, .int 0, .int 0, .int 0])] : qx_H))).bind fun H20 => (hp_put H20 a0 8 1 (.ref H12.length)).bind fun H23 => if qx_ok [some (.ref a0), none] [.ref a0] H23 = true then (if hp_is (H23 ++ ([.inr (3, [.null, .null, .null, .null, .null, .null, .null, .null, .null, .int 0, .int 0])] : qx_H)) H23.length 3 = true then (if qx_okl (H23 ++ ([.inr (3, [.null, .null, .null, .null, .null, .null, .null, .null, .null, .int 0, .int 0])] : qx_H)).length [some (.ref a0), none] [.ref H23.length, .ref a0] = true then ((fm_X5_init H23.length (H23 ++ ([.inr (3, [.null, .null, .null, .null, .null, .null, .null, .null, .null, .int 0, .int 0])] : qx_H))).bind fun H31 => (hp_put H31 a0 8 2 (.ref H23.length)).bind fun H34 => if qx_ok [some (.ref a0), none] [.ref a0] H34 = true then (if hp_is (H34 ++ ([.inr (3, [.null, .null, .null, .null, .null, .null, .null, .null, .null, .int 0, .int 0])] : qx_H)) H34.length 3 = true then (if qx_okl (H34 ++ ([.inr (3, [.null, .null, .null, .null, .null, .null, .null, .null, .null, .int 0, .int 0])] : qx_H)).length [some (.ref a0), none] [.ref H34.length, .ref a0] = true then ((fm_X5_init H34.length (H34 ++ ([.inr (3, [.null, .null, .null, .null, .null, .null, .null, .null, .null, .int 0, .int 0])] : qx_H))).bind fun H42 => (hp_put H42 a0 8 3 (.ref H34.length)).bind fun H45 => if qx_ok [some (.ref a0), none] [.ref a0] H45 = true then (if hp_is (H45 ++ ([.inr (6, [.null, .null, .int 0, .int 0, .int 0])] : qx_H)) H45.length 6 = true then (if qx_okl (H45 ++ ([.inr (6, [.null, .null, .int 0, .int 0, .int 0])] : qx_H)).length [some (.ref a0), none] [.ref H45.length, .ref a0] = true then ((fm_X8_init H45.length (H45 ++ ([.inr (6, [.null, .null, .int 0, .int 0, .int 0])] : qx_H))).bind fun H53 => (hp_put H53 a0 8 4 (.ref H45.length)).bind fun H56 => if qx_ok [some (.ref a0), none] [.ref a0] H56 = true then (if hp_is (H56 ++ ([.inr (2, [.null])] : qx_H)) H56.length 2 = true then (if qx_okl (H56 ++ ([.inr (2, [.null])] : qx_H)).length [some (.ref a0), none] [.ref H56.length, .ref a0] = true then ((fm_X4_init H56.length (H56 ++ ([.inr (2, [.null])] : qx_H))).bind fun H64 => (hp_put H64 a0 8 5 (.ref H56.length)).bind fun H67 => if qx_ok [some (.ref a0), none] [.ref a0] H67 = true then (if hp_is (H67 ++ ([.inr (0, [.null, .null, .null, .null, .int 0])] : qx_H)) H67.length 0 = true then (if qx_okl (H67 ++ ([.inr (0, [.null, .null, .null, .null, .int 0])] : qx_H)).length [some (.ref a0), none] [.ref H67.length, .ref a0] = true then ((fm_X1_init H67.length (H67 ++ ([.inr (0, [.null, .null, .null, .null, .int 0])] : qx_H))).bind fun H75 => (hp_put H75 a0 8 6 (.ref H67.length)).bind fun H78 => if qx_ok [some (.ref a0), none] [.ref a0] H78 = true then (if hp_is (H78 ++ ([.inr (7, [.null, .int 0, .int 0, .int 0, .int 0, .int 0])] : qx_H)) H78.length 7 = true then (if qx_okl (H78 ++ ([.inr (7, [.null, .int 0, .int 0, .int 0, .int 0, .int 0])] : qx_H)).length [some (.ref a0), none] [.ref H78.length, .ref a0] = true then ((fm_X9_init H78.length (H78 ++ ([.inr (7, [.null, .int 0, .int 0, .int 0, .int 0, .int 0])] : qx_H))).bind fun H86 => (hp_put H86 a0 8 7 (.ref H78.length)).bind fun H89 => if ¬ ((4 : Int32) < 0 ∨ 100000 < Int32.toNatClampNeg 4) ∧ qx_ok [some (.ref a0), none] [.ref a0] H89 = true then ((hp_put (H89 ++ ([.inl (Int32.toNatClampNeg 4, .inr (.inr (.inr (.inr fun _ => none))))] : qx_H)) a0 8 8 (.ref H89.length)).bind fun H97 => if ¬ ((7 : Int32) < 0 ∨ 100000 < Int32.toNatClampNeg 7) ∧ qx_ok [some (.ref a0), none] [.ref a0] H97 = true then ((hp_put (H97 ++ ([.inl (Int32.toNatClampNeg 7, .inl fun _ => 0)] : qx_H)) a0 8 9 (.ref H97.length)).bind fun H105 => (hp_put H105 a0 8 10 (.int 0)).bind fun H110 => fm_X10_init_b115 5000 a0 0 H110) else none) else none) else none) else none) else none) else none) else none) else none) else none) else none) else none) else none) else none) else none) else none) else none) else none) else none) else none) else none) else none) else none) else none) else none) else none) else none
theorem tb_X10_init_115 {st : xT} {d : Nat} {R : Option Value → qx_H → Prop} (hd : 3 ≤ d) {H' : qx_H} (hR : R (none) H') : ∀ (n : Nat) (l0 : Nat) (l1 : Int32) (H : qx_H) (h : fm_X10_init_b115 n l0 l1 H = some H'), qx_V (xE st d) R (xc77 st) (115, [some (.ref l0), some (.int l1)], [], H) := by
  intro n
  induction n with
  | zero => intro l0 l1 H h; exact nomatch (show (none : Option qx_H) = some H' from h)
  | succ n ih =>
    intro l0 l1 H h
    unfold fm_X10_init_b115 at h
    refine qv_br (c := 4 ≤ l1) (a := (139, [some (.ref l0), some (.int l1)], [], H)) (b := (120, [some (.ref l0), some (.int l1)], [], H)) 3 rfl (fun c117 => ?_) (fun c117 => ?_)
    · replace h := qv_pos c117 h
      cases h
      exact qv_ret0 rfl hR
    · replace h := qv_neg c117 h
      refine qv_run 1 (σ := (121, [some (.ref l0), some (.int l1)], [.ref l0], H)) rfl ?_
      obtain ⟨v121, e121, h⟩ := qv_bind h
      refine qv_getR rfl e121 ?_
      refine qv_run 1 (σ := (125, [some (.ref l0), some (.int l1)], [.int l1, .ref v121], H)) rfl ?_
      obtain ⟨e125, h⟩ := qv_guard h
      refine qv_new rfl e125 ?_
      refine qv_run 1 (σ := (129, [some (.ref l0), some (.int l1)], [.ref H.length, .ref H.length, .int l1, .ref v121], (H ++ ([.inr (5, [.null, .int 0, .int 0])] : qx_H)))) rfl ?_
      obtain ⟨g129, h⟩ := qv_guard h
      obtain ⟨g129l, h⟩ := qv_guard h
      obtain ⟨H129, e129, h⟩ := qv_bind h
      refine qv_callA [] rfl rfl rfl (Nat.le_of_ble_eq_true rfl) g129 (th_X7_init (by omega) e129) g129l ?_
      obtain ⟨H132, e132, h⟩ := qv_bind h
      refine qv_rast rfl e132 ?_
      refine qv_run 2 (σ := (115, [some (.ref l0), some (.int (l1 + 1))], [], H132)) rfl ?_
      exact ih l0 (l1 + 1) H132 h
theorem tb_X10_init_0 {st : xT} {d : Nat} {R : Option Value → qx_H → Prop} (hd : 3 ≤ d) {H' : qx_H} (hR : R (none) H') (a0 : Nat) (H : qx_H) (h : fm_X10_init a0 H = some H') : qx_V (xE st d) R (xc77 st) (0, [some (.ref a0), none], [], H) := by
  unfold fm_X10_init at h
  refine qv_run 3 (σ := (5, [some (.ref a0), none], [.ref a0], H)) rfl ?_
  obtain ⟨e5, h⟩ := qv_guard h
  refine qv_new rfl e5 ?_
  refine qv_run 1 (σ := (9, [some (.ref a0), none], [.ref H.length, .ref H.length, .ref a0], (H ++ ([.inr (4, [.null, .null, .null, .null, .int 0, .int 0, .int 0, .int 0])] : qx_H)))) rfl ?_
  obtain ⟨g9, h⟩ := qv_guard h
  obtain ⟨g9l, h⟩ := qv_guard h
  obtain ⟨H9, e9, h⟩ := qv_bind h
  refine qv_callA [] rfl rfl rfl (Nat.le_of_ble_eq_true rfl) g9 (th_X6_init (by omega) e9) g9l ?_
  obtain ⟨H12, e12, h⟩ := qv_bind h
  refine qv_putR rfl e12 ?_
  refine qv_run 1 (σ := (16, [some (.ref a0), none], [.ref a0], H12)) rfl ?_
  obtain ⟨e16, h⟩ := qv_guard h
  refine qv_new rfl e16 ?_
  refine qv_run 1 (σ := (20, [some (.ref a0), none], [.ref H12.length, .ref H12.length, .ref a0], (H12 ++ ([.inr (4, [.null, .null, .null, .null, .int 0, .int 0, .int 0, .int 0])] : qx_H)))) rfl ?_
  obtain ⟨g20, h⟩ := qv_guard h
  obtain ⟨g20l, h⟩ := qv_guard h
  obtain ⟨H20, e20, h⟩ := qv_bind h
  refine qv_callA [] rfl rfl rfl (Nat.le_of_ble_eq_true rfl) g20 (th_X6_init (by omega) e20) g20l ?_
  obtain ⟨H23, e23, h⟩ := qv_bind h
  refine qv_putR rfl e23 ?_
  refine qv_run 1 (σ := (27, [some (.ref a0), none], [.ref a0], H23)) rfl ?_
  obtain ⟨e27, h⟩ := qv_guard h
  refine qv_new rfl e27 ?_
  refine qv_run 1 (σ := (31, [some (.ref a0), none], [.ref H23.length, .ref H23.length, .ref a0], (H23 ++ ([.inr (3, [.null, .null, .null, .null, .null, .null, .null, .null, .null, .int 0, .int 0])] : qx_H)))) rfl ?_
  obtain ⟨g31, h⟩ := qv_guard h
  obtain ⟨g31l, h⟩ := qv_guard h
  obtain ⟨H31, e31, h⟩ := qv_bind h
  refine qv_callA [] rfl rfl rfl (Nat.le_of_ble_eq_true rfl) g31 (th_X5_init (by omega) e31) g31l ?_
  obtain ⟨H34, e34, h⟩ := qv_bind h
  refine qv_putR rfl e34 ?_
  refine qv_run 1 (σ := (38, [some (.ref a0), none], [.ref a0], H34)) rfl ?_
  obtain ⟨e38, h⟩ := qv_guard h
  refine qv_new rfl e38 ?_
  refine qv_run 1 (σ := (42, [some (.ref a0), none], [.ref H34.length, .ref H34.length, .ref a0], (H34 ++ ([.inr (3, [.null, .null, .null, .null, .null, .null, .null, .null, .null, .int 0, .int 0])] : qx_H)))) rfl ?_
  obtain ⟨g42, h⟩ := qv_guard h
  obtain ⟨g42l, h⟩ := qv_guard h
  obtain ⟨H42, e42, h⟩ := qv_bind h
  refine qv_callA [] rfl rfl rfl (Nat.le_of_ble_eq_true rfl) g42 (th_X5_init (by omega) e42) g42l ?_
  obtain ⟨H45, e45, h⟩ := qv_bind h
  refine qv_putR rfl e45 ?_
  refine qv_run 1 (σ := (49, [some (.ref a0), none], [.ref a0], H45)) rfl ?_
  obtain ⟨e49, h⟩ := qv_guard h
  refine qv_new rfl e49 ?_
  refine qv_run 1 (σ := (53, [some (.ref a0), none], [.ref H45.length, .ref H45.length, .ref a0], (H45 ++ ([.inr (6, [.null, .null, .int 0, .int 0, .int 0])] : qx_H)))) rfl ?_
  obtain ⟨g53, h⟩ := qv_guard h
  obtain ⟨g53l, h⟩ := qv_guard h
  obtain ⟨H53, e53, h⟩ := qv_bind h
  refine qv_callA [] rfl rfl rfl (Nat.le_of_ble_eq_true rfl) g53 (th_X8_init (by omega) e53) g53l ?_
  obtain ⟨H56, e56, h⟩ := qv_bind h
  refine qv_putR rfl e56 ?_
  refine qv_run 1 (σ := (60, [some (.ref a0), none], [.ref a0], H56)) rfl ?_
  obtain ⟨e60, h⟩ := qv_guard h
  refine qv_new rfl e60 ?_
  refine qv_run 1 (σ := (64, [some (.ref a0), none], [.ref H56.length, .ref H56.length, .ref a0], (H56 ++ ([.inr (2, [.null])] : qx_H)))) rfl ?_
  obtain ⟨g64, h⟩ := qv_guard h
  obtain ⟨g64l, h⟩ := qv_guard h
  obtain ⟨H64, e64, h⟩ := qv_bind h
  refine qv_callA [] rfl rfl rfl (Nat.le_of_ble_eq_true rfl) g64 (th_X4_init (by omega) e64) g64l ?_
  obtain ⟨H67, e67, h⟩ := qv_bind h
  refine qv_putR rfl e67 ?_
  refine qv_run 1 (σ := (71, [some (.ref a0), none], [.ref a0], H67)) rfl ?_
  obtain ⟨e71, h⟩ := qv_guard h
  refine qv_new rfl e71 ?_
  refine qv_run 1 (σ := (75, [some (.ref a0), none], [.ref H67.length, .ref H67.length, .ref a0], (H67 ++ ([.inr (0, [.null, .null, .null, .null, .int 0])] : qx_H)))) rfl ?_
  obtain ⟨g75, h⟩ := qv_guard h
  obtain ⟨g75l, h⟩ := qv_guard h
  obtain ⟨H75, e75, h⟩ := qv_bind h
  refine qv_callA [] rfl rfl rfl (Nat.le_of_ble_eq_true rfl) g75 (th_X1_init (by omega) e75) g75l ?_
  obtain ⟨H78, e78, h⟩ := qv_bind h
  refine qv_putR rfl e78 ?_
  refine qv_run 1 (σ := (82, [some (.ref a0), none], [.ref a0], H78)) rfl ?_
  obtain ⟨e82, h⟩ := qv_guard h
  refine qv_new rfl e82 ?_
  refine qv_run 1 (σ := (86, [some (.ref a0), none], [.ref H78.length, .ref H78.length, .ref a0], (H78 ++ ([.inr (7, [.null, .int 0, .int 0, .int 0, .int 0, .int 0])] : qx_H)))) rfl ?_
  obtain ⟨g86, h⟩ := qv_guard h
  obtain ⟨g86l, h⟩ := qv_guard h
  obtain ⟨H86, e86, h⟩ := qv_bind h
  refine qv_callA [] rfl rfl rfl (Nat.le_of_ble_eq_true rfl) g86 (th_X9_init (by omega) e86) g86l ?_
  obtain ⟨H89, e89, h⟩ := qv_bind h
  refine qv_putR rfl e89 ?_
  refine qv_run 2 (σ := (94, [some (.ref a0), none], [.int 4, .ref a0], H89)) rfl ?_
  obtain ⟨e94, h⟩ := qv_guard h
  refine qv_newq rfl e94.1 e94.2 ?_
  obtain ⟨H97, e97, h⟩ := qv_bind h
  refine qv_putR rfl e97 ?_
  refine qv_run 2 (σ := (103, [some (.ref a0), none], [.int 7, .ref a0], H97)) rfl ?_
  obtain ⟨e103, h⟩ := qv_guard h
  refine qv_newa rfl e103.1 e103.2 ?_
  obtain ⟨H105, e105, h⟩ := qv_bind h
  refine qv_putR rfl e105 ?_
  refine qv_run 2 (σ := (110, [some (.ref a0), none], [.int 0, .ref a0], H105)) rfl ?_
  obtain ⟨H110, e110, h⟩ := qv_bind h
  refine qv_putI rfl e110 ?_
  refine qv_run 2 (σ := (115, [some (.ref a0), some (.int 0)], [], H110)) rfl ?_
  exact tb_X10_init_115 hd hR 5000 a0 0 H110 h
theorem th_X10_init {st : xT} {d : Nat} (hd : 4 ≤ d) {a0 : Nat} {H : qx_H} {H' : qx_H} (h : fm_X10_init a0 H = some H') : xE st d 77 [.ref a0] H (none) H' := by
  obtain ⟨d, rfl⟩ : ∃ d', d = d' + 1 := ⟨d - 1, by omega⟩
  exact xE_of (xe77 st) xl77 (Nat.le_of_ble_eq_true rfl) (ls := [some (.ref a0), none]) rfl (tb_X10_init_0 (by omega) ⟨rfl, rfl⟩ a0 H h)
def fm_X10_isWithin (a0 : Int32) (a1 : Int32) (a2 : Int32) : Int32 := if a0 < a1 then (0) else (if a2 < a0 then (0) else (1))
theorem tb_X10_isWithin_0 {st : xT} {d : Nat} {R : Option Value → qx_H → Prop} (hd : 0 ≤ d) {r : Int32} {H : qx_H} (hR : R (some (.int r)) H) (a0 : Int32) (a1 : Int32) (a2 : Int32) (h : fm_X10_isWithin a0 a1 a2 = r) : qx_V (xE st d) R (xc118 st) (0, [some (.int a0), some (.int a1), some (.int a2)], [], H) := by
  unfold fm_X10_isWithin at h
  refine qv_br (c := a0 < a1) (a := (14, [some (.int a0), some (.int a1), some (.int a2)], [], H)) (b := (5, [some (.int a0), some (.int a1), some (.int a2)], [], H)) 3 rfl (fun c2 => ?_) (fun c2 => ?_)
  · replace h := qv_pos c2 h
    refine qv_run 1 (σ := (15, [some (.int a0), some (.int a1), some (.int a2)], [.int 0], H)) rfl ?_
    subst h
    exact qv_retz rfl (Or.inl rfl) hR
  · replace h := qv_neg c2 h
    refine qv_br (c := a2 < a0) (a := (14, [some (.int a0), some (.int a1), some (.int a2)], [], H)) (b := (10, [some (.int a0), some (.int a1), some (.int a2)], [], H)) 3 rfl (fun c7 => ?_) (fun c7 => ?_)
    · replace h := qv_pos c7 h
      refine qv_run 1 (σ := (15, [some (.int a0), some (.int a1), some (.int a2)], [.int 0], H)) rfl ?_
      subst h
      exact qv_retz rfl (Or.inl rfl) hR
    · replace h := qv_neg c7 h
      refine qv_run 2 (σ := (15, [some (.int a0), some (.int a1), some (.int a2)], [.int 1], H)) rfl ?_
      subst h
      exact qv_retz rfl (Or.inr rfl) hR
theorem tzb_X10_isWithin_0 {r : Int32} (a0 : Int32) (a1 : Int32) (a2 : Int32) (h : fm_X10_isWithin a0 a1 a2 = r) : r = 0 ∨ r = 1 := by
  unfold fm_X10_isWithin at h
  by_cases c2 : a0 < a1
  · replace h := qv_pos c2 h
    subst h
    exact Or.inl rfl
  · replace h := qv_neg c2 h
    by_cases c7 : a2 < a0
    · replace h := qv_pos c7 h
      subst h
      exact Or.inl rfl
    · replace h := qv_neg c7 h
      subst h
      exact Or.inr rfl
theorem th_X10_isWithin {st : xT} {d : Nat} (hd : 1 ≤ d) {a0 : Int32} {a1 : Int32} {a2 : Int32} {r : Int32} {H : qx_H} (h : fm_X10_isWithin a0 a1 a2 = r) : xE st d 118 [.int a0, .int a1, .int a2] H (some (.int r)) H := by
  obtain ⟨d, rfl⟩ : ∃ d', d = d' + 1 := ⟨d - 1, by omega⟩
  exact xE_of (xe118 st) xl118 (Nat.le_of_ble_eq_true rfl) (ls := [some (.int a0), some (.int a1), some (.int a2)]) rfl (tb_X10_isWithin_0 (by omega) ⟨rfl, rfl⟩ a0 a1 a2 h)
theorem tz_X10_isWithin {a0 : Int32} {a1 : Int32} {a2 : Int32} {r : Int32} (h : fm_X10_isWithin a0 a1 a2 = r) : r = 0 ∨ r = 1 := tzb_X10_isWithin_0 a0 a1 a2 h
theorem fz_X10_isWithin {a0 : Int32} {a1 : Int32} {a2 : Int32} : fm_X10_isWithin a0 a1 a2 = 0 ∨ fm_X10_isWithin a0 a1 a2 = 1 := tz_X10_isWithin rfl
def fm_X10_refuse (a0 : Nat) (a1 : Int32) (H : qx_H) : Option (Int32 × qx_H) := if (fm_X10_isWithin ((-1000000000) - a1) 1 6) = 0 then (some (a1, H)) else ((hp_gR H a0 8 9).bind fun v17 => (hp_ald H v17 ((-1000000000) - a1)).bind fun v22 => (hp_ast H v17 ((-1000000000) - a1) (v22 + 1)).bind fun H25 => some (a1, H25))
theorem tb_X10_refuse_0 {st : xT} {d : Nat} {R : Option Value → qx_H → Prop} (hd : 1 ≤ d) {r : Int32} {H' : qx_H} (hR : R (some (.int r)) H') (a0 : Nat) (a1 : Int32) (H : qx_H) (h : fm_X10_refuse a0 a1 H = some (r, H')) : qx_V (xE st d) R (xc120 st) (0, [some (.ref a0), some (.int a1), none], [], H) := by
  unfold fm_X10_refuse at h
  refine qv_run 7 (σ := (10, [some (.ref a0), some (.int a1), some (.int ((-1000000000) - a1))], [.int 6, .int 1, .int ((-1000000000) - a1)], H)) rfl ?_
  refine qv_call [.int ((-1000000000) - a1), .int 1, .int 6] rfl rfl rfl (Nat.le_of_ble_eq_true rfl) (th_X10_isWithin (by omega) rfl) rfl ?_
  refine qv_br (c := (fm_X10_isWithin ((-1000000000) - a1) 1 6) = 0) (a := (26, [some (.ref a0), some (.int a1), some (.int ((-1000000000) - a1))], [], H)) (b := (16, [some (.ref a0), some (.int a1), some (.int ((-1000000000) - a1))], [], H)) 1 rfl (fun c13 => ?_) (fun c13 => ?_)
  · replace h := qv_pos c13 h
    refine qv_run 1 (σ := (27, [some (.ref a0), some (.int a1), some (.int ((-1000000000) - a1))], [.int a1], H)) rfl ?_
    obtain ⟨rfl, rfl⟩ := qv_pair h
    exact qv_reti rfl hR
  · replace h := qv_neg c13 h
    refine qv_run 1 (σ := (17, [some (.ref a0), some (.int a1), some (.int ((-1000000000) - a1))], [.ref a0], H)) rfl ?_
    obtain ⟨v17, e17, h⟩ := qv_bind h
    refine qv_getR rfl e17 ?_
    refine qv_run 2 (σ := (22, [some (.ref a0), some (.int a1), some (.int ((-1000000000) - a1))], [.int ((-1000000000) - a1), .ref v17, .int ((-1000000000) - a1), .ref v17], H)) rfl ?_
    obtain ⟨v22, e22, h⟩ := qv_bind h
    refine qv_ald rfl e22 ?_
    refine qv_run 2 (σ := (25, [some (.ref a0), some (.int a1), some (.int ((-1000000000) - a1))], [.int (v22 + 1), .int ((-1000000000) - a1), .ref v17], H)) rfl ?_
    obtain ⟨H25, e25, h⟩ := qv_bind h
    refine qv_ast rfl e25 ?_
    refine qv_run 1 (σ := (27, [some (.ref a0), some (.int a1), some (.int ((-1000000000) - a1))], [.int a1], H25)) rfl ?_
    obtain ⟨rfl, rfl⟩ := qv_pair h
    exact qv_reti rfl hR
theorem tlb_X10_refuse_0 {r : Int32} {H' : qx_H} (a0 : Nat) (a1 : Int32) (H : qx_H) (h : fm_X10_refuse a0 a1 H = some (r, H')) : H'.length = H.length := by
  unfold fm_X10_refuse at h
  by_cases c13 : (fm_X10_isWithin ((-1000000000) - a1) 1 6) = 0
  · replace h := qv_pos c13 h
    obtain ⟨rfl, rfl⟩ := qv_pair h
    rfl
  · replace h := qv_neg c13 h
    obtain ⟨v17, e17, h⟩ := qv_bind h
    obtain ⟨v22, e22, h⟩ := qv_bind h
    obtain ⟨H25, e25, h⟩ := qv_bind h
    have q_H25 := hp_ast_len e25
    obtain ⟨rfl, rfl⟩ := qv_pair h
    omega
theorem th_X10_refuse {st : xT} {d : Nat} (hd : 2 ≤ d) {a0 : Nat} {a1 : Int32} {H : qx_H} {r : Int32} {H' : qx_H} (h : fm_X10_refuse a0 a1 H = some (r, H')) : xE st d 120 [.ref a0, .int a1] H (some (.int r)) H' := by
  obtain ⟨d, rfl⟩ : ∃ d', d = d' + 1 := ⟨d - 1, by omega⟩
  exact xE_of (xe120 st) xl120 (Nat.le_of_ble_eq_true rfl) (ls := [some (.ref a0), some (.int a1), none]) rfl (tb_X10_refuse_0 (by omega) ⟨rfl, rfl⟩ a0 a1 H h)
theorem tl_X10_refuse {a0 : Nat} {a1 : Int32} {H : qx_H} {r : Int32} {H' : qx_H} (h : fm_X10_refuse a0 a1 H = some (r, H')) : H'.length = H.length := tlb_X10_refuse_0 a0 a1 H h
def fm_X10_tie_b26 (l0 : Nat) (H : qx_H) : Option (Int32 × qx_H) := if hp_is H l0 8 = true then (ob2 (fm_X10_refuse l0 (-1000000001) H) fun v29 H29 => some (v29, H29)) else none
def fm_X10_tie (a0 : Nat) (a1 : Int32) (a2 : Int32) (a3 : Int32) (H : qx_H) : Option (Int32 × qx_H) := if (fm_X10_isBelow a1 20) = 0 then (fm_X10_tie_b26 a0 H) else (if (fm_X10_isBelow a2 70) = 0 then (fm_X10_tie_b26 a0 H) else (if (fm_X10_isBelow a3 5) = 0 then (fm_X10_tie_b26 a0 H) else ((hp_gR H a0 8 0).bind fun v34 => (hp_gR H v34 4 0).bind fun v37 => (hp_gR H v37 3 0).bind fun v46 => (hp_ald H v46 a1).bind fun v50 => (hp_gR H v37 3 1).bind fun v54 => (hp_ald H v54 a1).bind fun v58 => (hp_gR H v37 3 0).bind fun v64 => (hp_ast H v64 a1 (a2 / 10)).bind fun H72 => (hp_gR H72 v37 3 1).bind fun v75 => (hp_ast H72 v75 a1 (ji_rem a2 10)).bind fun H83 => if hp_is H83 v37 3 = true then ((fm_X5_tieAnew v37 a1 a3 H83).bind fun H88 => some ((10 * v50) + v58, H88)) else none)))
theorem tb_X10_tie_26 {st : xT} {d : Nat} {R : Option Value → qx_H → Prop} (hd : 2 ≤ d) {r : Int32} {H' : qx_H} (hR : R (some (.int r)) H') (l0 : Nat) (z1 : Option Value) (hz1 : qx_ns z1 = true) (z2 : Option Value) (hz2 : qx_ns z2 = true) (z3 : Option Value) (hz3 : qx_ns z3 = true) (H : qx_H) (h : fm_X10_tie_b26 l0 H = some (r, H')) : qx_V (xE st d) R (xc78 st) (26, [some (.ref l0), z1, z2, z3, none, none], [], H) := by
  unfold fm_X10_tie_b26 at h
  refine qv_run 2 (σ := (29, [some (.ref l0), z1, z2, z3, none, none], [.int (-1000000001), .ref l0], H)) rfl ?_
  obtain ⟨g29, h⟩ := qv_guard h
  obtain ⟨v29, H29, e29, h⟩ := qv_bind2 h
  refine qv_callV [.int (-1000000001)] rfl rfl rfl (Nat.le_of_ble_eq_true rfl) g29 (th_X10_refuse (by omega) e29) (tl_X10_refuse e29) ?_
  obtain ⟨rfl, rfl⟩ := qv_pair h
  exact qv_reti rfl hR
theorem tlb_X10_tie_26 {r : Int32} {H' : qx_H} (l0 : Nat) (H : qx_H) (h : fm_X10_tie_b26 l0 H = some (r, H')) : H'.length = H.length := by
  unfold fm_X10_tie_b26 at h
  obtain ⟨g29, h⟩ := qv_guard h
  obtain ⟨v29, H29, e29, h⟩ := qv_bind2 h
  have q_H29 := tl_X10_refuse e29
  obtain ⟨rfl, rfl⟩ := qv_pair h
  omega
theorem tb_X10_tie_0 {st : xT} {d : Nat} {R : Option Value → qx_H → Prop} (hd : 2 ≤ d) {r : Int32} {H' : qx_H} (hR : R (some (.int r)) H') (a0 : Nat) (a1 : Int32) (a2 : Int32) (a3 : Int32) (H : qx_H) (h : fm_X10_tie a0 a1 a2 a3 H = some (r, H')) : qx_V (xE st d) R (xc78 st) (0, [some (.ref a0), some (.int a1), some (.int a2), some (.int a3), none, none], [], H) := by
  unfold fm_X10_tie at h
  refine qv_run 2 (σ := (3, [some (.ref a0), some (.int a1), some (.int a2), some (.int a3), none, none], [.int 20, .int a1], H)) rfl ?_
  refine qv_call [.int a1, .int 20] rfl rfl rfl (Nat.le_of_ble_eq_true rfl) (th_X10_isBelow (by omega) rfl) rfl ?_
  refine qv_br (c := (fm_X10_isBelow a1 20) = 0) (a := (26, [some (.ref a0), some (.int a1), some (.int a2), some (.int a3), none, none], [], H)) (b := (9, [some (.ref a0), some (.int a1), some (.int a2), some (.int a3), none, none], [], H)) 1 rfl (fun c6 => ?_) (fun c6 => ?_)
  · replace h := qv_pos c6 h
    exact tb_X10_tie_26 hd hR a0 (some (.int a1)) rfl (some (.int a2)) rfl (some (.int a3)) rfl H h
  · replace h := qv_neg c6 h
    refine qv_run 2 (σ := (12, [some (.ref a0), some (.int a1), some (.int a2), some (.int a3), none, none], [.int 70, .int a2], H)) rfl ?_
    refine qv_call [.int a2, .int 70] rfl rfl rfl (Nat.le_of_ble_eq_true rfl) (th_X10_isBelow (by omega) rfl) rfl ?_
    refine qv_br (c := (fm_X10_isBelow a2 70) = 0) (a := (26, [some (.ref a0), some (.int a1), some (.int a2), some (.int a3), none, none], [], H)) (b := (18, [some (.ref a0), some (.int a1), some (.int a2), some (.int a3), none, none], [], H)) 1 rfl (fun c15 => ?_) (fun c15 => ?_)
    · replace h := qv_pos c15 h
      exact tb_X10_tie_26 hd hR a0 (some (.int a1)) rfl (some (.int a2)) rfl (some (.int a3)) rfl H h
    · replace h := qv_neg c15 h
      refine qv_run 2 (σ := (20, [some (.ref a0), some (.int a1), some (.int a2), some (.int a3), none, none], [.int 5, .int a3], H)) rfl ?_
      refine qv_call [.int a3, .int 5] rfl rfl rfl (Nat.le_of_ble_eq_true rfl) (th_X10_isBelow (by omega) rfl) rfl ?_
      refine qv_br (c := (fm_X10_isBelow a3 5) = 0) (a := (26, [some (.ref a0), some (.int a1), some (.int a2), some (.int a3), none, none], [], H)) (b := (33, [some (.ref a0), some (.int a1), some (.int a2), some (.int a3), none, none], [], H)) 1 rfl (fun c23 => ?_) (fun c23 => ?_)
      · replace h := qv_pos c23 h
        exact tb_X10_tie_26 hd hR a0 (some (.int a1)) rfl (some (.int a2)) rfl (some (.int a3)) rfl H h
      · replace h := qv_neg c23 h
        refine qv_run 1 (σ := (34, [some (.ref a0), some (.int a1), some (.int a2), some (.int a3), none, none], [.ref a0], H)) rfl ?_
        obtain ⟨v34, e34, h⟩ := qv_bind h
        refine qv_getR rfl e34 ?_
        obtain ⟨v37, e37, h⟩ := qv_bind h
        refine qv_getR rfl e37 ?_
        refine qv_run 3 (σ := (46, [some (.ref a0), some (.int a1), some (.int a2), some (.int a3), some (.ref v37), none], [.ref v37, .int 10], H)) rfl ?_
        obtain ⟨v46, e46, h⟩ := qv_bind h
        refine qv_getR rfl e46 ?_
        refine qv_run 1 (σ := (50, [some (.ref a0), some (.int a1), some (.int a2), some (.int a3), some (.ref v37), none], [.int a1, .ref v46, .int 10], H)) rfl ?_
        obtain ⟨v50, e50, h⟩ := qv_bind h
        refine qv_ald rfl e50 ?_
        refine qv_run 2 (σ := (54, [some (.ref a0), some (.int a1), some (.int a2), some (.int a3), some (.ref v37), none], [.ref v37, .int (10 * v50)], H)) rfl ?_
        obtain ⟨v54, e54, h⟩ := qv_bind h
        refine qv_getR rfl e54 ?_
        refine qv_run 1 (σ := (58, [some (.ref a0), some (.int a1), some (.int a2), some (.int a3), some (.ref v37), none], [.int a1, .ref v54, .int (10 * v50)], H)) rfl ?_
        obtain ⟨v58, e58, h⟩ := qv_bind h
        refine qv_ald rfl e58 ?_
        refine qv_run 3 (σ := (64, [some (.ref a0), some (.int a1), some (.int a2), some (.int a3), some (.ref v37), some (.int ((10 * v50) + v58))], [.ref v37], H)) rfl ?_
        obtain ⟨v64, e64, h⟩ := qv_bind h
        refine qv_getR rfl e64 ?_
        refine qv_run 3 (σ := (71, [some (.ref a0), some (.int a1), some (.int a2), some (.int a3), some (.ref v37), some (.int ((10 * v50) + v58))], [.int 10, .int a2, .int a1, .ref v64], H)) rfl ?_
        refine qv_div rfl (by decide) ?_
        obtain ⟨H72, e72, h⟩ := qv_bind h
        refine qv_ast rfl e72 ?_
        refine qv_run 1 (σ := (75, [some (.ref a0), some (.int a1), some (.int a2), some (.int a3), some (.ref v37), some (.int ((10 * v50) + v58))], [.ref v37], H72)) rfl ?_
        obtain ⟨v75, e75, h⟩ := qv_bind h
        refine qv_getR rfl e75 ?_
        refine qv_run 3 (σ := (82, [some (.ref a0), some (.int a1), some (.int a2), some (.int a3), some (.ref v37), some (.int ((10 * v50) + v58))], [.int 10, .int a2, .int a1, .ref v75], H72)) rfl ?_
        refine qv_div rfl (by decide) ?_
        obtain ⟨H83, e83, h⟩ := qv_bind h
        refine qv_ast rfl e83 ?_
        refine qv_run 3 (σ := (88, [some (.ref a0), some (.int a1), some (.int a2), some (.int a3), some (.ref v37), some (.int ((10 * v50) + v58))], [.int a3, .int a1, .ref v37], H83)) rfl ?_
        obtain ⟨g88, h⟩ := qv_guard h
        obtain ⟨H88, e88, h⟩ := qv_bind h
        refine qv_callV [.int a1, .int a3] rfl rfl rfl (Nat.le_of_ble_eq_true rfl) g88 (th_X5_tieAnew (by omega) e88) (tl_X5_tieAnew e88) ?_
        refine qv_run 1 (σ := (93, [some (.ref a0), some (.int a1), some (.int a2), some (.int a3), some (.ref v37), some (.int ((10 * v50) + v58))], [.int ((10 * v50) + v58)], H88)) rfl ?_
        obtain ⟨rfl, rfl⟩ := qv_pair h
        exact qv_reti rfl hR
theorem tlb_X10_tie_0 {r : Int32} {H' : qx_H} (a0 : Nat) (a1 : Int32) (a2 : Int32) (a3 : Int32) (H : qx_H) (h : fm_X10_tie a0 a1 a2 a3 H = some (r, H')) : H'.length = H.length := by
  unfold fm_X10_tie at h
  by_cases c6 : (fm_X10_isBelow a1 20) = 0
  · replace h := qv_pos c6 h
    exact tlb_X10_tie_26 a0 H h
  · replace h := qv_neg c6 h
    by_cases c15 : (fm_X10_isBelow a2 70) = 0
    · replace h := qv_pos c15 h
      exact tlb_X10_tie_26 a0 H h
    · replace h := qv_neg c15 h
      by_cases c23 : (fm_X10_isBelow a3 5) = 0
      · replace h := qv_pos c23 h
        exact tlb_X10_tie_26 a0 H h
      · replace h := qv_neg c23 h
        obtain ⟨v34, e34, h⟩ := qv_bind h
        obtain ⟨v37, e37, h⟩ := qv_bind h
        obtain ⟨v46, e46, h⟩ := qv_bind h
        obtain ⟨v50, e50, h⟩ := qv_bind h
        obtain ⟨v54, e54, h⟩ := qv_bind h
        obtain ⟨v58, e58, h⟩ := qv_bind h
        obtain ⟨v64, e64, h⟩ := qv_bind h
        obtain ⟨H72, e72, h⟩ := qv_bind h
        have q_H72 := hp_ast_len e72
        obtain ⟨v75, e75, h⟩ := qv_bind h
        obtain ⟨H83, e83, h⟩ := qv_bind h
        have q_H83 := hp_ast_len e83
        obtain ⟨g88, h⟩ := qv_guard h
        obtain ⟨H88, e88, h⟩ := qv_bind h
        have q_H88 := tl_X5_tieAnew e88
        obtain ⟨rfl, rfl⟩ := qv_pair h
        omega
theorem th_X10_tie {st : xT} {d : Nat} (hd : 3 ≤ d) {a0 : Nat} {a1 : Int32} {a2 : Int32} {a3 : Int32} {H : qx_H} {r : Int32} {H' : qx_H} (h : fm_X10_tie a0 a1 a2 a3 H = some (r, H')) : xE st d 78 [.ref a0, .int a1, .int a2, .int a3] H (some (.int r)) H' := by
  obtain ⟨d, rfl⟩ : ∃ d', d = d' + 1 := ⟨d - 1, by omega⟩
  exact xE_of (xe78 st) xl78 (Nat.le_of_ble_eq_true rfl) (ls := [some (.ref a0), some (.int a1), some (.int a2), some (.int a3), none, none]) rfl (tb_X10_tie_0 (by omega) ⟨rfl, rfl⟩ a0 a1 a2 a3 H h)
theorem tl_X10_tie {a0 : Nat} {a1 : Int32} {a2 : Int32} {a3 : Int32} {H : qx_H} {r : Int32} {H' : qx_H} (h : fm_X10_tie a0 a1 a2 a3 H = some (r, H')) : H'.length = H.length := tlb_X10_tie_0 a0 a1 a2 a3 H h
def fm_X10_knotIs (a0 : Nat) (a1 : Int32) (a2 : Int32) (H : qx_H) : Option (Int32 × qx_H) := if (fm_X10_isBelow a1 20) = 0 then (if hp_is H a0 8 = true then (ob2 (fm_X10_refuse a0 (-1000000001) H) fun v12 H12 => some (v12, H12)) else none) else ((hp_gR H a0 8 0).bind fun v17 => (hp_gR H v17 4 0).bind fun v20 => if a2 = 0 then ((hp_gR H v20 3 0).bind fun v69 => (hp_ald H v69 a1).bind fun v73 => some (v73, H)) else if a2 = 1 then ((hp_gR H v20 3 1).bind fun v76 => (hp_ald H v76 a1).bind fun v80 => some (v80, H)) else if a2 = 2 then ((hp_gR H v20 3 2).bind fun v83 => (hp_ald H v83 a1).bind fun v87 => some (v87, H)) else if a2 = 3 then ((hp_gR H v20 3 3).bind fun v90 => (hp_ald H v90 a1).bind fun v94 => some (v94, H)) else if a2 = 4 then (if hp_is H v20 3 = true then (ob2 (fm_X5_holdsOf v20 a1 H) fun v98 H98 => some (v98, H98)) else none) else if a2 = 5 then ((hp_gR H v20 3 0).bind fun v103 => (hp_ald H v103 a1).bind fun v107 => some ((fm_X2_takesOf v107), H)) else if a2 = 6 then ((hp_gI H v20 3 9).bind fun v113 => (fm_X0_threadsAt v113 (ji_shl 1 a1) H).bind fun v119 => some ((fm_J6_bitCount_0f7a4 v119), H)) else (if hp_is H a0 8 = true then (ob2 (fm_X10_refuse a0 (-1000000001) H) fun v129 H129 => some (v129, H129)) else none))
theorem tb_X10_knotIs_0 {st : xT} {d : Nat} {R : Option Value → qx_H → Prop} (hd : 3 ≤ d) {r : Int32} {H' : qx_H} (hR : R (some (.int r)) H') (a0 : Nat) (a1 : Int32) (a2 : Int32) (H : qx_H) (h : fm_X10_knotIs a0 a1 a2 H = some (r, H')) : qx_V (xE st d) R (xc79 st) (0, [some (.ref a0), some (.int a1), some (.int a2), none], [], H) := by
  unfold fm_X10_knotIs at h
  refine qv_run 2 (σ := (3, [some (.ref a0), some (.int a1), some (.int a2), none], [.int 20, .int a1], H)) rfl ?_
  refine qv_call [.int a1, .int 20] rfl rfl rfl (Nat.le_of_ble_eq_true rfl) (th_X10_isBelow (by omega) rfl) rfl ?_
  refine qv_br (c := (fm_X10_isBelow a1 20) = 0) (a := (9, [some (.ref a0), some (.int a1), some (.int a2), none], [], H)) (b := (16, [some (.ref a0), some (.int a1), some (.int a2), none], [], H)) 1 rfl (fun c6 => ?_) (fun c6 => ?_)
  · replace h := qv_pos c6 h
    refine qv_run 2 (σ := (12, [some (.ref a0), some (.int a1), some (.int a2), none], [.int (-1000000001), .ref a0], H)) rfl ?_
    obtain ⟨g12, h⟩ := qv_guard h
    obtain ⟨v12, H12, e12, h⟩ := qv_bind2 h
    refine qv_callV [.int (-1000000001)] rfl rfl rfl (Nat.le_of_ble_eq_true rfl) g12 (th_X10_refuse (by omega) e12) (tl_X10_refuse e12) ?_
    obtain ⟨rfl, rfl⟩ := qv_pair h
    exact qv_reti rfl hR
  · replace h := qv_neg c6 h
    refine qv_run 1 (σ := (17, [some (.ref a0), some (.int a1), some (.int a2), none], [.ref a0], H)) rfl ?_
    obtain ⟨v17, e17, h⟩ := qv_bind h
    refine qv_getR rfl e17 ?_
    obtain ⟨v20, e20, h⟩ := qv_bind h
    refine qv_getR rfl e20 ?_
    refine qv_run 3 (σ := (qx_swt a2 126 [(0, 68), (1, 75), (2, 82), (3, 89), (4, 96), (5, 102), (6, 112)], [some (.ref a0), some (.int a1), some (.int a2), some (.ref v20)], [], H)) rfl ?_
    refine qv_swt (fun c25_0 => ?_) (fun c25_0 => ?_)
    · replace h := qv_pos c25_0 h
      refine qv_run 1 (σ := (69, [some (.ref a0), some (.int a1), some (.int a2), some (.ref v20)], [.ref v20], H)) rfl ?_
      obtain ⟨v69, e69, h⟩ := qv_bind h
      refine qv_getR rfl e69 ?_
      refine qv_run 1 (σ := (73, [some (.ref a0), some (.int a1), some (.int a2), some (.ref v20)], [.int a1, .ref v69], H)) rfl ?_
      obtain ⟨v73, e73, h⟩ := qv_bind h
      refine qv_ald rfl e73 ?_
      obtain ⟨rfl, rfl⟩ := qv_pair h
      exact qv_reti rfl hR
    · replace h := qv_neg c25_0 h
      refine qv_swt (fun c25_1 => ?_) (fun c25_1 => ?_)
      · replace h := qv_pos c25_1 h
        refine qv_run 1 (σ := (76, [some (.ref a0), some (.int a1), some (.int a2), some (.ref v20)], [.ref v20], H)) rfl ?_
        obtain ⟨v76, e76, h⟩ := qv_bind h
        refine qv_getR rfl e76 ?_
        refine qv_run 1 (σ := (80, [some (.ref a0), some (.int a1), some (.int a2), some (.ref v20)], [.int a1, .ref v76], H)) rfl ?_
        obtain ⟨v80, e80, h⟩ := qv_bind h
        refine qv_ald rfl e80 ?_
        obtain ⟨rfl, rfl⟩ := qv_pair h
        exact qv_reti rfl hR
      · replace h := qv_neg c25_1 h
        refine qv_swt (fun c25_2 => ?_) (fun c25_2 => ?_)
        · replace h := qv_pos c25_2 h
          refine qv_run 1 (σ := (83, [some (.ref a0), some (.int a1), some (.int a2), some (.ref v20)], [.ref v20], H)) rfl ?_
          obtain ⟨v83, e83, h⟩ := qv_bind h
          refine qv_getR rfl e83 ?_
          refine qv_run 1 (σ := (87, [some (.ref a0), some (.int a1), some (.int a2), some (.ref v20)], [.int a1, .ref v83], H)) rfl ?_
          obtain ⟨v87, e87, h⟩ := qv_bind h
          refine qv_ald rfl e87 ?_
          obtain ⟨rfl, rfl⟩ := qv_pair h
          exact qv_reti rfl hR
        · replace h := qv_neg c25_2 h
          refine qv_swt (fun c25_3 => ?_) (fun c25_3 => ?_)
          · replace h := qv_pos c25_3 h
            refine qv_run 1 (σ := (90, [some (.ref a0), some (.int a1), some (.int a2), some (.ref v20)], [.ref v20], H)) rfl ?_
            obtain ⟨v90, e90, h⟩ := qv_bind h
            refine qv_getR rfl e90 ?_
            refine qv_run 1 (σ := (94, [some (.ref a0), some (.int a1), some (.int a2), some (.ref v20)], [.int a1, .ref v90], H)) rfl ?_
            obtain ⟨v94, e94, h⟩ := qv_bind h
            refine qv_ald rfl e94 ?_
            obtain ⟨rfl, rfl⟩ := qv_pair h
            exact qv_reti rfl hR
          · replace h := qv_neg c25_3 h
            refine qv_swt (fun c25_4 => ?_) (fun c25_4 => ?_)
            · replace h := qv_pos c25_4 h
              refine qv_run 2 (σ := (98, [some (.ref a0), some (.int a1), some (.int a2), some (.ref v20)], [.int a1, .ref v20], H)) rfl ?_
              obtain ⟨g98, h⟩ := qv_guard h
              obtain ⟨v98, H98, e98, h⟩ := qv_bind2 h
              refine qv_callV [.int a1] rfl rfl rfl (Nat.le_of_ble_eq_true rfl) g98 (th_X5_holdsOf (by omega) e98) (tl_X5_holdsOf e98) ?_
              obtain ⟨rfl, rfl⟩ := qv_pair h
              exact qv_reti rfl hR
            · replace h := qv_neg c25_4 h
              refine qv_swt (fun c25_5 => ?_) (fun c25_5 => ?_)
              · replace h := qv_pos c25_5 h
                refine qv_run 1 (σ := (103, [some (.ref a0), some (.int a1), some (.int a2), some (.ref v20)], [.ref v20], H)) rfl ?_
                obtain ⟨v103, e103, h⟩ := qv_bind h
                refine qv_getR rfl e103 ?_
                refine qv_run 1 (σ := (107, [some (.ref a0), some (.int a1), some (.int a2), some (.ref v20)], [.int a1, .ref v103], H)) rfl ?_
                obtain ⟨v107, e107, h⟩ := qv_bind h
                refine qv_ald rfl e107 ?_
                refine qv_call [.int v107] rfl rfl rfl (Nat.le_of_ble_eq_true rfl) (th_X2_takesOf (by omega) rfl) rfl ?_
                obtain ⟨rfl, rfl⟩ := qv_pair h
                exact qv_reti rfl hR
              · replace h := qv_neg c25_5 h
                refine qv_swt (fun c25_6 => ?_) (fun c25_6 => ?_)
                · replace h := qv_pos c25_6 h
                  refine qv_run 1 (σ := (113, [some (.ref a0), some (.int a1), some (.int a2), some (.ref v20)], [.ref v20], H)) rfl ?_
                  obtain ⟨v113, e113, h⟩ := qv_bind h
                  refine qv_getI rfl e113 ?_
                  refine qv_run 3 (σ := (119, [some (.ref a0), some (.int a1), some (.int a2), some (.ref v20)], [.int (ji_shl 1 a1), .int v113], H)) rfl ?_
                  obtain ⟨v119, e119, h⟩ := qv_bind h
                  refine qv_call [.int v113, .int (ji_shl 1 a1)] rfl rfl rfl (Nat.le_of_ble_eq_true rfl) (th_X0_threadsAt (by omega) e119) rfl ?_
                  refine qv_call [.int v119] rfl rfl rfl (Nat.le_of_ble_eq_true rfl) (th_J6_bitCount_0f7a4 (by omega) rfl) rfl ?_
                  obtain ⟨rfl, rfl⟩ := qv_pair h
                  exact qv_reti rfl hR
                · replace h := qv_neg c25_6 h
                  refine qv_sw0 ?_
                  refine qv_run 2 (σ := (129, [some (.ref a0), some (.int a1), some (.int a2), some (.ref v20)], [.int (-1000000001), .ref a0], H)) rfl ?_
                  obtain ⟨g129, h⟩ := qv_guard h
                  obtain ⟨v129, H129, e129, h⟩ := qv_bind2 h
                  refine qv_callV [.int (-1000000001)] rfl rfl rfl (Nat.le_of_ble_eq_true rfl) g129 (th_X10_refuse (by omega) e129) (tl_X10_refuse e129) ?_
                  obtain ⟨rfl, rfl⟩ := qv_pair h
                  exact qv_reti rfl hR
theorem tlb_X10_knotIs_0 {r : Int32} {H' : qx_H} (a0 : Nat) (a1 : Int32) (a2 : Int32) (H : qx_H) (h : fm_X10_knotIs a0 a1 a2 H = some (r, H')) : H'.length = H.length := by
  unfold fm_X10_knotIs at h
  by_cases c6 : (fm_X10_isBelow a1 20) = 0
  · replace h := qv_pos c6 h
    obtain ⟨g12, h⟩ := qv_guard h
    obtain ⟨v12, H12, e12, h⟩ := qv_bind2 h
    have q_H12 := tl_X10_refuse e12
    obtain ⟨rfl, rfl⟩ := qv_pair h
    omega
  · replace h := qv_neg c6 h
    obtain ⟨v17, e17, h⟩ := qv_bind h
    obtain ⟨v20, e20, h⟩ := qv_bind h
    by_cases c25_0 : a2 = 0
    · replace h := qv_pos c25_0 h
      obtain ⟨v69, e69, h⟩ := qv_bind h
      obtain ⟨v73, e73, h⟩ := qv_bind h
      obtain ⟨rfl, rfl⟩ := qv_pair h
      rfl
    · replace h := qv_neg c25_0 h
      by_cases c25_1 : a2 = 1
      · replace h := qv_pos c25_1 h
        obtain ⟨v76, e76, h⟩ := qv_bind h
        obtain ⟨v80, e80, h⟩ := qv_bind h
        obtain ⟨rfl, rfl⟩ := qv_pair h
        rfl
      · replace h := qv_neg c25_1 h
        by_cases c25_2 : a2 = 2
        · replace h := qv_pos c25_2 h
          obtain ⟨v83, e83, h⟩ := qv_bind h
          obtain ⟨v87, e87, h⟩ := qv_bind h
          obtain ⟨rfl, rfl⟩ := qv_pair h
          rfl
        · replace h := qv_neg c25_2 h
          by_cases c25_3 : a2 = 3
          · replace h := qv_pos c25_3 h
            obtain ⟨v90, e90, h⟩ := qv_bind h
            obtain ⟨v94, e94, h⟩ := qv_bind h
            obtain ⟨rfl, rfl⟩ := qv_pair h
            rfl
          · replace h := qv_neg c25_3 h
            by_cases c25_4 : a2 = 4
            · replace h := qv_pos c25_4 h
              obtain ⟨g98, h⟩ := qv_guard h
              obtain ⟨v98, H98, e98, h⟩ := qv_bind2 h
              have q_H98 := tl_X5_holdsOf e98
              obtain ⟨rfl, rfl⟩ := qv_pair h
              omega
            · replace h := qv_neg c25_4 h
              by_cases c25_5 : a2 = 5
              · replace h := qv_pos c25_5 h
                obtain ⟨v103, e103, h⟩ := qv_bind h
                obtain ⟨v107, e107, h⟩ := qv_bind h
                obtain ⟨rfl, rfl⟩ := qv_pair h
                rfl
              · replace h := qv_neg c25_5 h
                by_cases c25_6 : a2 = 6
                · replace h := qv_pos c25_6 h
                  obtain ⟨v113, e113, h⟩ := qv_bind h
                  obtain ⟨v119, e119, h⟩ := qv_bind h
                  obtain ⟨rfl, rfl⟩ := qv_pair h
                  rfl
                · replace h := qv_neg c25_6 h
                  obtain ⟨g129, h⟩ := qv_guard h
                  obtain ⟨v129, H129, e129, h⟩ := qv_bind2 h
                  have q_H129 := tl_X10_refuse e129
                  obtain ⟨rfl, rfl⟩ := qv_pair h
                  omega
theorem th_X10_knotIs {st : xT} {d : Nat} (hd : 4 ≤ d) {a0 : Nat} {a1 : Int32} {a2 : Int32} {H : qx_H} {r : Int32} {H' : qx_H} (h : fm_X10_knotIs a0 a1 a2 H = some (r, H')) : xE st d 79 [.ref a0, .int a1, .int a2] H (some (.int r)) H' := by
  obtain ⟨d, rfl⟩ : ∃ d', d = d' + 1 := ⟨d - 1, by omega⟩
  exact xE_of (xe79 st) xl79 (Nat.le_of_ble_eq_true rfl) (ls := [some (.ref a0), some (.int a1), some (.int a2), none]) rfl (tb_X10_knotIs_0 (by omega) ⟨rfl, rfl⟩ a0 a1 a2 H h)
theorem tl_X10_knotIs {a0 : Nat} {a1 : Int32} {a2 : Int32} {H : qx_H} {r : Int32} {H' : qx_H} (h : fm_X10_knotIs a0 a1 a2 H = some (r, H')) : H'.length = H.length := tlb_X10_knotIs_0 a0 a1 a2 H h
def fm_X10_as_b18 (l0 : Nat) (H : qx_H) : Option (Int32 × qx_H) := if hp_is H l0 8 = true then (ob2 (fm_X10_refuse l0 (-1000000001) H) fun v21 H21 => some (v21, H21)) else none
def fm_X10_as (a0 : Nat) (a1 : Int32) (a2 : Int32) (H : qx_H) : Option (Int32 × qx_H) := if (fm_X10_isBelow a1 20) = 0 then (fm_X10_as_b18 a0 H) else (if (fm_X10_isBelow a2 7) = 0 then (fm_X10_as_b18 a0 H) else ((hp_gR H a0 8 0).bind fun v26 => (hp_gR H v26 4 0).bind fun v29 => (hp_gR H v29 3 0).bind fun v32 => (hp_ald H v32 a1).bind fun v36 => (fm_X2_isUnder v36 a2 H).bind fun v38 => if v38 = 0 then (if hp_is H a0 8 = true then (ob2 (fm_X10_refuse a0 (-1000000005) H) fun v47 H47 => some (v47, H47)) else none) else ((hp_gR H a0 8 0).bind fun v52 => (hp_gR H v52 4 0).bind fun v55 => if hp_is H v55 3 = true then (ob2 (fm_X5_holdsOf v55 a1 H) fun v59 H59 => some (v59, H59)) else none)))
theorem tb_X10_as_18 {st : xT} {d : Nat} {R : Option Value → qx_H → Prop} (hd : 3 ≤ d) {r : Int32} {H' : qx_H} (hR : R (some (.int r)) H') (l0 : Nat) (z1 : Option Value) (hz1 : qx_ns z1 = true) (z2 : Option Value) (hz2 : qx_ns z2 = true) (H : qx_H) (h : fm_X10_as_b18 l0 H = some (r, H')) : qx_V (xE st d) R (xc80 st) (18, [some (.ref l0), z1, z2], [], H) := by
  unfold fm_X10_as_b18 at h
  refine qv_run 2 (σ := (21, [some (.ref l0), z1, z2], [.int (-1000000001), .ref l0], H)) rfl ?_
  obtain ⟨g21, h⟩ := qv_guard h
  obtain ⟨v21, H21, e21, h⟩ := qv_bind2 h
  refine qv_callV [.int (-1000000001)] rfl rfl rfl (Nat.le_of_ble_eq_true rfl) g21 (th_X10_refuse (by omega) e21) (tl_X10_refuse e21) ?_
  obtain ⟨rfl, rfl⟩ := qv_pair h
  exact qv_reti rfl hR
theorem tlb_X10_as_18 {r : Int32} {H' : qx_H} (l0 : Nat) (H : qx_H) (h : fm_X10_as_b18 l0 H = some (r, H')) : H'.length = H.length := by
  unfold fm_X10_as_b18 at h
  obtain ⟨g21, h⟩ := qv_guard h
  obtain ⟨v21, H21, e21, h⟩ := qv_bind2 h
  have q_H21 := tl_X10_refuse e21
  obtain ⟨rfl, rfl⟩ := qv_pair h
  omega
theorem tb_X10_as_0 {st : xT} {d : Nat} {R : Option Value → qx_H → Prop} (hd : 3 ≤ d) {r : Int32} {H' : qx_H} (hR : R (some (.int r)) H') (a0 : Nat) (a1 : Int32) (a2 : Int32) (H : qx_H) (h : fm_X10_as a0 a1 a2 H = some (r, H')) : qx_V (xE st d) R (xc80 st) (0, [some (.ref a0), some (.int a1), some (.int a2)], [], H) := by
  unfold fm_X10_as at h
  refine qv_run 2 (σ := (3, [some (.ref a0), some (.int a1), some (.int a2)], [.int 20, .int a1], H)) rfl ?_
  refine qv_call [.int a1, .int 20] rfl rfl rfl (Nat.le_of_ble_eq_true rfl) (th_X10_isBelow (by omega) rfl) rfl ?_
  refine qv_br (c := (fm_X10_isBelow a1 20) = 0) (a := (18, [some (.ref a0), some (.int a1), some (.int a2)], [], H)) (b := (9, [some (.ref a0), some (.int a1), some (.int a2)], [], H)) 1 rfl (fun c6 => ?_) (fun c6 => ?_)
  · replace h := qv_pos c6 h
    exact tb_X10_as_18 hd hR a0 (some (.int a1)) rfl (some (.int a2)) rfl H h
  · replace h := qv_neg c6 h
    refine qv_run 2 (σ := (12, [some (.ref a0), some (.int a1), some (.int a2)], [.int 7, .int a2], H)) rfl ?_
    refine qv_call [.int a2, .int 7] rfl rfl rfl (Nat.le_of_ble_eq_true rfl) (th_X10_isBelow (by omega) rfl) rfl ?_
    refine qv_br (c := (fm_X10_isBelow a2 7) = 0) (a := (18, [some (.ref a0), some (.int a1), some (.int a2)], [], H)) (b := (25, [some (.ref a0), some (.int a1), some (.int a2)], [], H)) 1 rfl (fun c15 => ?_) (fun c15 => ?_)
    · replace h := qv_pos c15 h
      exact tb_X10_as_18 hd hR a0 (some (.int a1)) rfl (some (.int a2)) rfl H h
    · replace h := qv_neg c15 h
      refine qv_run 1 (σ := (26, [some (.ref a0), some (.int a1), some (.int a2)], [.ref a0], H)) rfl ?_
      obtain ⟨v26, e26, h⟩ := qv_bind h
      refine qv_getR rfl e26 ?_
      obtain ⟨v29, e29, h⟩ := qv_bind h
      refine qv_getR rfl e29 ?_
      obtain ⟨v32, e32, h⟩ := qv_bind h
      refine qv_getR rfl e32 ?_
      refine qv_run 1 (σ := (36, [some (.ref a0), some (.int a1), some (.int a2)], [.int a1, .ref v32], H)) rfl ?_
      obtain ⟨v36, e36, h⟩ := qv_bind h
      refine qv_ald rfl e36 ?_
      refine qv_run 1 (σ := (38, [some (.ref a0), some (.int a1), some (.int a2)], [.int a2, .int v36], H)) rfl ?_
      obtain ⟨v38, e38, h⟩ := qv_bind h
      refine qv_call [.int v36, .int a2] rfl rfl rfl (Nat.le_of_ble_eq_true rfl) (th_X2_isUnder (by omega) e38) rfl ?_
      refine qv_br (c := v38 = 0) (a := (44, [some (.ref a0), some (.int a1), some (.int a2)], [], H)) (b := (51, [some (.ref a0), some (.int a1), some (.int a2)], [], H)) 1 rfl (fun c41 => ?_) (fun c41 => ?_)
      · replace h := qv_pos c41 h
        refine qv_run 2 (σ := (47, [some (.ref a0), some (.int a1), some (.int a2)], [.int (-1000000005), .ref a0], H)) rfl ?_
        obtain ⟨g47, h⟩ := qv_guard h
        obtain ⟨v47, H47, e47, h⟩ := qv_bind2 h
        refine qv_callV [.int (-1000000005)] rfl rfl rfl (Nat.le_of_ble_eq_true rfl) g47 (th_X10_refuse (by omega) e47) (tl_X10_refuse e47) ?_
        obtain ⟨rfl, rfl⟩ := qv_pair h
        exact qv_reti rfl hR
      · replace h := qv_neg c41 h
        refine qv_run 1 (σ := (52, [some (.ref a0), some (.int a1), some (.int a2)], [.ref a0], H)) rfl ?_
        obtain ⟨v52, e52, h⟩ := qv_bind h
        refine qv_getR rfl e52 ?_
        obtain ⟨v55, e55, h⟩ := qv_bind h
        refine qv_getR rfl e55 ?_
        refine qv_run 1 (σ := (59, [some (.ref a0), some (.int a1), some (.int a2)], [.int a1, .ref v55], H)) rfl ?_
        obtain ⟨g59, h⟩ := qv_guard h
        obtain ⟨v59, H59, e59, h⟩ := qv_bind2 h
        refine qv_callV [.int a1] rfl rfl rfl (Nat.le_of_ble_eq_true rfl) g59 (th_X5_holdsOf (by omega) e59) (tl_X5_holdsOf e59) ?_
        obtain ⟨rfl, rfl⟩ := qv_pair h
        exact qv_reti rfl hR
theorem tlb_X10_as_0 {r : Int32} {H' : qx_H} (a0 : Nat) (a1 : Int32) (a2 : Int32) (H : qx_H) (h : fm_X10_as a0 a1 a2 H = some (r, H')) : H'.length = H.length := by
  unfold fm_X10_as at h
  by_cases c6 : (fm_X10_isBelow a1 20) = 0
  · replace h := qv_pos c6 h
    exact tlb_X10_as_18 a0 H h
  · replace h := qv_neg c6 h
    by_cases c15 : (fm_X10_isBelow a2 7) = 0
    · replace h := qv_pos c15 h
      exact tlb_X10_as_18 a0 H h
    · replace h := qv_neg c15 h
      obtain ⟨v26, e26, h⟩ := qv_bind h
      obtain ⟨v29, e29, h⟩ := qv_bind h
      obtain ⟨v32, e32, h⟩ := qv_bind h
      obtain ⟨v36, e36, h⟩ := qv_bind h
      obtain ⟨v38, e38, h⟩ := qv_bind h
      by_cases c41 : v38 = 0
      · replace h := qv_pos c41 h
        obtain ⟨g47, h⟩ := qv_guard h
        obtain ⟨v47, H47, e47, h⟩ := qv_bind2 h
        have q_H47 := tl_X10_refuse e47
        obtain ⟨rfl, rfl⟩ := qv_pair h
        omega
      · replace h := qv_neg c41 h
        obtain ⟨v52, e52, h⟩ := qv_bind h
        obtain ⟨v55, e55, h⟩ := qv_bind h
        obtain ⟨g59, h⟩ := qv_guard h
        obtain ⟨v59, H59, e59, h⟩ := qv_bind2 h
        have q_H59 := tl_X5_holdsOf e59
        obtain ⟨rfl, rfl⟩ := qv_pair h
        omega
theorem th_X10_as {st : xT} {d : Nat} (hd : 4 ≤ d) {a0 : Nat} {a1 : Int32} {a2 : Int32} {H : qx_H} {r : Int32} {H' : qx_H} (h : fm_X10_as a0 a1 a2 H = some (r, H')) : xE st d 80 [.ref a0, .int a1, .int a2] H (some (.int r)) H' := by
  obtain ⟨d, rfl⟩ : ∃ d', d = d' + 1 := ⟨d - 1, by omega⟩
  exact xE_of (xe80 st) xl80 (Nat.le_of_ble_eq_true rfl) (ls := [some (.ref a0), some (.int a1), some (.int a2)]) rfl (tb_X10_as_0 (by omega) ⟨rfl, rfl⟩ a0 a1 a2 H h)
theorem tl_X10_as {a0 : Nat} {a1 : Int32} {a2 : Int32} {H : qx_H} {r : Int32} {H' : qx_H} (h : fm_X10_as a0 a1 a2 H = some (r, H')) : H'.length = H.length := tlb_X10_as_0 a0 a1 a2 H h
def fm_X10_threadIs_b18 (l0 : Nat) (H : qx_H) : Option (Int32 × qx_H) := if hp_is H l0 8 = true then (ob2 (fm_X10_refuse l0 (-1000000001) H) fun v21 H21 => some (v21, H21)) else none
def fm_X10_threadIs (a0 : Nat) (a1 : Int32) (a2 : Int32) (H : qx_H) : Option (Int32 × qx_H) := if (fm_X10_isBelow a1 31) = 0 then (fm_X10_threadIs_b18 a0 H) else (if (fm_X10_isBelow a2 6) = 0 then (fm_X10_threadIs_b18 a0 H) else ((hp_gR H a0 8 0).bind fun v26 => (hp_gR H v26 4 0).bind fun v29 => if hp_is H v29 3 = true then (ob2 (fm_X5_threadFact v29 a1 a2 H) fun v34 H34 => some (v34, H34)) else none))
theorem tb_X10_threadIs_18 {st : xT} {d : Nat} {R : Option Value → qx_H → Prop} (hd : 5 ≤ d) {r : Int32} {H' : qx_H} (hR : R (some (.int r)) H') (l0 : Nat) (z1 : Option Value) (hz1 : qx_ns z1 = true) (z2 : Option Value) (hz2 : qx_ns z2 = true) (H : qx_H) (h : fm_X10_threadIs_b18 l0 H = some (r, H')) : qx_V (xE st d) R (xc81 st) (18, [some (.ref l0), z1, z2], [], H) := by
  unfold fm_X10_threadIs_b18 at h
  refine qv_run 2 (σ := (21, [some (.ref l0), z1, z2], [.int (-1000000001), .ref l0], H)) rfl ?_
  obtain ⟨g21, h⟩ := qv_guard h
  obtain ⟨v21, H21, e21, h⟩ := qv_bind2 h
  refine qv_callV [.int (-1000000001)] rfl rfl rfl (Nat.le_of_ble_eq_true rfl) g21 (th_X10_refuse (by omega) e21) (tl_X10_refuse e21) ?_
  obtain ⟨rfl, rfl⟩ := qv_pair h
  exact qv_reti rfl hR
theorem tlb_X10_threadIs_18 {r : Int32} {H' : qx_H} (l0 : Nat) (H : qx_H) (h : fm_X10_threadIs_b18 l0 H = some (r, H')) : H'.length = H.length := by
  unfold fm_X10_threadIs_b18 at h
  obtain ⟨g21, h⟩ := qv_guard h
  obtain ⟨v21, H21, e21, h⟩ := qv_bind2 h
  have q_H21 := tl_X10_refuse e21
  obtain ⟨rfl, rfl⟩ := qv_pair h
  omega
theorem tb_X10_threadIs_0 {st : xT} {d : Nat} {R : Option Value → qx_H → Prop} (hd : 5 ≤ d) {r : Int32} {H' : qx_H} (hR : R (some (.int r)) H') (a0 : Nat) (a1 : Int32) (a2 : Int32) (H : qx_H) (h : fm_X10_threadIs a0 a1 a2 H = some (r, H')) : qx_V (xE st d) R (xc81 st) (0, [some (.ref a0), some (.int a1), some (.int a2)], [], H) := by
  unfold fm_X10_threadIs at h
  refine qv_run 2 (σ := (3, [some (.ref a0), some (.int a1), some (.int a2)], [.int 31, .int a1], H)) rfl ?_
  refine qv_call [.int a1, .int 31] rfl rfl rfl (Nat.le_of_ble_eq_true rfl) (th_X10_isBelow (by omega) rfl) rfl ?_
  refine qv_br (c := (fm_X10_isBelow a1 31) = 0) (a := (18, [some (.ref a0), some (.int a1), some (.int a2)], [], H)) (b := (9, [some (.ref a0), some (.int a1), some (.int a2)], [], H)) 1 rfl (fun c6 => ?_) (fun c6 => ?_)
  · replace h := qv_pos c6 h
    exact tb_X10_threadIs_18 hd hR a0 (some (.int a1)) rfl (some (.int a2)) rfl H h
  · replace h := qv_neg c6 h
    refine qv_run 2 (σ := (12, [some (.ref a0), some (.int a1), some (.int a2)], [.int 6, .int a2], H)) rfl ?_
    refine qv_call [.int a2, .int 6] rfl rfl rfl (Nat.le_of_ble_eq_true rfl) (th_X10_isBelow (by omega) rfl) rfl ?_
    refine qv_br (c := (fm_X10_isBelow a2 6) = 0) (a := (18, [some (.ref a0), some (.int a1), some (.int a2)], [], H)) (b := (25, [some (.ref a0), some (.int a1), some (.int a2)], [], H)) 1 rfl (fun c15 => ?_) (fun c15 => ?_)
    · replace h := qv_pos c15 h
      exact tb_X10_threadIs_18 hd hR a0 (some (.int a1)) rfl (some (.int a2)) rfl H h
    · replace h := qv_neg c15 h
      refine qv_run 1 (σ := (26, [some (.ref a0), some (.int a1), some (.int a2)], [.ref a0], H)) rfl ?_
      obtain ⟨v26, e26, h⟩ := qv_bind h
      refine qv_getR rfl e26 ?_
      obtain ⟨v29, e29, h⟩ := qv_bind h
      refine qv_getR rfl e29 ?_
      refine qv_run 2 (σ := (34, [some (.ref a0), some (.int a1), some (.int a2)], [.int a2, .int a1, .ref v29], H)) rfl ?_
      obtain ⟨g34, h⟩ := qv_guard h
      obtain ⟨v34, H34, e34, h⟩ := qv_bind2 h
      refine qv_callV [.int a1, .int a2] rfl rfl rfl (Nat.le_of_ble_eq_true rfl) g34 (th_X5_threadFact (by omega) e34) (tl_X5_threadFact e34) ?_
      obtain ⟨rfl, rfl⟩ := qv_pair h
      exact qv_reti rfl hR
theorem tlb_X10_threadIs_0 {r : Int32} {H' : qx_H} (a0 : Nat) (a1 : Int32) (a2 : Int32) (H : qx_H) (h : fm_X10_threadIs a0 a1 a2 H = some (r, H')) : H'.length = H.length := by
  unfold fm_X10_threadIs at h
  by_cases c6 : (fm_X10_isBelow a1 31) = 0
  · replace h := qv_pos c6 h
    exact tlb_X10_threadIs_18 a0 H h
  · replace h := qv_neg c6 h
    by_cases c15 : (fm_X10_isBelow a2 6) = 0
    · replace h := qv_pos c15 h
      exact tlb_X10_threadIs_18 a0 H h
    · replace h := qv_neg c15 h
      obtain ⟨v26, e26, h⟩ := qv_bind h
      obtain ⟨v29, e29, h⟩ := qv_bind h
      obtain ⟨g34, h⟩ := qv_guard h
      obtain ⟨v34, H34, e34, h⟩ := qv_bind2 h
      have q_H34 := tl_X5_threadFact e34
      obtain ⟨rfl, rfl⟩ := qv_pair h
      omega
theorem th_X10_threadIs {st : xT} {d : Nat} (hd : 6 ≤ d) {a0 : Nat} {a1 : Int32} {a2 : Int32} {H : qx_H} {r : Int32} {H' : qx_H} (h : fm_X10_threadIs a0 a1 a2 H = some (r, H')) : xE st d 81 [.ref a0, .int a1, .int a2] H (some (.int r)) H' := by
  obtain ⟨d, rfl⟩ : ∃ d', d = d' + 1 := ⟨d - 1, by omega⟩
  exact xE_of (xe81 st) xl81 (Nat.le_of_ble_eq_true rfl) (ls := [some (.ref a0), some (.int a1), some (.int a2)]) rfl (tb_X10_threadIs_0 (by omega) ⟨rfl, rfl⟩ a0 a1 a2 H h)
theorem tl_X10_threadIs {a0 : Nat} {a1 : Int32} {a2 : Int32} {H : qx_H} {r : Int32} {H' : qx_H} (h : fm_X10_threadIs a0 a1 a2 H = some (r, H')) : H'.length = H.length := tlb_X10_threadIs_0 a0 a1 a2 H h
def fm_X10_cut (a0 : Nat) (a1 : Int32) (H : qx_H) : Option (Int32 × qx_H) := if (fm_X10_isBelow a1 31) = 0 then (if hp_is H a0 8 = true then (ob2 (fm_X10_refuse a0 (-1000000001) H) fun v12 H12 => some (v12, H12)) else none) else ((hp_gR H a0 8 0).bind fun v17 => (hp_gR H v17 4 0).bind fun v20 => if hp_is H v20 3 = true then ((fm_X5_isMissing v20 a1 H).bind fun v24 => if v24 = 0 then ((hp_gR H a0 8 0).bind fun v38 => (hp_gR H v38 4 0).bind fun v41 => if hp_is H v41 3 = true then ((fm_X5_lose v41 a1 H).bind fun H45 => (hp_gR H45 a0 8 0).bind fun v49 => (hp_gR H45 v49 4 0).bind fun v52 => if hp_is H45 v52 3 = true then ((fm_X5_missingThreads v52 H45).bind fun v55 => some (v55, H45)) else none) else none) else (if hp_is H a0 8 = true then (ob2 (fm_X10_refuse a0 (-1000000003) H) fun v33 H33 => some (v33, H33)) else none)) else none)
theorem tb_X10_cut_0 {st : xT} {d : Nat} {R : Option Value → qx_H → Prop} (hd : 2 ≤ d) {r : Int32} {H' : qx_H} (hR : R (some (.int r)) H') (a0 : Nat) (a1 : Int32) (H : qx_H) (h : fm_X10_cut a0 a1 H = some (r, H')) : qx_V (xE st d) R (xc82 st) (0, [some (.ref a0), some (.int a1)], [], H) := by
  unfold fm_X10_cut at h
  refine qv_run 2 (σ := (3, [some (.ref a0), some (.int a1)], [.int 31, .int a1], H)) rfl ?_
  refine qv_call [.int a1, .int 31] rfl rfl rfl (Nat.le_of_ble_eq_true rfl) (th_X10_isBelow (by omega) rfl) rfl ?_
  refine qv_br (c := (fm_X10_isBelow a1 31) = 0) (a := (9, [some (.ref a0), some (.int a1)], [], H)) (b := (16, [some (.ref a0), some (.int a1)], [], H)) 1 rfl (fun c6 => ?_) (fun c6 => ?_)
  · replace h := qv_pos c6 h
    refine qv_run 2 (σ := (12, [some (.ref a0), some (.int a1)], [.int (-1000000001), .ref a0], H)) rfl ?_
    obtain ⟨g12, h⟩ := qv_guard h
    obtain ⟨v12, H12, e12, h⟩ := qv_bind2 h
    refine qv_callV [.int (-1000000001)] rfl rfl rfl (Nat.le_of_ble_eq_true rfl) g12 (th_X10_refuse (by omega) e12) (tl_X10_refuse e12) ?_
    obtain ⟨rfl, rfl⟩ := qv_pair h
    exact qv_reti rfl hR
  · replace h := qv_neg c6 h
    refine qv_run 1 (σ := (17, [some (.ref a0), some (.int a1)], [.ref a0], H)) rfl ?_
    obtain ⟨v17, e17, h⟩ := qv_bind h
    refine qv_getR rfl e17 ?_
    obtain ⟨v20, e20, h⟩ := qv_bind h
    refine qv_getR rfl e20 ?_
    refine qv_run 1 (σ := (24, [some (.ref a0), some (.int a1)], [.int a1, .ref v20], H)) rfl ?_
    obtain ⟨g24, h⟩ := qv_guard h
    obtain ⟨v24, e24, h⟩ := qv_bind h
    refine qv_callV [.int a1] rfl rfl rfl (Nat.le_of_ble_eq_true rfl) g24 (th_X5_isMissing (by omega) e24) rfl ?_
    refine qv_br (c := v24 = 0) (a := (37, [some (.ref a0), some (.int a1)], [], H)) (b := (30, [some (.ref a0), some (.int a1)], [], H)) 1 rfl (fun c27 => ?_) (fun c27 => ?_)
    · replace h := qv_pos c27 h
      refine qv_run 1 (σ := (38, [some (.ref a0), some (.int a1)], [.ref a0], H)) rfl ?_
      obtain ⟨v38, e38, h⟩ := qv_bind h
      refine qv_getR rfl e38 ?_
      obtain ⟨v41, e41, h⟩ := qv_bind h
      refine qv_getR rfl e41 ?_
      refine qv_run 1 (σ := (45, [some (.ref a0), some (.int a1)], [.int a1, .ref v41], H)) rfl ?_
      obtain ⟨g45, h⟩ := qv_guard h
      obtain ⟨H45, e45, h⟩ := qv_bind h
      refine qv_callV [.int a1] rfl rfl rfl (Nat.le_of_ble_eq_true rfl) g45 (th_X5_lose (by omega) e45) (tl_X5_lose e45) ?_
      refine qv_run 1 (σ := (49, [some (.ref a0), some (.int a1)], [.ref a0], H45)) rfl ?_
      obtain ⟨v49, e49, h⟩ := qv_bind h
      refine qv_getR rfl e49 ?_
      obtain ⟨v52, e52, h⟩ := qv_bind h
      refine qv_getR rfl e52 ?_
      obtain ⟨g55, h⟩ := qv_guard h
      obtain ⟨v55, e55, h⟩ := qv_bind h
      refine qv_callV [] rfl rfl rfl (Nat.le_of_ble_eq_true rfl) g55 (th_X5_missingThreads (by omega) e55) rfl ?_
      obtain ⟨rfl, rfl⟩ := qv_pair h
      exact qv_reti rfl hR
    · replace h := qv_neg c27 h
      refine qv_run 2 (σ := (33, [some (.ref a0), some (.int a1)], [.int (-1000000003), .ref a0], H)) rfl ?_
      obtain ⟨g33, h⟩ := qv_guard h
      obtain ⟨v33, H33, e33, h⟩ := qv_bind2 h
      refine qv_callV [.int (-1000000003)] rfl rfl rfl (Nat.le_of_ble_eq_true rfl) g33 (th_X10_refuse (by omega) e33) (tl_X10_refuse e33) ?_
      obtain ⟨rfl, rfl⟩ := qv_pair h
      exact qv_reti rfl hR
theorem tlb_X10_cut_0 {r : Int32} {H' : qx_H} (a0 : Nat) (a1 : Int32) (H : qx_H) (h : fm_X10_cut a0 a1 H = some (r, H')) : H'.length = H.length := by
  unfold fm_X10_cut at h
  by_cases c6 : (fm_X10_isBelow a1 31) = 0
  · replace h := qv_pos c6 h
    obtain ⟨g12, h⟩ := qv_guard h
    obtain ⟨v12, H12, e12, h⟩ := qv_bind2 h
    have q_H12 := tl_X10_refuse e12
    obtain ⟨rfl, rfl⟩ := qv_pair h
    omega
  · replace h := qv_neg c6 h
    obtain ⟨v17, e17, h⟩ := qv_bind h
    obtain ⟨v20, e20, h⟩ := qv_bind h
    obtain ⟨g24, h⟩ := qv_guard h
    obtain ⟨v24, e24, h⟩ := qv_bind h
    by_cases c27 : v24 = 0
    · replace h := qv_pos c27 h
      obtain ⟨v38, e38, h⟩ := qv_bind h
      obtain ⟨v41, e41, h⟩ := qv_bind h
      obtain ⟨g45, h⟩ := qv_guard h
      obtain ⟨H45, e45, h⟩ := qv_bind h
      have q_H45 := tl_X5_lose e45
      obtain ⟨v49, e49, h⟩ := qv_bind h
      obtain ⟨v52, e52, h⟩ := qv_bind h
      obtain ⟨g55, h⟩ := qv_guard h
      obtain ⟨v55, e55, h⟩ := qv_bind h
      obtain ⟨rfl, rfl⟩ := qv_pair h
      omega
    · replace h := qv_neg c27 h
      obtain ⟨g33, h⟩ := qv_guard h
      obtain ⟨v33, H33, e33, h⟩ := qv_bind2 h
      have q_H33 := tl_X10_refuse e33
      obtain ⟨rfl, rfl⟩ := qv_pair h
      omega
theorem th_X10_cut {st : xT} {d : Nat} (hd : 3 ≤ d) {a0 : Nat} {a1 : Int32} {H : qx_H} {r : Int32} {H' : qx_H} (h : fm_X10_cut a0 a1 H = some (r, H')) : xE st d 82 [.ref a0, .int a1] H (some (.int r)) H' := by
  obtain ⟨d, rfl⟩ : ∃ d', d = d' + 1 := ⟨d - 1, by omega⟩
  exact xE_of (xe82 st) xl82 (Nat.le_of_ble_eq_true rfl) (ls := [some (.ref a0), some (.int a1)]) rfl (tb_X10_cut_0 (by omega) ⟨rfl, rfl⟩ a0 a1 H h)
theorem tl_X10_cut {a0 : Nat} {a1 : Int32} {H : qx_H} {r : Int32} {H' : qx_H} (h : fm_X10_cut a0 a1 H = some (r, H')) : H'.length = H.length := tlb_X10_cut_0 a0 a1 H h
def fm_X10_wear_b19 (l0 : Nat) (H : qx_H) : Option (Int32 × qx_H) := if hp_is H l0 8 = true then (ob2 (fm_X10_refuse l0 (-1000000001) H) fun v22 H22 => some (v22, H22)) else none
def fm_X10_wear (a0 : Nat) (a1 : Int32) (a2 : Int32) (H : qx_H) : Option (Int32 × qx_H) := if (fm_X10_isBelow a1 31) = 0 then (fm_X10_wear_b19 a0 H) else (if (fm_X10_isWithin a2 0 99) = 0 then (fm_X10_wear_b19 a0 H) else ((hp_gR H a0 8 0).bind fun v27 => (hp_gR H v27 4 0).bind fun v30 => if hp_is H v30 3 = true then ((fm_X5_isMissing v30 a1 H).bind fun v34 => if v34 = 0 then ((hp_gR H a0 8 0).bind fun v48 => (hp_gR H v48 4 0).bind fun v51 => (hp_gR H v51 3 4).bind fun v54 => (hp_ald H v54 a1).bind fun v58 => (hp_gR H a0 8 0).bind fun v61 => (hp_gR H v61 4 0).bind fun v64 => (hp_gR H v64 3 4).bind fun v67 => (hp_ast H v67 a1 a2).bind fun H72 => some (v58, H72)) else (if hp_is H a0 8 = true then (ob2 (fm_X10_refuse a0 (-1000000003) H) fun v43 H43 => some (v43, H43)) else none)) else none))
theorem tb_X10_wear_19 {st : xT} {d : Nat} {R : Option Value → qx_H → Prop} (hd : 2 ≤ d) {r : Int32} {H' : qx_H} (hR : R (some (.int r)) H') (l0 : Nat) (z1 : Option Value) (hz1 : qx_ns z1 = true) (z2 : Option Value) (hz2 : qx_ns z2 = true) (H : qx_H) (h : fm_X10_wear_b19 l0 H = some (r, H')) : qx_V (xE st d) R (xc83 st) (19, [some (.ref l0), z1, z2, none], [], H) := by
  unfold fm_X10_wear_b19 at h
  refine qv_run 2 (σ := (22, [some (.ref l0), z1, z2, none], [.int (-1000000001), .ref l0], H)) rfl ?_
  obtain ⟨g22, h⟩ := qv_guard h
  obtain ⟨v22, H22, e22, h⟩ := qv_bind2 h
  refine qv_callV [.int (-1000000001)] rfl rfl rfl (Nat.le_of_ble_eq_true rfl) g22 (th_X10_refuse (by omega) e22) (tl_X10_refuse e22) ?_
  obtain ⟨rfl, rfl⟩ := qv_pair h
  exact qv_reti rfl hR
theorem tlb_X10_wear_19 {r : Int32} {H' : qx_H} (l0 : Nat) (H : qx_H) (h : fm_X10_wear_b19 l0 H = some (r, H')) : H'.length = H.length := by
  unfold fm_X10_wear_b19 at h
  obtain ⟨g22, h⟩ := qv_guard h
  obtain ⟨v22, H22, e22, h⟩ := qv_bind2 h
  have q_H22 := tl_X10_refuse e22
  obtain ⟨rfl, rfl⟩ := qv_pair h
  omega
theorem tb_X10_wear_0 {st : xT} {d : Nat} {R : Option Value → qx_H → Prop} (hd : 2 ≤ d) {r : Int32} {H' : qx_H} (hR : R (some (.int r)) H') (a0 : Nat) (a1 : Int32) (a2 : Int32) (H : qx_H) (h : fm_X10_wear a0 a1 a2 H = some (r, H')) : qx_V (xE st d) R (xc83 st) (0, [some (.ref a0), some (.int a1), some (.int a2), none], [], H) := by
  unfold fm_X10_wear at h
  refine qv_run 2 (σ := (3, [some (.ref a0), some (.int a1), some (.int a2), none], [.int 31, .int a1], H)) rfl ?_
  refine qv_call [.int a1, .int 31] rfl rfl rfl (Nat.le_of_ble_eq_true rfl) (th_X10_isBelow (by omega) rfl) rfl ?_
  refine qv_br (c := (fm_X10_isBelow a1 31) = 0) (a := (19, [some (.ref a0), some (.int a1), some (.int a2), none], [], H)) (b := (9, [some (.ref a0), some (.int a1), some (.int a2), none], [], H)) 1 rfl (fun c6 => ?_) (fun c6 => ?_)
  · replace h := qv_pos c6 h
    exact tb_X10_wear_19 hd hR a0 (some (.int a1)) rfl (some (.int a2)) rfl H h
  · replace h := qv_neg c6 h
    refine qv_run 3 (σ := (13, [some (.ref a0), some (.int a1), some (.int a2), none], [.int 99, .int 0, .int a2], H)) rfl ?_
    refine qv_call [.int a2, .int 0, .int 99] rfl rfl rfl (Nat.le_of_ble_eq_true rfl) (th_X10_isWithin (by omega) rfl) rfl ?_
    refine qv_br (c := (fm_X10_isWithin a2 0 99) = 0) (a := (19, [some (.ref a0), some (.int a1), some (.int a2), none], [], H)) (b := (26, [some (.ref a0), some (.int a1), some (.int a2), none], [], H)) 1 rfl (fun c16 => ?_) (fun c16 => ?_)
    · replace h := qv_pos c16 h
      exact tb_X10_wear_19 hd hR a0 (some (.int a1)) rfl (some (.int a2)) rfl H h
    · replace h := qv_neg c16 h
      refine qv_run 1 (σ := (27, [some (.ref a0), some (.int a1), some (.int a2), none], [.ref a0], H)) rfl ?_
      obtain ⟨v27, e27, h⟩ := qv_bind h
      refine qv_getR rfl e27 ?_
      obtain ⟨v30, e30, h⟩ := qv_bind h
      refine qv_getR rfl e30 ?_
      refine qv_run 1 (σ := (34, [some (.ref a0), some (.int a1), some (.int a2), none], [.int a1, .ref v30], H)) rfl ?_
      obtain ⟨g34, h⟩ := qv_guard h
      obtain ⟨v34, e34, h⟩ := qv_bind h
      refine qv_callV [.int a1] rfl rfl rfl (Nat.le_of_ble_eq_true rfl) g34 (th_X5_isMissing (by omega) e34) rfl ?_
      refine qv_br (c := v34 = 0) (a := (47, [some (.ref a0), some (.int a1), some (.int a2), none], [], H)) (b := (40, [some (.ref a0), some (.int a1), some (.int a2), none], [], H)) 1 rfl (fun c37 => ?_) (fun c37 => ?_)
      · replace h := qv_pos c37 h
        refine qv_run 1 (σ := (48, [some (.ref a0), some (.int a1), some (.int a2), none], [.ref a0], H)) rfl ?_
        obtain ⟨v48, e48, h⟩ := qv_bind h
        refine qv_getR rfl e48 ?_
        obtain ⟨v51, e51, h⟩ := qv_bind h
        refine qv_getR rfl e51 ?_
        obtain ⟨v54, e54, h⟩ := qv_bind h
        refine qv_getR rfl e54 ?_
        refine qv_run 1 (σ := (58, [some (.ref a0), some (.int a1), some (.int a2), none], [.int a1, .ref v54], H)) rfl ?_
        obtain ⟨v58, e58, h⟩ := qv_bind h
        refine qv_ald rfl e58 ?_
        refine qv_run 2 (σ := (61, [some (.ref a0), some (.int a1), some (.int a2), some (.int v58)], [.ref a0], H)) rfl ?_
        obtain ⟨v61, e61, h⟩ := qv_bind h
        refine qv_getR rfl e61 ?_
        obtain ⟨v64, e64, h⟩ := qv_bind h
        refine qv_getR rfl e64 ?_
        obtain ⟨v67, e67, h⟩ := qv_bind h
        refine qv_getR rfl e67 ?_
        refine qv_run 2 (σ := (72, [some (.ref a0), some (.int a1), some (.int a2), some (.int v58)], [.int a2, .int a1, .ref v67], H)) rfl ?_
        obtain ⟨H72, e72, h⟩ := qv_bind h
        refine qv_ast rfl e72 ?_
        refine qv_run 1 (σ := (74, [some (.ref a0), some (.int a1), some (.int a2), some (.int v58)], [.int v58], H72)) rfl ?_
        obtain ⟨rfl, rfl⟩ := qv_pair h
        exact qv_reti rfl hR
      · replace h := qv_neg c37 h
        refine qv_run 2 (σ := (43, [some (.ref a0), some (.int a1), some (.int a2), none], [.int (-1000000003), .ref a0], H)) rfl ?_
        obtain ⟨g43, h⟩ := qv_guard h
        obtain ⟨v43, H43, e43, h⟩ := qv_bind2 h
        refine qv_callV [.int (-1000000003)] rfl rfl rfl (Nat.le_of_ble_eq_true rfl) g43 (th_X10_refuse (by omega) e43) (tl_X10_refuse e43) ?_
        obtain ⟨rfl, rfl⟩ := qv_pair h
        exact qv_reti rfl hR
theorem tlb_X10_wear_0 {r : Int32} {H' : qx_H} (a0 : Nat) (a1 : Int32) (a2 : Int32) (H : qx_H) (h : fm_X10_wear a0 a1 a2 H = some (r, H')) : H'.length = H.length := by
  unfold fm_X10_wear at h
  by_cases c6 : (fm_X10_isBelow a1 31) = 0
  · replace h := qv_pos c6 h
    exact tlb_X10_wear_19 a0 H h
  · replace h := qv_neg c6 h
    by_cases c16 : (fm_X10_isWithin a2 0 99) = 0
    · replace h := qv_pos c16 h
      exact tlb_X10_wear_19 a0 H h
    · replace h := qv_neg c16 h
      obtain ⟨v27, e27, h⟩ := qv_bind h
      obtain ⟨v30, e30, h⟩ := qv_bind h
      obtain ⟨g34, h⟩ := qv_guard h
      obtain ⟨v34, e34, h⟩ := qv_bind h
      by_cases c37 : v34 = 0
      · replace h := qv_pos c37 h
        obtain ⟨v48, e48, h⟩ := qv_bind h
        obtain ⟨v51, e51, h⟩ := qv_bind h
        obtain ⟨v54, e54, h⟩ := qv_bind h
        obtain ⟨v58, e58, h⟩ := qv_bind h
        obtain ⟨v61, e61, h⟩ := qv_bind h
        obtain ⟨v64, e64, h⟩ := qv_bind h
        obtain ⟨v67, e67, h⟩ := qv_bind h
        obtain ⟨H72, e72, h⟩ := qv_bind h
        have q_H72 := hp_ast_len e72
        obtain ⟨rfl, rfl⟩ := qv_pair h
        omega
      · replace h := qv_neg c37 h
        obtain ⟨g43, h⟩ := qv_guard h
        obtain ⟨v43, H43, e43, h⟩ := qv_bind2 h
        have q_H43 := tl_X10_refuse e43
        obtain ⟨rfl, rfl⟩ := qv_pair h
        omega
theorem th_X10_wear {st : xT} {d : Nat} (hd : 3 ≤ d) {a0 : Nat} {a1 : Int32} {a2 : Int32} {H : qx_H} {r : Int32} {H' : qx_H} (h : fm_X10_wear a0 a1 a2 H = some (r, H')) : xE st d 83 [.ref a0, .int a1, .int a2] H (some (.int r)) H' := by
  obtain ⟨d, rfl⟩ : ∃ d', d = d' + 1 := ⟨d - 1, by omega⟩
  exact xE_of (xe83 st) xl83 (Nat.le_of_ble_eq_true rfl) (ls := [some (.ref a0), some (.int a1), some (.int a2), none]) rfl (tb_X10_wear_0 (by omega) ⟨rfl, rfl⟩ a0 a1 a2 H h)
theorem tl_X10_wear {a0 : Nat} {a1 : Int32} {a2 : Int32} {H : qx_H} {r : Int32} {H' : qx_H} (h : fm_X10_wear a0 a1 a2 H = some (r, H')) : H'.length = H.length := tlb_X10_wear_0 a0 a1 a2 H h
