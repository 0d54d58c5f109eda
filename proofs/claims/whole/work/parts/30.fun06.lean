def fm_X11_sum_b27 (rc : Nat → qx_H → Option (Int32 × qx_H)) (k9 : Nat → qx_H → Option (Int32 × qx_H)) (l0 : Nat) (H : qx_H) : Option (Int32 × qx_H) := if hp_is H l0 9 = true then ((fm_X11_look l0 H).bind fun v28 => (hp_gI H l0 9 5).bind fun v34 => (hp_put H l0 9 5 (.int (v34 + 1))).bind fun H39 => if hp_is H39 l0 9 = true then (ob2 (fm_X11_product rc l0 H39) fun v43 H43 => if v43 = 0 then (some (0, H43)) else (if hp_is H43 l0 9 = true then ((fm_X11_step1 l0 3 v28 H43).bind fun H54 => k9 l0 H54) else none)) else none) else none
def fm_X11_sum_b9 (rc : Nat → qx_H → Option (Int32 × qx_H)) : Nat → Nat → qx_H → Option (Int32 × qx_H)
  | 0, _, _ => none
  | n + 1, l0, H => if hp_is H l0 9 = true then ((fm_X11_look l0 H).bind fun v10 => if v10 = 43 then (fm_X11_sum_b27 rc (fm_X11_sum_b9 rc n) l0 H) else ((fm_X11_look l0 H).bind fun v19 => if v19 = 45 then (fm_X11_sum_b27 rc (fm_X11_sum_b9 rc n) l0 H) else (some (1, H)))) else none
def fm_X11_sum (rc : Nat → qx_H → Option (Int32 × qx_H)) (a0 : Nat) (H : qx_H) : Option (Int32 × qx_H) := if hp_is H a0 9 = true then (ob2 (fm_X11_product rc a0 H) fun v1 H1 => if v1 = 0 then (some (0, H1)) else (fm_X11_sum_b9 rc 5000 a0 H1)) else none
theorem tb_X11_sum_27 {st : xT} {e : Nat} {d : Nat} {R : Option Value → qx_H → Prop} (rc : Nat → qx_H → Option (Int32 × qx_H)) (hB : 1 ≤ e) (hrc : ∀ {b0 : Nat} {H1 H2 : qx_H} {r1 : Int32}, rc b0 H1 = some (r1, H2) → xE st e 154 [.ref b0] H1 (some (.int r1)) H2) (hrl : ∀ {b0 : Nat} {H1 H2 : qx_H} {r1 : Int32}, rc b0 H1 = some (r1, H2) → H2.length = H1.length) (hrz : ∀ {b0 : Nat} {H1 H2 : qx_H} {r1 : Int32}, rc b0 H1 = some (r1, H2) → r1 = 0 ∨ r1 = 1) (hd : e + 1 ≤ d) {r : Int32} {H' : qx_H} (k9 : Nat → qx_H → Option (Int32 × qx_H)) (hk9 : ∀ (l0 : Nat) (z1 : Option Value) (hz1 : qx_ns z1 = true) (H : qx_H), k9 l0 H = some (r, H') → qx_V (xE st d) R (xc151 st) (9, [some (.ref l0), z1], [], H)) (hR : R (some (.int r)) H') (l0 : Nat) (z1 : Option Value) (hz1 : qx_ns z1 = true) (H : qx_H) (h : fm_X11_sum_b27 rc k9 l0 H = some (r, H')) : qx_V (xE st d) R (xc151 st) (27, [some (.ref l0), z1], [], H) := by
  unfold fm_X11_sum_b27 at h
  refine qv_run 1 (σ := (28, [some (.ref l0), z1], [.ref l0], H)) rfl ?_
  obtain ⟨g28, h⟩ := qv_guard h
  obtain ⟨v28, e28, h⟩ := qv_bind h
  refine qv_callV [] rfl rfl rfl (Nat.le_of_ble_eq_true rfl) g28 (th_X11_look (by omega) e28) rfl ?_
  refine qv_run 3 (σ := (34, [some (.ref l0), some (.int v28)], [.ref l0, .ref l0], H)) rfl ?_
  obtain ⟨v34, e34, h⟩ := qv_bind h
  refine qv_getI rfl e34 ?_
  refine qv_run 2 (σ := (39, [some (.ref l0), some (.int v28)], [.int (v34 + 1), .ref l0], H)) rfl ?_
  obtain ⟨H39, e39, h⟩ := qv_bind h
  refine qv_putI rfl e39 ?_
  refine qv_run 1 (σ := (43, [some (.ref l0), some (.int v28)], [.ref l0], H39)) rfl ?_
  obtain ⟨g43, h⟩ := qv_guard h
  obtain ⟨v43, H43, e43, h⟩ := qv_bind2 h
  refine qv_callV [] rfl rfl rfl (Nat.le_of_ble_eq_true rfl) g43 (xE_le (by omega) (th_X11_product rc hB hrc hrl hrz e43)) (tl_X11_product rc hrl e43) ?_
  refine qv_br (c := v43 = 0) (a := (49, [some (.ref l0), some (.int v28)], [], H43)) (b := (51, [some (.ref l0), some (.int v28)], [], H43)) 1 rfl (fun c46 => ?_) (fun c46 => ?_)
  · replace h := qv_pos c46 h
    refine qv_run 1 (σ := (50, [some (.ref l0), some (.int v28)], [.int 0], H43)) rfl ?_
    obtain ⟨rfl, rfl⟩ := qv_pair h
    exact qv_retz rfl (Or.inl rfl) hR
  · replace h := qv_neg c46 h
    refine qv_run 3 (σ := (54, [some (.ref l0), some (.int v28)], [.int v28, .int 3, .ref l0], H43)) rfl ?_
    obtain ⟨g54, h⟩ := qv_guard h
    obtain ⟨H54, e54, h⟩ := qv_bind h
    refine qv_callV [.int 3, .int v28] rfl rfl rfl (Nat.le_of_ble_eq_true rfl) g54 (th_X11_step1 (by omega) e54) (tl_X11_step1 e54) ?_
    refine qv_run 1 (σ := (9, [some (.ref l0), some (.int v28)], [], H54)) rfl ?_
    exact hk9 l0 (some (.int v28)) rfl H54 h
theorem tlb_X11_sum_27 (rc : Nat → qx_H → Option (Int32 × qx_H)) (hrl : ∀ {b0 : Nat} {H1 H2 : qx_H} {r1 : Int32}, rc b0 H1 = some (r1, H2) → H2.length = H1.length) {r : Int32} {H' : qx_H} (k9 : Nat → qx_H → Option (Int32 × qx_H)) (hk9 : ∀ (l0 : Nat) (H : qx_H), k9 l0 H = some (r, H') → H'.length = H.length) (l0 : Nat) (H : qx_H) (h : fm_X11_sum_b27 rc k9 l0 H = some (r, H')) : H'.length = H.length := by
  unfold fm_X11_sum_b27 at h
  obtain ⟨g28, h⟩ := qv_guard h
  obtain ⟨v28, e28, h⟩ := qv_bind h
  obtain ⟨v34, e34, h⟩ := qv_bind h
  obtain ⟨H39, e39, h⟩ := qv_bind h
  have q_H39 := hp_put_len e39
  obtain ⟨g43, h⟩ := qv_guard h
  obtain ⟨v43, H43, e43, h⟩ := qv_bind2 h
  have q_H43 := tl_X11_product rc hrl e43
  by_cases c46 : v43 = 0
  · replace h := qv_pos c46 h
    obtain ⟨rfl, rfl⟩ := qv_pair h
    omega
  · replace h := qv_neg c46 h
    obtain ⟨g54, h⟩ := qv_guard h
    obtain ⟨H54, e54, h⟩ := qv_bind h
    have q_H54 := tl_X11_step1 e54
    have q_end := hk9 l0 H54 h
    omega
theorem tzb_X11_sum_27 (rc : Nat → qx_H → Option (Int32 × qx_H)) (hrz : ∀ {b0 : Nat} {H1 H2 : qx_H} {r1 : Int32}, rc b0 H1 = some (r1, H2) → r1 = 0 ∨ r1 = 1) {r : Int32} {H' : qx_H} (k9 : Nat → qx_H → Option (Int32 × qx_H)) (hk9 : ∀ (l0 : Nat) (H : qx_H), k9 l0 H = some (r, H') → r = 0 ∨ r = 1) (l0 : Nat) (H : qx_H) (h : fm_X11_sum_b27 rc k9 l0 H = some (r, H')) : r = 0 ∨ r = 1 := by
  unfold fm_X11_sum_b27 at h
  obtain ⟨g28, h⟩ := qv_guard h
  obtain ⟨v28, e28, h⟩ := qv_bind h
  obtain ⟨v34, e34, h⟩ := qv_bind h
  obtain ⟨H39, e39, h⟩ := qv_bind h
  obtain ⟨g43, h⟩ := qv_guard h
  obtain ⟨v43, H43, e43, h⟩ := qv_bind2 h
  by_cases c46 : v43 = 0
  · replace h := qv_pos c46 h
    obtain ⟨rfl, rfl⟩ := qv_pair h
    exact Or.inl rfl
  · replace h := qv_neg c46 h
    obtain ⟨g54, h⟩ := qv_guard h
    obtain ⟨H54, e54, h⟩ := qv_bind h
    exact hk9 l0 H54 h
theorem tb_X11_sum_9 {st : xT} {e : Nat} {d : Nat} {R : Option Value → qx_H → Prop} (rc : Nat → qx_H → Option (Int32 × qx_H)) (hB : 1 ≤ e) (hrc : ∀ {b0 : Nat} {H1 H2 : qx_H} {r1 : Int32}, rc b0 H1 = some (r1, H2) → xE st e 154 [.ref b0] H1 (some (.int r1)) H2) (hrl : ∀ {b0 : Nat} {H1 H2 : qx_H} {r1 : Int32}, rc b0 H1 = some (r1, H2) → H2.length = H1.length) (hrz : ∀ {b0 : Nat} {H1 H2 : qx_H} {r1 : Int32}, rc b0 H1 = some (r1, H2) → r1 = 0 ∨ r1 = 1) (hd : e + 1 ≤ d) {r : Int32} {H' : qx_H} (hR : R (some (.int r)) H') : ∀ (n : Nat) (l0 : Nat) (z1 : Option Value) (hz1 : qx_ns z1 = true) (H : qx_H) (h : fm_X11_sum_b9 rc n l0 H = some (r, H')), qx_V (xE st d) R (xc151 st) (9, [some (.ref l0), z1], [], H) := by
  intro n
  induction n with
  | zero => intro l0 z1 hz1 H h; exact nomatch (show (none : Option (Int32 × qx_H)) = some (r, H') from h)
  | succ n ih =>
    intro l0 z1 hz1 H h
    unfold fm_X11_sum_b9 at h
    refine qv_run 1 (σ := (10, [some (.ref l0), z1], [.ref l0], H)) rfl ?_
    obtain ⟨g10, h⟩ := qv_guard h
    obtain ⟨v10, e10, h⟩ := qv_bind h
    refine qv_callV [] rfl rfl rfl (Nat.le_of_ble_eq_true rfl) g10 (th_X11_look (by omega) e10) rfl ?_
    refine qv_br (c := v10 = 43) (a := (27, [some (.ref l0), z1], [], H)) (b := (18, [some (.ref l0), z1], [], H)) 2 rfl (fun c15 => ?_) (fun c15 => ?_)
    · replace h := qv_pos c15 h
      exact tb_X11_sum_27 rc hB hrc hrl hrz hd _ ih hR l0 z1 hz1 H h
    · replace h := qv_neg c15 h
      refine qv_run 1 (σ := (19, [some (.ref l0), z1], [.ref l0], H)) rfl ?_
      obtain ⟨v19, e19, h⟩ := qv_bind h
      refine qv_callV [] rfl rfl rfl (Nat.le_of_ble_eq_true rfl) g10 (th_X11_look (by omega) e19) rfl ?_
      refine qv_br (c := v19 = 45) (a := (27, [some (.ref l0), z1], [], H)) (b := (60, [some (.ref l0), z1], [], H)) 2 rfl (fun c24 => ?_) (fun c24 => ?_)
      · replace h := qv_pos c24 h
        exact tb_X11_sum_27 rc hB hrc hrl hrz hd _ ih hR l0 z1 hz1 H h
      · replace h := qv_neg c24 h
        refine qv_run 1 (σ := (61, [some (.ref l0), z1], [.int 1], H)) rfl ?_
        obtain ⟨rfl, rfl⟩ := qv_pair h
        exact qv_retz rfl (Or.inr rfl) hR
theorem tlb_X11_sum_9 (rc : Nat → qx_H → Option (Int32 × qx_H)) (hrl : ∀ {b0 : Nat} {H1 H2 : qx_H} {r1 : Int32}, rc b0 H1 = some (r1, H2) → H2.length = H1.length) {r : Int32} {H' : qx_H} : ∀ (n : Nat) (l0 : Nat) (H : qx_H) (h : fm_X11_sum_b9 rc n l0 H = some (r, H')), H'.length = H.length := by
  intro n
  induction n with
  | zero => intro l0 H h; exact nomatch (show (none : Option (Int32 × qx_H)) = some (r, H') from h)
  | succ n ih =>
    intro l0 H h
    unfold fm_X11_sum_b9 at h
    obtain ⟨g10, h⟩ := qv_guard h
    obtain ⟨v10, e10, h⟩ := qv_bind h
    by_cases c15 : v10 = 43
    · replace h := qv_pos c15 h
      exact tlb_X11_sum_27 rc hrl _ ih l0 H h
    · replace h := qv_neg c15 h
      obtain ⟨v19, e19, h⟩ := qv_bind h
      by_cases c24 : v19 = 45
      · replace h := qv_pos c24 h
        exact tlb_X11_sum_27 rc hrl _ ih l0 H h
      · replace h := qv_neg c24 h
        obtain ⟨rfl, rfl⟩ := qv_pair h
        rfl
theorem tzb_X11_sum_9 (rc : Nat → qx_H → Option (Int32 × qx_H)) (hrz : ∀ {b0 : Nat} {H1 H2 : qx_H} {r1 : Int32}, rc b0 H1 = some (r1, H2) → r1 = 0 ∨ r1 = 1) {r : Int32} {H' : qx_H} : ∀ (n : Nat) (l0 : Nat) (H : qx_H) (h : fm_X11_sum_b9 rc n l0 H = some (r, H')), r = 0 ∨ r = 1 := by
  intro n
  induction n with
  | zero => intro l0 H h; exact nomatch (show (none : Option (Int32 × qx_H)) = some (r, H') from h)
  | succ n ih =>
    intro l0 H h
    unfold fm_X11_sum_b9 at h
    obtain ⟨g10, h⟩ := qv_guard h
    obtain ⟨v10, e10, h⟩ := qv_bind h
    by_cases c15 : v10 = 43
    · replace h := qv_pos c15 h
      exact tzb_X11_sum_27 rc hrz _ ih l0 H h
    · replace h := qv_neg c15 h
      obtain ⟨v19, e19, h⟩ := qv_bind h
      by_cases c24 : v19 = 45
      · replace h := qv_pos c24 h
        exact tzb_X11_sum_27 rc hrz _ ih l0 H h
      · replace h := qv_neg c24 h
        obtain ⟨rfl, rfl⟩ := qv_pair h
        exact Or.inr rfl
theorem tb_X11_sum_0 {st : xT} {e : Nat} {d : Nat} {R : Option Value → qx_H → Prop} (rc : Nat → qx_H → Option (Int32 × qx_H)) (hB : 1 ≤ e) (hrc : ∀ {b0 : Nat} {H1 H2 : qx_H} {r1 : Int32}, rc b0 H1 = some (r1, H2) → xE st e 154 [.ref b0] H1 (some (.int r1)) H2) (hrl : ∀ {b0 : Nat} {H1 H2 : qx_H} {r1 : Int32}, rc b0 H1 = some (r1, H2) → H2.length = H1.length) (hrz : ∀ {b0 : Nat} {H1 H2 : qx_H} {r1 : Int32}, rc b0 H1 = some (r1, H2) → r1 = 0 ∨ r1 = 1) (hd : e + 1 ≤ d) {r : Int32} {H' : qx_H} (hR : R (some (.int r)) H') (a0 : Nat) (H : qx_H) (h : fm_X11_sum rc a0 H = some (r, H')) : qx_V (xE st d) R (xc151 st) (0, [some (.ref a0), none], [], H) := by
  unfold fm_X11_sum at h
  refine qv_run 1 (σ := (1, [some (.ref a0), none], [.ref a0], H)) rfl ?_
  obtain ⟨g1, h⟩ := qv_guard h
  obtain ⟨v1, H1, e1, h⟩ := qv_bind2 h
  refine qv_callV [] rfl rfl rfl (Nat.le_of_ble_eq_true rfl) g1 (xE_le (by omega) (th_X11_product rc hB hrc hrl hrz e1)) (tl_X11_product rc hrl e1) ?_
  refine qv_br (c := v1 = 0) (a := (7, [some (.ref a0), none], [], H1)) (b := (9, [some (.ref a0), none], [], H1)) 1 rfl (fun c4 => ?_) (fun c4 => ?_)
  · replace h := qv_pos c4 h
    refine qv_run 1 (σ := (8, [some (.ref a0), none], [.int 0], H1)) rfl ?_
    obtain ⟨rfl, rfl⟩ := qv_pair h
    exact qv_retz rfl (Or.inl rfl) hR
  · replace h := qv_neg c4 h
    exact tb_X11_sum_9 rc hB hrc hrl hrz hd hR 5000 a0 none rfl H1 h
theorem tlb_X11_sum_0 (rc : Nat → qx_H → Option (Int32 × qx_H)) (hrl : ∀ {b0 : Nat} {H1 H2 : qx_H} {r1 : Int32}, rc b0 H1 = some (r1, H2) → H2.length = H1.length) {r : Int32} {H' : qx_H} (a0 : Nat) (H : qx_H) (h : fm_X11_sum rc a0 H = some (r, H')) : H'.length = H.length := by
  unfold fm_X11_sum at h
  obtain ⟨g1, h⟩ := qv_guard h
  obtain ⟨v1, H1, e1, h⟩ := qv_bind2 h
  have q_H1 := tl_X11_product rc hrl e1
  by_cases c4 : v1 = 0
  · replace h := qv_pos c4 h
    obtain ⟨rfl, rfl⟩ := qv_pair h
    omega
  · replace h := qv_neg c4 h
    have q_end := tlb_X11_sum_9 rc hrl 5000 a0 H1 h
    omega
theorem tzb_X11_sum_0 (rc : Nat → qx_H → Option (Int32 × qx_H)) (hrz : ∀ {b0 : Nat} {H1 H2 : qx_H} {r1 : Int32}, rc b0 H1 = some (r1, H2) → r1 = 0 ∨ r1 = 1) {r : Int32} {H' : qx_H} (a0 : Nat) (H : qx_H) (h : fm_X11_sum rc a0 H = some (r, H')) : r = 0 ∨ r = 1 := by
  unfold fm_X11_sum at h
  obtain ⟨g1, h⟩ := qv_guard h
  obtain ⟨v1, H1, e1, h⟩ := qv_bind2 h
  by_cases c4 : v1 = 0
  · replace h := qv_pos c4 h
    obtain ⟨rfl, rfl⟩ := qv_pair h
    exact Or.inl rfl
  · replace h := qv_neg c4 h
    exact tzb_X11_sum_9 rc hrz 5000 a0 H1 h
theorem th_X11_sum {st : xT} {e : Nat} (rc : Nat → qx_H → Option (Int32 × qx_H)) (hB : 1 ≤ e) (hrc : ∀ {b0 : Nat} {H1 H2 : qx_H} {r1 : Int32}, rc b0 H1 = some (r1, H2) → xE st e 154 [.ref b0] H1 (some (.int r1)) H2) (hrl : ∀ {b0 : Nat} {H1 H2 : qx_H} {r1 : Int32}, rc b0 H1 = some (r1, H2) → H2.length = H1.length) (hrz : ∀ {b0 : Nat} {H1 H2 : qx_H} {r1 : Int32}, rc b0 H1 = some (r1, H2) → r1 = 0 ∨ r1 = 1) {a0 : Nat} {H : qx_H} {r : Int32} {H' : qx_H} (h : fm_X11_sum rc a0 H = some (r, H')) : xE st (e + 2) 151 [.ref a0] H (some (.int r)) H' := by
  exact xE_of (xe151 st) xl151 (Nat.le_of_ble_eq_true rfl) (ls := [some (.ref a0), none]) rfl (tb_X11_sum_0 rc hB hrc hrl hrz (Nat.le_refl _) ⟨rfl, rfl⟩ a0 H h)
theorem tl_X11_sum (rc : Nat → qx_H → Option (Int32 × qx_H)) (hrl : ∀ {b0 : Nat} {H1 H2 : qx_H} {r1 : Int32}, rc b0 H1 = some (r1, H2) → H2.length = H1.length) {a0 : Nat} {H : qx_H} {r : Int32} {H' : qx_H} (h : fm_X11_sum rc a0 H = some (r, H')) : H'.length = H.length := tlb_X11_sum_0 rc hrl a0 H h
theorem tz_X11_sum (rc : Nat → qx_H → Option (Int32 × qx_H)) (hrz : ∀ {b0 : Nat} {H1 H2 : qx_H} {r1 : Int32}, rc b0 H1 = some (r1, H2) → r1 = 0 ∨ r1 = 1) {a0 : Nat} {H : qx_H} {r : Int32} {H' : qx_H} (h : fm_X11_sum rc a0 H = some (r, H')) : r = 0 ∨ r = 1 := tzb_X11_sum_0 rc hrz a0 H h
def fm_X11_compared_b34 (rc : Nat → qx_H → Option (Int32 × qx_H)) (l0 : Nat) (l1 : Int32) (H : qx_H) : Option (Int32 × qx_H) := (hp_gI H l0 9 5).bind fun v36 => (hp_put H l0 9 5 (.int (v36 + 1))).bind fun H41 => if hp_is H41 l0 9 = true then (ob2 (fm_X11_sum rc l0 H41) fun v45 H45 => if v45 = 0 then (some (0, H45)) else (if hp_is H45 l0 9 = true then ((fm_X11_step1 l0 3 l1 H45).bind fun H56 => some (1, H56)) else none)) else none
def fm_X11_compared (rc : Nat → qx_H → Option (Int32 × qx_H)) (a0 : Nat) (H : qx_H) : Option (Int32 × qx_H) := if hp_is H a0 9 = true then (ob2 (fm_X11_sum rc a0 H) fun v1 H1 => if v1 = 0 then (some (0, H1)) else (if hp_is H1 a0 9 = true then ((fm_X11_look a0 H1).bind fun v10 => if v10 = 60 then (fm_X11_compared_b34 rc a0 v10 H1) else (if v10 = 61 then (fm_X11_compared_b34 rc a0 v10 H1) else (if v10 = 62 then (fm_X11_compared_b34 rc a0 v10 H1) else (some (1, H1))))) else none)) else none
theorem tb_X11_compared_34 {st : xT} {e : Nat} {d : Nat} {R : Option Value → qx_H → Prop} (rc : Nat → qx_H → Option (Int32 × qx_H)) (hB : 1 ≤ e) (hrc : ∀ {b0 : Nat} {H1 H2 : qx_H} {r1 : Int32}, rc b0 H1 = some (r1, H2) → xE st e 154 [.ref b0] H1 (some (.int r1)) H2) (hrl : ∀ {b0 : Nat} {H1 H2 : qx_H} {r1 : Int32}, rc b0 H1 = some (r1, H2) → H2.length = H1.length) (hrz : ∀ {b0 : Nat} {H1 H2 : qx_H} {r1 : Int32}, rc b0 H1 = some (r1, H2) → r1 = 0 ∨ r1 = 1) (hd : e + 2 ≤ d) {r : Int32} {H' : qx_H} (hR : R (some (.int r)) H') (l0 : Nat) (l1 : Int32) (H : qx_H) (h : fm_X11_compared_b34 rc l0 l1 H = some (r, H')) : qx_V (xE st d) R (xc150 st) (34, [some (.ref l0), some (.int l1)], [], H) := by
  unfold fm_X11_compared_b34 at h
  refine qv_run 2 (σ := (36, [some (.ref l0), some (.int l1)], [.ref l0, .ref l0], H)) rfl ?_
  obtain ⟨v36, e36, h⟩ := qv_bind h
  refine qv_getI rfl e36 ?_
  refine qv_run 2 (σ := (41, [some (.ref l0), some (.int l1)], [.int (v36 + 1), .ref l0], H)) rfl ?_
  obtain ⟨H41, e41, h⟩ := qv_bind h
  refine qv_putI rfl e41 ?_
  refine qv_run 1 (σ := (45, [some (.ref l0), some (.int l1)], [.ref l0], H41)) rfl ?_
  obtain ⟨g45, h⟩ := qv_guard h
  obtain ⟨v45, H45, e45, h⟩ := qv_bind2 h
  refine qv_callV [] rfl rfl rfl (Nat.le_of_ble_eq_true rfl) g45 (xE_le (by omega) (th_X11_sum rc hB hrc hrl hrz e45)) (tl_X11_sum rc hrl e45) ?_
  refine qv_br (c := v45 = 0) (a := (51, [some (.ref l0), some (.int l1)], [], H45)) (b := (53, [some (.ref l0), some (.int l1)], [], H45)) 1 rfl (fun c48 => ?_) (fun c48 => ?_)
  · replace h := qv_pos c48 h
    refine qv_run 1 (σ := (52, [some (.ref l0), some (.int l1)], [.int 0], H45)) rfl ?_
    obtain ⟨rfl, rfl⟩ := qv_pair h
    exact qv_retz rfl (Or.inl rfl) hR
  · replace h := qv_neg c48 h
    refine qv_run 3 (σ := (56, [some (.ref l0), some (.int l1)], [.int l1, .int 3, .ref l0], H45)) rfl ?_
    obtain ⟨g56, h⟩ := qv_guard h
    obtain ⟨H56, e56, h⟩ := qv_bind h
    refine qv_callV [.int 3, .int l1] rfl rfl rfl (Nat.le_of_ble_eq_true rfl) g56 (th_X11_step1 (by omega) e56) (tl_X11_step1 e56) ?_
    refine qv_run 1 (σ := (60, [some (.ref l0), some (.int l1)], [.int 1], H56)) rfl ?_
    obtain ⟨rfl, rfl⟩ := qv_pair h
    exact qv_retz rfl (Or.inr rfl) hR
theorem tlb_X11_compared_34 (rc : Nat → qx_H → Option (Int32 × qx_H)) (hrl : ∀ {b0 : Nat} {H1 H2 : qx_H} {r1 : Int32}, rc b0 H1 = some (r1, H2) → H2.length = H1.length) {r : Int32} {H' : qx_H} (l0 : Nat) (l1 : Int32) (H : qx_H) (h : fm_X11_compared_b34 rc l0 l1 H = some (r, H')) : H'.length = H.length := by
  unfold fm_X11_compared_b34 at h
  obtain ⟨v36, e36, h⟩ := qv_bind h
  obtain ⟨H41, e41, h⟩ := qv_bind h
  have q_H41 := hp_put_len e41
  obtain ⟨g45, h⟩ := qv_guard h
  obtain ⟨v45, H45, e45, h⟩ := qv_bind2 h
  have q_H45 := tl_X11_sum rc hrl e45
  by_cases c48 : v45 = 0
  · replace h := qv_pos c48 h
    obtain ⟨rfl, rfl⟩ := qv_pair h
    omega
  · replace h := qv_neg c48 h
    obtain ⟨g56, h⟩ := qv_guard h
    obtain ⟨H56, e56, h⟩ := qv_bind h
    have q_H56 := tl_X11_step1 e56
    obtain ⟨rfl, rfl⟩ := qv_pair h
    omega
theorem tzb_X11_compared_34 (rc : Nat → qx_H → Option (Int32 × qx_H)) (hrz : ∀ {b0 : Nat} {H1 H2 : qx_H} {r1 : Int32}, rc b0 H1 = some (r1, H2) → r1 = 0 ∨ r1 = 1) {r : Int32} {H' : qx_H} (l0 : Nat) (l1 : Int32) (H : qx_H) (h : fm_X11_compared_b34 rc l0 l1 H = some (r, H')) : r = 0 ∨ r = 1 := by
  unfold fm_X11_compared_b34 at h
  obtain ⟨v36, e36, h⟩ := qv_bind h
  obtain ⟨H41, e41, h⟩ := qv_bind h
  obtain ⟨g45, h⟩ := qv_guard h
  obtain ⟨v45, H45, e45, h⟩ := qv_bind2 h
  by_cases c48 : v45 = 0
  · replace h := qv_pos c48 h
    obtain ⟨rfl, rfl⟩ := qv_pair h
    exact Or.inl rfl
  · replace h := qv_neg c48 h
    obtain ⟨g56, h⟩ := qv_guard h
    obtain ⟨H56, e56, h⟩ := qv_bind h
    obtain ⟨rfl, rfl⟩ := qv_pair h
    exact Or.inr rfl
theorem tb_X11_compared_0 {st : xT} {e : Nat} {d : Nat} {R : Option Value → qx_H → Prop} (rc : Nat → qx_H → Option (Int32 × qx_H)) (hB : 1 ≤ e) (hrc : ∀ {b0 : Nat} {H1 H2 : qx_H} {r1 : Int32}, rc b0 H1 = some (r1, H2) → xE st e 154 [.ref b0] H1 (some (.int r1)) H2) (hrl : ∀ {b0 : Nat} {H1 H2 : qx_H} {r1 : Int32}, rc b0 H1 = some (r1, H2) → H2.length = H1.length) (hrz : ∀ {b0 : Nat} {H1 H2 : qx_H} {r1 : Int32}, rc b0 H1 = some (r1, H2) → r1 = 0 ∨ r1 = 1) (hd : e + 2 ≤ d) {r : Int32} {H' : qx_H} (hR : R (some (.int r)) H') (a0 : Nat) (H : qx_H) (h : fm_X11_compared rc a0 H = some (r, H')) : qx_V (xE st d) R (xc150 st) (0, [some (.ref a0), none], [], H) := by
  unfold fm_X11_compared at h
  refine qv_run 1 (σ := (1, [some (.ref a0), none], [.ref a0], H)) rfl ?_
  obtain ⟨g1, h⟩ := qv_guard h
  obtain ⟨v1, H1, e1, h⟩ := qv_bind2 h
  refine qv_callV [] rfl rfl rfl (Nat.le_of_ble_eq_true rfl) g1 (xE_le (by omega) (th_X11_sum rc hB hrc hrl hrz e1)) (tl_X11_sum rc hrl e1) ?_
  refine qv_br (c := v1 = 0) (a := (7, [some (.ref a0), none], [], H1)) (b := (9, [some (.ref a0), none], [], H1)) 1 rfl (fun c4 => ?_) (fun c4 => ?_)
  · replace h := qv_pos c4 h
    refine qv_run 1 (σ := (8, [some (.ref a0), none], [.int 0], H1)) rfl ?_
    obtain ⟨rfl, rfl⟩ := qv_pair h
    exact qv_retz rfl (Or.inl rfl) hR
  · replace h := qv_neg c4 h
    refine qv_run 1 (σ := (10, [some (.ref a0), none], [.ref a0], H1)) rfl ?_
    obtain ⟨g10, h⟩ := qv_guard h
    obtain ⟨v10, e10, h⟩ := qv_bind h
    refine qv_callV [] rfl rfl rfl (Nat.le_of_ble_eq_true rfl) g10 (th_X11_look (by omega) e10) rfl ?_
    refine qv_br (c := v10 = 60) (a := (34, [some (.ref a0), some (.int v10)], [], H1)) (b := (20, [some (.ref a0), some (.int v10)], [], H1)) 4 rfl (fun c17 => ?_) (fun c17 => ?_)
    · replace h := qv_pos c17 h
      exact tb_X11_compared_34 rc hB hrc hrl hrz hd hR a0 v10 H1 h
    · replace h := qv_neg c17 h
      refine qv_br (c := v10 = 61) (a := (34, [some (.ref a0), some (.int v10)], [], H1)) (b := (26, [some (.ref a0), some (.int v10)], [], H1)) 3 rfl (fun c23 => ?_) (fun c23 => ?_)
      · replace h := qv_pos c23 h
        exact tb_X11_compared_34 rc hB hrc hrl hrz hd hR a0 v10 H1 h
      · replace h := qv_neg c23 h
        refine qv_br (c := v10 = 62) (a := (34, [some (.ref a0), some (.int v10)], [], H1)) (b := (32, [some (.ref a0), some (.int v10)], [], H1)) 3 rfl (fun c29 => ?_) (fun c29 => ?_)
        · replace h := qv_pos c29 h
          exact tb_X11_compared_34 rc hB hrc hrl hrz hd hR a0 v10 H1 h
        · replace h := qv_neg c29 h
          refine qv_run 1 (σ := (33, [some (.ref a0), some (.int v10)], [.int 1], H1)) rfl ?_
          obtain ⟨rfl, rfl⟩ := qv_pair h
          exact qv_retz rfl (Or.inr rfl) hR
theorem tlb_X11_compared_0 (rc : Nat → qx_H → Option (Int32 × qx_H)) (hrl : ∀ {b0 : Nat} {H1 H2 : qx_H} {r1 : Int32}, rc b0 H1 = some (r1, H2) → H2.length = H1.length) {r : Int32} {H' : qx_H} (a0 : Nat) (H : qx_H) (h : fm_X11_compared rc a0 H = some (r, H')) : H'.length = H.length := by
  unfold fm_X11_compared at h
  obtain ⟨g1, h⟩ := qv_guard h
  obtain ⟨v1, H1, e1, h⟩ := qv_bind2 h
  have q_H1 := tl_X11_sum rc hrl e1
  by_cases c4 : v1 = 0
  · replace h := qv_pos c4 h
    obtain ⟨rfl, rfl⟩ := qv_pair h
    omega
  · replace h := qv_neg c4 h
    obtain ⟨g10, h⟩ := qv_guard h
    obtain ⟨v10, e10, h⟩ := qv_bind h
    by_cases c17 : v10 = 60
    · replace h := qv_pos c17 h
      have q_end := tlb_X11_compared_34 rc hrl a0 v10 H1 h
      omega
    · replace h := qv_neg c17 h
      by_cases c23 : v10 = 61
      · replace h := qv_pos c23 h
        have q_end := tlb_X11_compared_34 rc hrl a0 v10 H1 h
        omega
      · replace h := qv_neg c23 h
        by_cases c29 : v10 = 62
        · replace h := qv_pos c29 h
          have q_end := tlb_X11_compared_34 rc hrl a0 v10 H1 h
          omega
        · replace h := qv_neg c29 h
          obtain ⟨rfl, rfl⟩ := qv_pair h
          omega
theorem tzb_X11_compared_0 (rc : Nat → qx_H → Option (Int32 × qx_H)) (hrz : ∀ {b0 : Nat} {H1 H2 : qx_H} {r1 : Int32}, rc b0 H1 = some (r1, H2) → r1 = 0 ∨ r1 = 1) {r : Int32} {H' : qx_H} (a0 : Nat) (H : qx_H) (h : fm_X11_compared rc a0 H = some (r, H')) : r = 0 ∨ r = 1 := by
  unfold fm_X11_compared at h
  obtain ⟨g1, h⟩ := qv_guard h
  obtain ⟨v1, H1, e1, h⟩ := qv_bind2 h
  by_cases c4 : v1 = 0
  · replace h := qv_pos c4 h
    obtain ⟨rfl, rfl⟩ := qv_pair h
    exact Or.inl rfl
  · replace h := qv_neg c4 h
    obtain ⟨g10, h⟩ := qv_guard h
    obtain ⟨v10, e10, h⟩ := qv_bind h
    by_cases c17 : v10 = 60
    · replace h := qv_pos c17 h
      exact tzb_X11_compared_34 rc hrz a0 v10 H1 h
    · replace h := qv_neg c17 h
      by_cases c23 : v10 = 61
      · replace h := qv_pos c23 h
        exact tzb_X11_compared_34 rc hrz a0 v10 H1 h
      · replace h := qv_neg c23 h
        by_cases c29 : v10 = 62
        · replace h := qv_pos c29 h
          exact tzb_X11_compared_34 rc hrz a0 v10 H1 h
        · replace h := qv_neg c29 h
          obtain ⟨rfl, rfl⟩ := qv_pair h
          exact Or.inr rfl
theorem th_X11_compared {st : xT} {e : Nat} (rc : Nat → qx_H → Option (Int32 × qx_H)) (hB : 1 ≤ e) (hrc : ∀ {b0 : Nat} {H1 H2 : qx_H} {r1 : Int32}, rc b0 H1 = some (r1, H2) → xE st e 154 [.ref b0] H1 (some (.int r1)) H2) (hrl : ∀ {b0 : Nat} {H1 H2 : qx_H} {r1 : Int32}, rc b0 H1 = some (r1, H2) → H2.length = H1.length) (hrz : ∀ {b0 : Nat} {H1 H2 : qx_H} {r1 : Int32}, rc b0 H1 = some (r1, H2) → r1 = 0 ∨ r1 = 1) {a0 : Nat} {H : qx_H} {r : Int32} {H' : qx_H} (h : fm_X11_compared rc a0 H = some (r, H')) : xE st (e + 3) 150 [.ref a0] H (some (.int r)) H' := by
  exact xE_of (xe150 st) xl150 (Nat.le_of_ble_eq_true rfl) (ls := [some (.ref a0), none]) rfl (tb_X11_compared_0 rc hB hrc hrl hrz (Nat.le_refl _) ⟨rfl, rfl⟩ a0 H h)
theorem tl_X11_compared (rc : Nat → qx_H → Option (Int32 × qx_H)) (hrl : ∀ {b0 : Nat} {H1 H2 : qx_H} {r1 : Int32}, rc b0 H1 = some (r1, H2) → H2.length = H1.length) {a0 : Nat} {H : qx_H} {r : Int32} {H' : qx_H} (h : fm_X11_compared rc a0 H = some (r, H')) : H'.length = H.length := tlb_X11_compared_0 rc hrl a0 H h
theorem tz_X11_compared (rc : Nat → qx_H → Option (Int32 × qx_H)) (hrz : ∀ {b0 : Nat} {H1 H2 : qx_H} {r1 : Int32}, rc b0 H1 = some (r1, H2) → r1 = 0 ∨ r1 = 1) {a0 : Nat} {H : qx_H} {r : Int32} {H' : qx_H} (h : fm_X11_compared rc a0 H = some (r, H')) : r = 0 ∨ r = 1 := tzb_X11_compared_0 rc hrz a0 H h
def fm_X11_both_b9 (rc : Nat → qx_H → Option (Int32 × qx_H)) : Nat → Nat → qx_H → Option (Int32 × qx_H)
  | 0, _, _ => none
  | n + 1, l0, H => if hp_is H l0 9 = true then ((fm_X11_look l0 H).bind fun v10 => if v10 = 38 then ((hp_gI H l0 9 5).bind fun v20 => (hp_put H l0 9 5 (.int (v20 + 1))).bind fun H25 => if hp_is H25 l0 9 = true then (ob2 (fm_X11_compared rc l0 H25) fun v29 H29 => if v29 = 0 then (some (0, H29)) else (if hp_is H29 l0 9 = true then ((fm_X11_step1 l0 3 38 H29).bind fun H41 => fm_X11_both_b9 rc n l0 H41) else none)) else none) else (some (1, H))) else none
def fm_X11_both (rc : Nat → qx_H → Option (Int32 × qx_H)) (a0 : Nat) (H : qx_H) : Option (Int32 × qx_H) := if hp_is H a0 9 = true then (ob2 (fm_X11_compared rc a0 H) fun v1 H1 => if v1 = 0 then (some (0, H1)) else (fm_X11_both_b9 rc 5000 a0 H1)) else none
theorem tb_X11_both_9 {st : xT} {e : Nat} {d : Nat} {R : Option Value → qx_H → Prop} (rc : Nat → qx_H → Option (Int32 × qx_H)) (hB : 1 ≤ e) (hrc : ∀ {b0 : Nat} {H1 H2 : qx_H} {r1 : Int32}, rc b0 H1 = some (r1, H2) → xE st e 154 [.ref b0] H1 (some (.int r1)) H2) (hrl : ∀ {b0 : Nat} {H1 H2 : qx_H} {r1 : Int32}, rc b0 H1 = some (r1, H2) → H2.length = H1.length) (hrz : ∀ {b0 : Nat} {H1 H2 : qx_H} {r1 : Int32}, rc b0 H1 = some (r1, H2) → r1 = 0 ∨ r1 = 1) (hd : e + 3 ≤ d) {r : Int32} {H' : qx_H} (hR : R (some (.int r)) H') : ∀ (n : Nat) (l0 : Nat) (H : qx_H) (h : fm_X11_both_b9 rc n l0 H = some (r, H')), qx_V (xE st d) R (xc149 st) (9, [some (.ref l0)], [], H) := by
  intro n
  induction n with
  | zero => intro l0 H h; exact nomatch (show (none : Option (Int32 × qx_H)) = some (r, H') from h)
  | succ n ih =>
    intro l0 H h
    unfold fm_X11_both_b9 at h
    refine qv_run 1 (σ := (10, [some (.ref l0)], [.ref l0], H)) rfl ?_
    obtain ⟨g10, h⟩ := qv_guard h
    obtain ⟨v10, e10, h⟩ := qv_bind h
    refine qv_callV [] rfl rfl rfl (Nat.le_of_ble_eq_true rfl) g10 (th_X11_look (by omega) e10) rfl ?_
    refine qv_br (c := v10 = 38) (a := (18, [some (.ref l0)], [], H)) (b := (47, [some (.ref l0)], [], H)) 2 rfl (fun c15 => ?_) (fun c15 => ?_)
    · replace h := qv_pos c15 h
      refine qv_run 2 (σ := (20, [some (.ref l0)], [.ref l0, .ref l0], H)) rfl ?_
      obtain ⟨v20, e20, h⟩ := qv_bind h
      refine qv_getI rfl e20 ?_
      refine qv_run 2 (σ := (25, [some (.ref l0)], [.int (v20 + 1), .ref l0], H)) rfl ?_
      obtain ⟨H25, e25, h⟩ := qv_bind h
      refine qv_putI rfl e25 ?_
      refine qv_run 1 (σ := (29, [some (.ref l0)], [.ref l0], H25)) rfl ?_
      obtain ⟨g29, h⟩ := qv_guard h
      obtain ⟨v29, H29, e29, h⟩ := qv_bind2 h
      refine qv_callV [] rfl rfl rfl (Nat.le_of_ble_eq_true rfl) g29 (xE_le (by omega) (th_X11_compared rc hB hrc hrl hrz e29)) (tl_X11_compared rc hrl e29) ?_
      refine qv_br (c := v29 = 0) (a := (35, [some (.ref l0)], [], H29)) (b := (37, [some (.ref l0)], [], H29)) 1 rfl (fun c32 => ?_) (fun c32 => ?_)
      · replace h := qv_pos c32 h
        refine qv_run 1 (σ := (36, [some (.ref l0)], [.int 0], H29)) rfl ?_
        obtain ⟨rfl, rfl⟩ := qv_pair h
        exact qv_retz rfl (Or.inl rfl) hR
      · replace h := qv_neg c32 h
        refine qv_run 3 (σ := (41, [some (.ref l0)], [.int 38, .int 3, .ref l0], H29)) rfl ?_
        obtain ⟨g41, h⟩ := qv_guard h
        obtain ⟨H41, e41, h⟩ := qv_bind h
        refine qv_callV [.int 3, .int 38] rfl rfl rfl (Nat.le_of_ble_eq_true rfl) g41 (th_X11_step1 (by omega) e41) (tl_X11_step1 e41) ?_
        refine qv_run 1 (σ := (9, [some (.ref l0)], [], H41)) rfl ?_
        exact ih l0 H41 h
    · replace h := qv_neg c15 h
      refine qv_run 1 (σ := (48, [some (.ref l0)], [.int 1], H)) rfl ?_
      obtain ⟨rfl, rfl⟩ := qv_pair h
      exact qv_retz rfl (Or.inr rfl) hR
theorem tlb_X11_both_9 (rc : Nat → qx_H → Option (Int32 × qx_H)) (hrl : ∀ {b0 : Nat} {H1 H2 : qx_H} {r1 : Int32}, rc b0 H1 = some (r1, H2) → H2.length = H1.length) {r : Int32} {H' : qx_H} : ∀ (n : Nat) (l0 : Nat) (H : qx_H) (h : fm_X11_both_b9 rc n l0 H = some (r, H')), H'.length = H.length := by
  intro n
  induction n with
  | zero => intro l0 H h; exact nomatch (show (none : Option (Int32 × qx_H)) = some (r, H') from h)
  | succ n ih =>
    intro l0 H h
    unfold fm_X11_both_b9 at h
    obtain ⟨g10, h⟩ := qv_guard h
    obtain ⟨v10, e10, h⟩ := qv_bind h
    by_cases c15 : v10 = 38
    · replace h := qv_pos c15 h
      obtain ⟨v20, e20, h⟩ := qv_bind h
      obtain ⟨H25, e25, h⟩ := qv_bind h
      have q_H25 := hp_put_len e25
      obtain ⟨g29, h⟩ := qv_guard h
      obtain ⟨v29, H29, e29, h⟩ := qv_bind2 h
      have q_H29 := tl_X11_compared rc hrl e29
      by_cases c32 : v29 = 0
      · replace h := qv_pos c32 h
        obtain ⟨rfl, rfl⟩ := qv_pair h
        omega
      · replace h := qv_neg c32 h
        obtain ⟨g41, h⟩ := qv_guard h
        obtain ⟨H41, e41, h⟩ := qv_bind h
        have q_H41 := tl_X11_step1 e41
        have q_end := ih l0 H41 h
        omega
    · replace h := qv_neg c15 h
      obtain ⟨rfl, rfl⟩ := qv_pair h
      rfl
theorem tzb_X11_both_9 (rc : Nat → qx_H → Option (Int32 × qx_H)) (hrz : ∀ {b0 : Nat} {H1 H2 : qx_H} {r1 : Int32}, rc b0 H1 = some (r1, H2) → r1 = 0 ∨ r1 = 1) {r : Int32} {H' : qx_H} : ∀ (n : Nat) (l0 : Nat) (H : qx_H) (h : fm_X11_both_b9 rc n l0 H = some (r, H')), r = 0 ∨ r = 1 := by
  intro n
  induction n with
  | zero => intro l0 H h; exact nomatch (show (none : Option (Int32 × qx_H)) = some (r, H') from h)
  | succ n ih =>
    intro l0 H h
    unfold fm_X11_both_b9 at h
    obtain ⟨g10, h⟩ := qv_guard h
    obtain ⟨v10, e10, h⟩ := qv_bind h
    by_cases c15 : v10 = 38
    · replace h := qv_pos c15 h
      obtain ⟨v20, e20, h⟩ := qv_bind h
      obtain ⟨H25, e25, h⟩ := qv_bind h
      obtain ⟨g29, h⟩ := qv_guard h
      obtain ⟨v29, H29, e29, h⟩ := qv_bind2 h
      by_cases c32 : v29 = 0
      · replace h := qv_pos c32 h
        obtain ⟨rfl, rfl⟩ := qv_pair h
        exact Or.inl rfl
      · replace h := qv_neg c32 h
        obtain ⟨g41, h⟩ := qv_guard h
        obtain ⟨H41, e41, h⟩ := qv_bind h
        exact ih l0 H41 h
    · replace h := qv_neg c15 h
      obtain ⟨rfl, rfl⟩ := qv_pair h
      exact Or.inr rfl
theorem tb_X11_both_0 {st : xT} {e : Nat} {d : Nat} {R : Option Value → qx_H → Prop} (rc : Nat → qx_H → Option (Int32 × qx_H)) (hB : 1 ≤ e) (hrc : ∀ {b0 : Nat} {H1 H2 : qx_H} {r1 : Int32}, rc b0 H1 = some (r1, H2) → xE st e 154 [.ref b0] H1 (some (.int r1)) H2) (hrl : ∀ {b0 : Nat} {H1 H2 : qx_H} {r1 : Int32}, rc b0 H1 = some (r1, H2) → H2.length = H1.length) (hrz : ∀ {b0 : Nat} {H1 H2 : qx_H} {r1 : Int32}, rc b0 H1 = some (r1, H2) → r1 = 0 ∨ r1 = 1) (hd : e + 3 ≤ d) {r : Int32} {H' : qx_H} (hR : R (some (.int r)) H') (a0 : Nat) (H : qx_H) (h : fm_X11_both rc a0 H = some (r, H')) : qx_V (xE st d) R (xc149 st) (0, [some (.ref a0)], [], H) := by
  unfold fm_X11_both at h
  refine qv_run 1 (σ := (1, [some (.ref a0)], [.ref a0], H)) rfl ?_
  obtain ⟨g1, h⟩ := qv_guard h
  obtain ⟨v1, H1, e1, h⟩ := qv_bind2 h
  refine qv_callV [] rfl rfl rfl (Nat.le_of_ble_eq_true rfl) g1 (xE_le (by omega) (th_X11_compared rc hB hrc hrl hrz e1)) (tl_X11_compared rc hrl e1) ?_
  refine qv_br (c := v1 = 0) (a := (7, [some (.ref a0)], [], H1)) (b := (9, [some (.ref a0)], [], H1)) 1 rfl (fun c4 => ?_) (fun c4 => ?_)
  · replace h := qv_pos c4 h
    refine qv_run 1 (σ := (8, [some (.ref a0)], [.int 0], H1)) rfl ?_
    obtain ⟨rfl, rfl⟩ := qv_pair h
    exact qv_retz rfl (Or.inl rfl) hR
  · replace h := qv_neg c4 h
    exact tb_X11_both_9 rc hB hrc hrl hrz hd hR 5000 a0 H1 h
theorem tlb_X11_both_0 (rc : Nat → qx_H → Option (Int32 × qx_H)) (hrl : ∀ {b0 : Nat} {H1 H2 : qx_H} {r1 : Int32}, rc b0 H1 = some (r1, H2) → H2.length = H1.length) {r : Int32} {H' : qx_H} (a0 : Nat) (H : qx_H) (h : fm_X11_both rc a0 H = some (r, H')) : H'.length = H.length := by
  unfold fm_X11_both at h
  obtain ⟨g1, h⟩ := qv_guard h
  obtain ⟨v1, H1, e1, h⟩ := qv_bind2 h
  have q_H1 := tl_X11_compared rc hrl e1
  by_cases c4 : v1 = 0
  · replace h := qv_pos c4 h
    obtain ⟨rfl, rfl⟩ := qv_pair h
    omega
  · replace h := qv_neg c4 h
    have q_end := tlb_X11_both_9 rc hrl 5000 a0 H1 h
    omega
theorem tzb_X11_both_0 (rc : Nat → qx_H → Option (Int32 × qx_H)) (hrz : ∀ {b0 : Nat} {H1 H2 : qx_H} {r1 : Int32}, rc b0 H1 = some (r1, H2) → r1 = 0 ∨ r1 = 1) {r : Int32} {H' : qx_H} (a0 : Nat) (H : qx_H) (h : fm_X11_both rc a0 H = some (r, H')) : r = 0 ∨ r = 1 := by
  unfold fm_X11_both at h
  obtain ⟨g1, h⟩ := qv_guard h
  obtain ⟨v1, H1, e1, h⟩ := qv_bind2 h
  by_cases c4 : v1 = 0
  · replace h := qv_pos c4 h
    obtain ⟨rfl, rfl⟩ := qv_pair h
    exact Or.inl rfl
  · replace h := qv_neg c4 h
    exact tzb_X11_both_9 rc hrz 5000 a0 H1 h
theorem th_X11_both {st : xT} {e : Nat} (rc : Nat → qx_H → Option (Int32 × qx_H)) (hB : 1 ≤ e) (hrc : ∀ {b0 : Nat} {H1 H2 : qx_H} {r1 : Int32}, rc b0 H1 = some (r1, H2) → xE st e 154 [.ref b0] H1 (some (.int r1)) H2) (hrl : ∀ {b0 : Nat} {H1 H2 : qx_H} {r1 : Int32}, rc b0 H1 = some (r1, H2) → H2.length = H1.length) (hrz : ∀ {b0 : Nat} {H1 H2 : qx_H} {r1 : Int32}, rc b0 H1 = some (r1, H2) → r1 = 0 ∨ r1 = 1) {a0 : Nat} {H : qx_H} {r : Int32} {H' : qx_H} (h : fm_X11_both rc a0 H = some (r, H')) : xE st (e + 4) 149 [.ref a0] H (some (.int r)) H' := by
  exact xE_of (xe149 st) xl149 (Nat.le_of_ble_eq_true rfl) (ls := [some (.ref a0)]) rfl (tb_X11_both_0 rc hB hrc hrl hrz (Nat.le_refl _) ⟨rfl, rfl⟩ a0 H h)
theorem tl_X11_both (rc : Nat → qx_H → Option (Int32 × qx_H)) (hrl : ∀ {b0 : Nat} {H1 H2 : qx_H} {r1 : Int32}, rc b0 H1 = some (r1, H2) → H2.length = H1.length) {a0 : Nat} {H : qx_H} {r : Int32} {H' : qx_H} (h : fm_X11_both rc a0 H = some (r, H')) : H'.length = H.length := tlb_X11_both_0 rc hrl a0 H h
theorem tz_X11_both (rc : Nat → qx_H → Option (Int32 × qx_H)) (hrz : ∀ {b0 : Nat} {H1 H2 : qx_H} {r1 : Int32}, rc b0 H1 = some (r1, H2) → r1 = 0 ∨ r1 = 1) {a0 : Nat} {H : qx_H} {r : Int32} {H' : qx_H} (h : fm_X11_both rc a0 H = some (r, H')) : r = 0 ∨ r = 1 := tzb_X11_both_0 rc hrz a0 H h
def fm_X11_whole_b9 (rc : Nat → qx_H → Option (Int32 × qx_H)) : Nat → Nat → qx_H → Option (Int32 × qx_H)
  | 0, _, _ => none
  | n + 1, l0, H => if hp_is H l0 9 = true then ((fm_X11_look l0 H).bind fun v10 => if v10 = 124 then ((hp_gI H l0 9 5).bind fun v20 => (hp_put H l0 9 5 (.int (v20 + 1))).bind fun H25 => if hp_is H25 l0 9 = true then (ob2 (fm_X11_both rc l0 H25) fun v29 H29 => if v29 = 0 then (some (0, H29)) else (if hp_is H29 l0 9 = true then ((fm_X11_step1 l0 3 124 H29).bind fun H41 => fm_X11_whole_b9 rc n l0 H41) else none)) else none) else (some (1, H))) else none
def fm_X11_whole (rc : Nat → qx_H → Option (Int32 × qx_H)) (a0 : Nat) (H : qx_H) : Option (Int32 × qx_H) := if hp_is H a0 9 = true then (ob2 (fm_X11_both rc a0 H) fun v1 H1 => if v1 = 0 then (some (0, H1)) else (fm_X11_whole_b9 rc 5000 a0 H1)) else none
theorem tb_X11_whole_9 {st : xT} {e : Nat} {d : Nat} {R : Option Value → qx_H → Prop} (rc : Nat → qx_H → Option (Int32 × qx_H)) (hB : 1 ≤ e) (hrc : ∀ {b0 : Nat} {H1 H2 : qx_H} {r1 : Int32}, rc b0 H1 = some (r1, H2) → xE st e 154 [.ref b0] H1 (some (.int r1)) H2) (hrl : ∀ {b0 : Nat} {H1 H2 : qx_H} {r1 : Int32}, rc b0 H1 = some (r1, H2) → H2.length = H1.length) (hrz : ∀ {b0 : Nat} {H1 H2 : qx_H} {r1 : Int32}, rc b0 H1 = some (r1, H2) → r1 = 0 ∨ r1 = 1) (hd : e + 4 ≤ d) {r : Int32} {H' : qx_H} (hR : R (some (.int r)) H') : ∀ (n : Nat) (l0 : Nat) (H : qx_H) (h : fm_X11_whole_b9 rc n l0 H = some (r, H')), qx_V (xE st d) R (xc148 st) (9, [some (.ref l0)], [], H) := by
  intro n
  induction n with
  | zero => intro l0 H h; exact nomatch (show (none : Option (Int32 × qx_H)) = some (r, H') from h)
  | succ n ih =>
    intro l0 H h
    unfold fm_X11_whole_b9 at h
    refine qv_run 1 (σ := (10, [some (.ref l0)], [.ref l0], H)) rfl ?_
    obtain ⟨g10, h⟩ := qv_guard h
    obtain ⟨v10, e10, h⟩ := qv_bind h
    refine qv_callV [] rfl rfl rfl (Nat.le_of_ble_eq_true rfl) g10 (th_X11_look (by omega) e10) rfl ?_
    refine qv_br (c := v10 = 124) (a := (18, [some (.ref l0)], [], H)) (b := (47, [some (.ref l0)], [], H)) 2 rfl (fun c15 => ?_) (fun c15 => ?_)
    · replace h := qv_pos c15 h
      refine qv_run 2 (σ := (20, [some (.ref l0)], [.ref l0, .ref l0], H)) rfl ?_
      obtain ⟨v20, e20, h⟩ := qv_bind h
      refine qv_getI rfl e20 ?_
      refine qv_run 2 (σ := (25, [some (.ref l0)], [.int (v20 + 1), .ref l0], H)) rfl ?_
      obtain ⟨H25, e25, h⟩ := qv_bind h
      refine qv_putI rfl e25 ?_
      refine qv_run 1 (σ := (29, [some (.ref l0)], [.ref l0], H25)) rfl ?_
      obtain ⟨g29, h⟩ := qv_guard h
      obtain ⟨v29, H29, e29, h⟩ := qv_bind2 h
      refine qv_callV [] rfl rfl rfl (Nat.le_of_ble_eq_true rfl) g29 (xE_le (by omega) (th_X11_both rc hB hrc hrl hrz e29)) (tl_X11_both rc hrl e29) ?_
      refine qv_br (c := v29 = 0) (a := (35, [some (.ref l0)], [], H29)) (b := (37, [some (.ref l0)], [], H29)) 1 rfl (fun c32 => ?_) (fun c32 => ?_)
      · replace h := qv_pos c32 h
        refine qv_run 1 (σ := (36, [some (.ref l0)], [.int 0], H29)) rfl ?_
        obtain ⟨rfl, rfl⟩ := qv_pair h
        exact qv_retz rfl (Or.inl rfl) hR
      · replace h := qv_neg c32 h
        refine qv_run 3 (σ := (41, [some (.ref l0)], [.int 124, .int 3, .ref l0], H29)) rfl ?_
        obtain ⟨g41, h⟩ := qv_guard h
        obtain ⟨H41, e41, h⟩ := qv_bind h
        refine qv_callV [.int 3, .int 124] rfl rfl rfl (Nat.le_of_ble_eq_true rfl) g41 (th_X11_step1 (by omega) e41) (tl_X11_step1 e41) ?_
        refine qv_run 1 (σ := (9, [some (.ref l0)], [], H41)) rfl ?_
        exact ih l0 H41 h
    · replace h := qv_neg c15 h
      refine qv_run 1 (σ := (48, [some (.ref l0)], [.int 1], H)) rfl ?_
      obtain ⟨rfl, rfl⟩ := qv_pair h
      exact qv_retz rfl (Or.inr rfl) hR
theorem tlb_X11_whole_9 (rc : Nat → qx_H → Option (Int32 × qx_H)) (hrl : ∀ {b0 : Nat} {H1 H2 : qx_H} {r1 : Int32}, rc b0 H1 = some (r1, H2) → H2.length = H1.length) {r : Int32} {H' : qx_H} : ∀ (n : Nat) (l0 : Nat) (H : qx_H) (h : fm_X11_whole_b9 rc n l0 H = some (r, H')), H'.length = H.length := by
  intro n
  induction n with
  | zero => intro l0 H h; exact nomatch (show (none : Option (Int32 × qx_H)) = some (r, H') from h)
  | succ n ih =>
    intro l0 H h
    unfold fm_X11_whole_b9 at h
    obtain ⟨g10, h⟩ := qv_guard h
    obtain ⟨v10, e10, h⟩ := qv_bind h
    by_cases c15 : v10 = 124
    · replace h := qv_pos c15 h
      obtain ⟨v20, e20, h⟩ := qv_bind h
      obtain ⟨H25, e25, h⟩ := qv_bind h
      have q_H25 := hp_put_len e25
      obtain ⟨g29, h⟩ := qv_guard h
      obtain ⟨v29, H29, e29, h⟩ := qv_bind2 h
      have q_H29 := tl_X11_both rc hrl e29
      by_cases c32 : v29 = 0
      · replace h := qv_pos c32 h
        obtain ⟨rfl, rfl⟩ := qv_pair h
        omega
      · replace h := qv_neg c32 h
        obtain ⟨g41, h⟩ := qv_guard h
        obtain ⟨H41, e41, h⟩ := qv_bind h
        have q_H41 := tl_X11_step1 e41
        have q_end := ih l0 H41 h
        omega
    · replace h := qv_neg c15 h
      obtain ⟨rfl, rfl⟩ := qv_pair h
      rfl
theorem tzb_X11_whole_9 (rc : Nat → qx_H → Option (Int32 × qx_H)) (hrz : ∀ {b0 : Nat} {H1 H2 : qx_H} {r1 : Int32}, rc b0 H1 = some (r1, H2) → r1 = 0 ∨ r1 = 1) {r : Int32} {H' : qx_H} : ∀ (n : Nat) (l0 : Nat) (H : qx_H) (h : fm_X11_whole_b9 rc n l0 H = some (r, H')), r = 0 ∨ r = 1 := by
  intro n
  induction n with
  | zero => intro l0 H h; exact nomatch (show (none : Option (Int32 × qx_H)) = some (r, H') from h)
  | succ n ih =>
    intro l0 H h
    unfold fm_X11_whole_b9 at h
    obtain ⟨g10, h⟩ := qv_guard h
    obtain ⟨v10, e10, h⟩ := qv_bind h
    by_cases c15 : v10 = 124
    · replace h := qv_pos c15 h
      obtain ⟨v20, e20, h⟩ := qv_bind h
      obtain ⟨H25, e25, h⟩ := qv_bind h
      obtain ⟨g29, h⟩ := qv_guard h
      obtain ⟨v29, H29, e29, h⟩ := qv_bind2 h
      by_cases c32 : v29 = 0
      · replace h := qv_pos c32 h
        obtain ⟨rfl, rfl⟩ := qv_pair h
        exact Or.inl rfl
      · replace h := qv_neg c32 h
        obtain ⟨g41, h⟩ := qv_guard h
        obtain ⟨H41, e41, h⟩ := qv_bind h
        exact ih l0 H41 h
    · replace h := qv_neg c15 h
      obtain ⟨rfl, rfl⟩ := qv_pair h
      exact Or.inr rfl
theorem tb_X11_whole_0 {st : xT} {e : Nat} {d : Nat} {R : Option Value → qx_H → Prop} (rc : Nat → qx_H → Option (Int32 × qx_H)) (hB : 1 ≤ e) (hrc : ∀ {b0 : Nat} {H1 H2 : qx_H} {r1 : Int32}, rc b0 H1 = some (r1, H2) → xE st e 154 [.ref b0] H1 (some (.int r1)) H2) (hrl : ∀ {b0 : Nat} {H1 H2 : qx_H} {r1 : Int32}, rc b0 H1 = some (r1, H2) → H2.length = H1.length) (hrz : ∀ {b0 : Nat} {H1 H2 : qx_H} {r1 : Int32}, rc b0 H1 = some (r1, H2) → r1 = 0 ∨ r1 = 1) (hd : e + 4 ≤ d) {r : Int32} {H' : qx_H} (hR : R (some (.int r)) H') (a0 : Nat) (H : qx_H) (h : fm_X11_whole rc a0 H = some (r, H')) : qx_V (xE st d) R (xc148 st) (0, [some (.ref a0)], [], H) := by
  unfold fm_X11_whole at h
  refine qv_run 1 (σ := (1, [some (.ref a0)], [.ref a0], H)) rfl ?_
  obtain ⟨g1, h⟩ := qv_guard h
  obtain ⟨v1, H1, e1, h⟩ := qv_bind2 h
  refine qv_callV [] rfl rfl rfl (Nat.le_of_ble_eq_true rfl) g1 (xE_le (by omega) (th_X11_both rc hB hrc hrl hrz e1)) (tl_X11_both rc hrl e1) ?_
  refine qv_br (c := v1 = 0) (a := (7, [some (.ref a0)], [], H1)) (b := (9, [some (.ref a0)], [], H1)) 1 rfl (fun c4 => ?_) (fun c4 => ?_)
  · replace h := qv_pos c4 h
    refine qv_run 1 (σ := (8, [some (.ref a0)], [.int 0], H1)) rfl ?_
    obtain ⟨rfl, rfl⟩ := qv_pair h
    exact qv_retz rfl (Or.inl rfl) hR
  · replace h := qv_neg c4 h
    exact tb_X11_whole_9 rc hB hrc hrl hrz hd hR 5000 a0 H1 h
theorem tlb_X11_whole_0 (rc : Nat → qx_H → Option (Int32 × qx_H)) (hrl : ∀ {b0 : Nat} {H1 H2 : qx_H} {r1 : Int32}, rc b0 H1 = some (r1, H2) → H2.length = H1.length) {r : Int32} {H' : qx_H} (a0 : Nat) (H : qx_H) (h : fm_X11_whole rc a0 H = some (r, H')) : H'.length = H.length := by
  unfold fm_X11_whole at h
  obtain ⟨g1, h⟩ := qv_guard h
  obtain ⟨v1, H1, e1, h⟩ := qv_bind2 h
  have q_H1 := tl_X11_both rc hrl e1
  by_cases c4 : v1 = 0
  · replace h := qv_pos c4 h
    obtain ⟨rfl, rfl⟩ := qv_pair h
    omega
  · replace h := qv_neg c4 h
    have q_end := tlb_X11_whole_9 rc hrl 5000 a0 H1 h
    omega
theorem tzb_X11_whole_0 (rc : Nat → qx_H → Option (Int32 × qx_H)) (hrz : ∀ {b0 : Nat} {H1 H2 : qx_H} {r1 : Int32}, rc b0 H1 = some (r1, H2) → r1 = 0 ∨ r1 = 1) {r : Int32} {H' : qx_H} (a0 : Nat) (H : qx_H) (h : fm_X11_whole rc a0 H = some (r, H')) : r = 0 ∨ r = 1 := by
  unfold fm_X11_whole at h
  obtain ⟨g1, h⟩ := qv_guard h
  obtain ⟨v1, H1, e1, h⟩ := qv_bind2 h
  by_cases c4 : v1 = 0
  · replace h := qv_pos c4 h
    obtain ⟨rfl, rfl⟩ := qv_pair h
    exact Or.inl rfl
  · replace h := qv_neg c4 h
    exact tzb_X11_whole_9 rc hrz 5000 a0 H1 h
theorem th_X11_whole {st : xT} {e : Nat} (rc : Nat → qx_H → Option (Int32 × qx_H)) (hB : 1 ≤ e) (hrc : ∀ {b0 : Nat} {H1 H2 : qx_H} {r1 : Int32}, rc b0 H1 = some (r1, H2) → xE st e 154 [.ref b0] H1 (some (.int r1)) H2) (hrl : ∀ {b0 : Nat} {H1 H2 : qx_H} {r1 : Int32}, rc b0 H1 = some (r1, H2) → H2.length = H1.length) (hrz : ∀ {b0 : Nat} {H1 H2 : qx_H} {r1 : Int32}, rc b0 H1 = some (r1, H2) → r1 = 0 ∨ r1 = 1) {a0 : Nat} {H : qx_H} {r : Int32} {H' : qx_H} (h : fm_X11_whole rc a0 H = some (r, H')) : xE st (e + 5) 148 [.ref a0] H (some (.int r)) H' := by
  exact xE_of (xe148 st) xl148 (Nat.le_of_ble_eq_true rfl) (ls := [some (.ref a0)]) rfl (tb_X11_whole_0 rc hB hrc hrl hrz (Nat.le_refl _) ⟨rfl, rfl⟩ a0 H h)
theorem tl_X11_whole (rc : Nat → qx_H → Option (Int32 × qx_H)) (hrl : ∀ {b0 : Nat} {H1 H2 : qx_H} {r1 : Int32}, rc b0 H1 = some (r1, H2) → H2.length = H1.length) {a0 : Nat} {H : qx_H} {r : Int32} {H' : qx_H} (h : fm_X11_whole rc a0 H = some (r, H')) : H'.length = H.length := tlb_X11_whole_0 rc hrl a0 H h
theorem tz_X11_whole (rc : Nat → qx_H → Option (Int32 × qx_H)) (hrz : ∀ {b0 : Nat} {H1 H2 : qx_H} {r1 : Int32}, rc b0 H1 = some (r1, H2) → r1 = 0 ∨ r1 = 1) {a0 : Nat} {H : qx_H} {r : Int32} {H' : qx_H} (h : fm_X11_whole rc a0 H = some (r, H')) : r = 0 ∨ r = 1 := tzb_X11_whole_0 rc hrz a0 H h
def fm_X11_one_b94 (rc : Nat → qx_H → Option (Int32 × qx_H)) (l0 : Nat) (l2 : Int32) (H : qx_H) : Option (Int32 × qx_H) := if hp_is H l0 9 = true then ((fm_X11_step1 l0 0 l2 H).bind fun H97 => some (1, H97)) else none
def fm_X11_one_b46 (rc : Nat → qx_H → Option (Int32 × qx_H)) : Nat → Nat → Int32 → Int32 → qx_H → Option (Int32 × qx_H)
  | 0, _, _, _, _ => none
  | n + 1, l0, l2, l3, H => if 4 ≤ l3 then (fm_X11_one_b94 rc l0 l2 H) else (if hp_is H l0 9 = true then ((fm_X11_look l0 H).bind fun v52 => if (fm_X11_in v52 48 57) = 0 then (fm_X11_one_b94 rc l0 l2 H) else ((fm_X11_look l0 H).bind fun v70 => (hp_gI H l0 9 5).bind fun v80 => (hp_put H l0 9 5 (.int (v80 + 1))).bind fun H85 => fm_X11_one_b46 rc n l0 (((10 * l2) + v70) - 48) (l3 + 1) H85)) else none)
def fm_X11_one_e (rc : Nat → qx_H → Option (Int32 × qx_H)) (a0 : Nat) (H : qx_H) : Option (Int32 × qx_H) := if hp_is H a0 9 = true then ((fm_X11_look a0 H).bind fun v1 => (fm_X11_isName a0 v1 H).bind fun v7 => if v7 = 0 then (if (fm_X11_in v1 48 57) = 0 then (if v1 = 33 then (ob2 (fm_X11_opens a0 H) fun v109 H109 => if v109 = 0 then (some (0, H109)) else (if hp_is H109 a0 9 = true then (ob2 (rc a0 H109) fun v116 H116 => if v116 = 0 then (some (0, H116)) else ((hp_gI H116 a0 9 6).bind fun v126 => (hp_put H116 a0 9 6 (.int (v126 - 1))).bind fun H131 => if hp_is H131 a0 9 = true then ((fm_X11_step1 a0 2 0 H131).bind fun H137 => some (1, H137)) else none)) else none)) else (if v1 = 40 then (ob2 (fm_X11_opens a0 H) fun v149 H149 => if v149 = 0 then (some (0, H149)) else (if hp_is H149 a0 9 = true then (ob2 (fm_X11_whole rc a0 H149) fun v156 H156 => if v156 = 0 then (some (0, H156)) else (if hp_is H156 a0 9 = true then ((fm_X11_look a0 H156).bind fun v163 => if v163 = 41 then ((hp_gI H156 a0 9 5).bind fun v175 => (hp_put H156 a0 9 5 (.int (v175 + 1))).bind fun H180 => (hp_gI H180 a0 9 6).bind fun v185 => (hp_put H180 a0 9 6 (.int (v185 - 1))).bind fun H190 => some (1, H190)) else (some (0, H156))) else none)) else none)) else (some (0, H)))) else (fm_X11_one_b46 rc 5000 a0 0 0 H)) else ((hp_gI H a0 9 5).bind fun v15 => (hp_put H a0 9 5 (.int (v15 + 1))).bind fun H20 => if hp_is H20 a0 9 = true then ((fm_X11_step1 a0 1 v1 H20).bind fun H26 => some (1, H26)) else none)) else none
def fm_X11_one : Nat → Nat → qx_H → Option (Int32 × qx_H)
  | 0, _, _ => none
  | n + 1, a0, H => fm_X11_one_e (fm_X11_one n) a0 H
theorem tb_X11_one_94 {st : xT} {e : Nat} {d : Nat} {R : Option Value → qx_H → Prop} (rc : Nat → qx_H → Option (Int32 × qx_H)) (hB : 1 ≤ e) (hrc : ∀ {b0 : Nat} {H1 H2 : qx_H} {r1 : Int32}, rc b0 H1 = some (r1, H2) → xE st e 154 [.ref b0] H1 (some (.int r1)) H2) (hrl : ∀ {b0 : Nat} {H1 H2 : qx_H} {r1 : Int32}, rc b0 H1 = some (r1, H2) → H2.length = H1.length) (hrz : ∀ {b0 : Nat} {H1 H2 : qx_H} {r1 : Int32}, rc b0 H1 = some (r1, H2) → r1 = 0 ∨ r1 = 1) (hd : e + 5 ≤ d) {r : Int32} {H' : qx_H} (hR : R (some (.int r)) H') (l0 : Nat) (l2 : Int32) (z1 : Option Value) (hz1 : qx_ns z1 = true) (z3 : Option Value) (hz3 : qx_ns z3 = true) (H : qx_H) (h : fm_X11_one_b94 rc l0 l2 H = some (r, H')) : qx_V (xE st d) R (xc154 st) (94, [some (.ref l0), z1, some (.int l2), z3], [], H) := by
  unfold fm_X11_one_b94 at h
  refine qv_run 3 (σ := (97, [some (.ref l0), z1, some (.int l2), z3], [.int l2, .int 0, .ref l0], H)) rfl ?_
  obtain ⟨g97, h⟩ := qv_guard h
  obtain ⟨H97, e97, h⟩ := qv_bind h
  refine qv_callV [.int 0, .int l2] rfl rfl rfl (Nat.le_of_ble_eq_true rfl) g97 (th_X11_step1 (by omega) e97) (tl_X11_step1 e97) ?_
  refine qv_run 1 (σ := (101, [some (.ref l0), z1, some (.int l2), z3], [.int 1], H97)) rfl ?_
  obtain ⟨rfl, rfl⟩ := qv_pair h
  exact qv_retz rfl (Or.inr rfl) hR
theorem tlb_X11_one_94 (rc : Nat → qx_H → Option (Int32 × qx_H)) (hrl : ∀ {b0 : Nat} {H1 H2 : qx_H} {r1 : Int32}, rc b0 H1 = some (r1, H2) → H2.length = H1.length) {r : Int32} {H' : qx_H} (l0 : Nat) (l2 : Int32) (H : qx_H) (h : fm_X11_one_b94 rc l0 l2 H = some (r, H')) : H'.length = H.length := by
  unfold fm_X11_one_b94 at h
  obtain ⟨g97, h⟩ := qv_guard h
  obtain ⟨H97, e97, h⟩ := qv_bind h
  have q_H97 := tl_X11_step1 e97
  obtain ⟨rfl, rfl⟩ := qv_pair h
  omega
theorem tzb_X11_one_94 (rc : Nat → qx_H → Option (Int32 × qx_H)) (hrz : ∀ {b0 : Nat} {H1 H2 : qx_H} {r1 : Int32}, rc b0 H1 = some (r1, H2) → r1 = 0 ∨ r1 = 1) {r : Int32} {H' : qx_H} (l0 : Nat) (l2 : Int32) (H : qx_H) (h : fm_X11_one_b94 rc l0 l2 H = some (r, H')) : r = 0 ∨ r = 1 := by
  unfold fm_X11_one_b94 at h
  obtain ⟨g97, h⟩ := qv_guard h
  obtain ⟨H97, e97, h⟩ := qv_bind h
  obtain ⟨rfl, rfl⟩ := qv_pair h
  exact Or.inr rfl
theorem tb_X11_one_46 {st : xT} {e : Nat} {d : Nat} {R : Option Value → qx_H → Prop} (rc : Nat → qx_H → Option (Int32 × qx_H)) (hB : 1 ≤ e) (hrc : ∀ {b0 : Nat} {H1 H2 : qx_H} {r1 : Int32}, rc b0 H1 = some (r1, H2) → xE st e 154 [.ref b0] H1 (some (.int r1)) H2) (hrl : ∀ {b0 : Nat} {H1 H2 : qx_H} {r1 : Int32}, rc b0 H1 = some (r1, H2) → H2.length = H1.length) (hrz : ∀ {b0 : Nat} {H1 H2 : qx_H} {r1 : Int32}, rc b0 H1 = some (r1, H2) → r1 = 0 ∨ r1 = 1) (hd : e + 5 ≤ d) {r : Int32} {H' : qx_H} (hR : R (some (.int r)) H') : ∀ (n : Nat) (l0 : Nat) (l2 : Int32) (l3 : Int32) (z1 : Option Value) (hz1 : qx_ns z1 = true) (H : qx_H) (h : fm_X11_one_b46 rc n l0 l2 l3 H = some (r, H')), qx_V (xE st d) R (xc154 st) (46, [some (.ref l0), z1, some (.int l2), some (.int l3)], [], H) := by
  intro n
  induction n with
  | zero => intro l0 l2 l3 z1 hz1 H h; exact nomatch (show (none : Option (Int32 × qx_H)) = some (r, H') from h)
  | succ n ih =>
    intro l0 l2 l3 z1 hz1 H h
    unfold fm_X11_one_b46 at h
    refine qv_br (c := 4 ≤ l3) (a := (94, [some (.ref l0), z1, some (.int l2), some (.int l3)], [], H)) (b := (51, [some (.ref l0), z1, some (.int l2), some (.int l3)], [], H)) 3 rfl (fun c48 => ?_) (fun c48 => ?_)
    · replace h := qv_pos c48 h
      exact tb_X11_one_94 rc hB hrc hrl hrz hd hR l0 l2 z1 hz1 (some (.int l3)) rfl H h
    · replace h := qv_neg c48 h
      refine qv_run 1 (σ := (52, [some (.ref l0), z1, some (.int l2), some (.int l3)], [.ref l0], H)) rfl ?_
      obtain ⟨g52, h⟩ := qv_guard h
      obtain ⟨v52, e52, h⟩ := qv_bind h
      refine qv_callV [] rfl rfl rfl (Nat.le_of_ble_eq_true rfl) g52 (th_X11_look (by omega) e52) rfl ?_
      refine qv_run 2 (σ := (59, [some (.ref l0), z1, some (.int l2), some (.int l3)], [.int 57, .int 48, .int v52], H)) rfl ?_
      refine qv_call [.int v52, .int 48, .int 57] rfl rfl rfl (Nat.le_of_ble_eq_true rfl) (th_X11_in (by omega) rfl) rfl ?_
      refine qv_br (c := (fm_X11_in v52 48 57) = 0) (a := (94, [some (.ref l0), z1, some (.int l2), some (.int l3)], [], H)) (b := (65, [some (.ref l0), z1, some (.int l2), some (.int l3)], [], H)) 1 rfl (fun c62 => ?_) (fun c62 => ?_)
      · replace h := qv_pos c62 h
        exact tb_X11_one_94 rc hB hrc hrl hrz hd hR l0 l2 z1 hz1 (some (.int l3)) rfl H h
      · replace h := qv_neg c62 h
        refine qv_run 4 (σ := (70, [some (.ref l0), z1, some (.int l2), some (.int l3)], [.ref l0, .int (10 * l2)], H)) rfl ?_
        obtain ⟨v70, e70, h⟩ := qv_bind h
        refine qv_callV [] rfl rfl rfl (Nat.le_of_ble_eq_true rfl) g52 (th_X11_look (by omega) e70) rfl ?_
        refine qv_run 3 (σ := (77, [some (.ref l0), z1, some (.int l2), some (.int l3)], [.int (((10 * l2) + v70) - 48)], H)) rfl ?_
        refine qv_istN (ls' := [some (.ref l0), z1, some (.int (((10 * l2) + v70) - 48)), some (.int l3)]) rfl rfl (qx_kl_ns rfl hz1) rfl ?_
        refine qv_run 2 (σ := (80, [some (.ref l0), z1, some (.int (((10 * l2) + v70) - 48)), some (.int l3)], [.ref l0, .ref l0], H)) rfl ?_
        obtain ⟨v80, e80, h⟩ := qv_bind h
        refine qv_getI rfl e80 ?_
        refine qv_run 2 (σ := (85, [some (.ref l0), z1, some (.int (((10 * l2) + v70) - 48)), some (.int l3)], [.int (v80 + 1), .ref l0], H)) rfl ?_
        obtain ⟨H85, e85, h⟩ := qv_bind h
        refine qv_putI rfl e85 ?_
        refine qv_run 2 (σ := (46, [some (.ref l0), z1, some (.int (((10 * l2) + v70) - 48)), some (.int (l3 + 1))], [], H85)) rfl ?_
        exact ih l0 (((10 * l2) + v70) - 48) (l3 + 1) z1 hz1 H85 h
theorem tlb_X11_one_46 (rc : Nat → qx_H → Option (Int32 × qx_H)) (hrl : ∀ {b0 : Nat} {H1 H2 : qx_H} {r1 : Int32}, rc b0 H1 = some (r1, H2) → H2.length = H1.length) {r : Int32} {H' : qx_H} : ∀ (n : Nat) (l0 : Nat) (l2 : Int32) (l3 : Int32) (H : qx_H) (h : fm_X11_one_b46 rc n l0 l2 l3 H = some (r, H')), H'.length = H.length := by
  intro n
  induction n with
  | zero => intro l0 l2 l3 H h; exact nomatch (show (none : Option (Int32 × qx_H)) = some (r, H') from h)
  | succ n ih =>
    intro l0 l2 l3 H h
    unfold fm_X11_one_b46 at h
    by_cases c48 : 4 ≤ l3
    · replace h := qv_pos c48 h
      exact tlb_X11_one_94 rc hrl l0 l2 H h
    · replace h := qv_neg c48 h
      obtain ⟨g52, h⟩ := qv_guard h
      obtain ⟨v52, e52, h⟩ := qv_bind h
      by_cases c62 : (fm_X11_in v52 48 57) = 0
      · replace h := qv_pos c62 h
        exact tlb_X11_one_94 rc hrl l0 l2 H h
      · replace h := qv_neg c62 h
        obtain ⟨v70, e70, h⟩ := qv_bind h
        obtain ⟨v80, e80, h⟩ := qv_bind h
        obtain ⟨H85, e85, h⟩ := qv_bind h
        have q_H85 := hp_put_len e85
        have q_end := ih l0 (((10 * l2) + v70) - 48) (l3 + 1) H85 h
        omega
theorem tzb_X11_one_46 (rc : Nat → qx_H → Option (Int32 × qx_H)) (hrz : ∀ {b0 : Nat} {H1 H2 : qx_H} {r1 : Int32}, rc b0 H1 = some (r1, H2) → r1 = 0 ∨ r1 = 1) {r : Int32} {H' : qx_H} : ∀ (n : Nat) (l0 : Nat) (l2 : Int32) (l3 : Int32) (H : qx_H) (h : fm_X11_one_b46 rc n l0 l2 l3 H = some (r, H')), r = 0 ∨ r = 1 := by
  intro n
  induction n with
  | zero => intro l0 l2 l3 H h; exact nomatch (show (none : Option (Int32 × qx_H)) = some (r, H') from h)
  | succ n ih =>
    intro l0 l2 l3 H h
    unfold fm_X11_one_b46 at h
    by_cases c48 : 4 ≤ l3
    · replace h := qv_pos c48 h
      exact tzb_X11_one_94 rc hrz l0 l2 H h
    · replace h := qv_neg c48 h
      obtain ⟨g52, h⟩ := qv_guard h
      obtain ⟨v52, e52, h⟩ := qv_bind h
      by_cases c62 : (fm_X11_in v52 48 57) = 0
      · replace h := qv_pos c62 h
        exact tzb_X11_one_94 rc hrz l0 l2 H h
      · replace h := qv_neg c62 h
        obtain ⟨v70, e70, h⟩ := qv_bind h
        obtain ⟨v80, e80, h⟩ := qv_bind h
        obtain ⟨H85, e85, h⟩ := qv_bind h
        exact ih l0 (((10 * l2) + v70) - 48) (l3 + 1) H85 h
theorem tb_X11_one_0 {st : xT} {e : Nat} {d : Nat} {R : Option Value → qx_H → Prop} (rc : Nat → qx_H → Option (Int32 × qx_H)) (hB : 1 ≤ e) (hrc : ∀ {b0 : Nat} {H1 H2 : qx_H} {r1 : Int32}, rc b0 H1 = some (r1, H2) → xE st e 154 [.ref b0] H1 (some (.int r1)) H2) (hrl : ∀ {b0 : Nat} {H1 H2 : qx_H} {r1 : Int32}, rc b0 H1 = some (r1, H2) → H2.length = H1.length) (hrz : ∀ {b0 : Nat} {H1 H2 : qx_H} {r1 : Int32}, rc b0 H1 = some (r1, H2) → r1 = 0 ∨ r1 = 1) (hd : e + 5 ≤ d) {r : Int32} {H' : qx_H} (hR : R (some (.int r)) H') (a0 : Nat) (H : qx_H) (h : fm_X11_one_e rc a0 H = some (r, H')) : qx_V (xE st d) R (xc154 st) (0, [some (.ref a0), none, none, none], [], H) := by
  unfold fm_X11_one_e at h
  refine qv_run 1 (σ := (1, [some (.ref a0), none, none, none], [.ref a0], H)) rfl ?_
  obtain ⟨g1, h⟩ := qv_guard h
  obtain ⟨v1, e1, h⟩ := qv_bind h
  refine qv_callV [] rfl rfl rfl (Nat.le_of_ble_eq_true rfl) g1 (th_X11_look (by omega) e1) rfl ?_
  refine qv_run 3 (σ := (7, [some (.ref a0), some (.int v1), none, none], [.int v1, .ref a0], H)) rfl ?_
  obtain ⟨v7, e7, h⟩ := qv_bind h
  refine qv_callV [.int v1] rfl rfl rfl (Nat.le_of_ble_eq_true rfl) g1 (th_X11_isName (by omega) e7) rfl ?_
  refine qv_br (c := v7 = 0) (a := (31, [some (.ref a0), some (.int v1), none, none], [], H)) (b := (13, [some (.ref a0), some (.int v1), none, none], [], H)) 1 rfl (fun c10 => ?_) (fun c10 => ?_)
  · replace h := qv_pos c10 h
    refine qv_run 3 (σ := (36, [some (.ref a0), some (.int v1), none, none], [.int 57, .int 48, .int v1], H)) rfl ?_
    refine qv_call [.int v1, .int 48, .int 57] rfl rfl rfl (Nat.le_of_ble_eq_true rfl) (th_X11_in (by omega) rfl) rfl ?_
    refine qv_br (c := (fm_X11_in v1 48 57) = 0) (a := (102, [some (.ref a0), some (.int v1), none, none], [], H)) (b := (42, [some (.ref a0), some (.int v1), none, none], [], H)) 1 rfl (fun c39 => ?_) (fun c39 => ?_)
    · replace h := qv_pos c39 h
      refine qv_br (c := v1 = 33) (a := (108, [some (.ref a0), some (.int v1), none, none], [], H)) (b := (142, [some (.ref a0), some (.int v1), none, none], [], H)) 3 rfl (fun c105 => ?_) (fun c105 => ?_)
      · replace h := qv_pos c105 h
        refine qv_run 1 (σ := (109, [some (.ref a0), some (.int v1), none, none], [.ref a0], H)) rfl ?_
        obtain ⟨v109, H109, e109, h⟩ := qv_bind2 h
        refine qv_callV [] rfl rfl rfl (Nat.le_of_ble_eq_true rfl) g1 (th_X11_opens (by omega) e109) (tl_X11_opens e109) ?_
        refine qv_br (c := v109 = 0) (a := (122, [some (.ref a0), some (.int v1), none, none], [], H109)) (b := (115, [some (.ref a0), some (.int v1), none, none], [], H109)) 1 rfl (fun c112 => ?_) (fun c112 => ?_)
        · replace h := qv_pos c112 h
          refine qv_run 1 (σ := (123, [some (.ref a0), some (.int v1), none, none], [.int 0], H109)) rfl ?_
          obtain ⟨rfl, rfl⟩ := qv_pair h
          exact qv_retz rfl (Or.inl rfl) hR
        · replace h := qv_neg c112 h
          refine qv_run 1 (σ := (116, [some (.ref a0), some (.int v1), none, none], [.ref a0], H109)) rfl ?_
          obtain ⟨g116, h⟩ := qv_guard h
          obtain ⟨v116, H116, e116, h⟩ := qv_bind2 h
          refine qv_callV [] rfl rfl rfl (Nat.le_of_ble_eq_true rfl) g116 (xE_le (by omega) (hrc e116)) (hrl e116) ?_
          refine qv_br (c := v116 = 0) (a := (122, [some (.ref a0), some (.int v1), none, none], [], H116)) (b := (124, [some (.ref a0), some (.int v1), none, none], [], H116)) 1 rfl (fun c119 => ?_) (fun c119 => ?_)
          · replace h := qv_pos c119 h
            refine qv_run 1 (σ := (123, [some (.ref a0), some (.int v1), none, none], [.int 0], H116)) rfl ?_
            obtain ⟨rfl, rfl⟩ := qv_pair h
            exact qv_retz rfl (Or.inl rfl) hR
          · replace h := qv_neg c119 h
            refine qv_run 2 (σ := (126, [some (.ref a0), some (.int v1), none, none], [.ref a0, .ref a0], H116)) rfl ?_
            obtain ⟨v126, e126, h⟩ := qv_bind h
            refine qv_getI rfl e126 ?_
            refine qv_run 2 (σ := (131, [some (.ref a0), some (.int v1), none, none], [.int (v126 - 1), .ref a0], H116)) rfl ?_
            obtain ⟨H131, e131, h⟩ := qv_bind h
            refine qv_putI rfl e131 ?_
            refine qv_run 3 (σ := (137, [some (.ref a0), some (.int v1), none, none], [.int 0, .int 2, .ref a0], H131)) rfl ?_
            obtain ⟨g137, h⟩ := qv_guard h
            obtain ⟨H137, e137, h⟩ := qv_bind h
            refine qv_callV [.int 2, .int 0] rfl rfl rfl (Nat.le_of_ble_eq_true rfl) g137 (th_X11_step1 (by omega) e137) (tl_X11_step1 e137) ?_
            refine qv_run 1 (σ := (141, [some (.ref a0), some (.int v1), none, none], [.int 1], H137)) rfl ?_
            obtain ⟨rfl, rfl⟩ := qv_pair h
            exact qv_retz rfl (Or.inr rfl) hR
      · replace h := qv_neg c105 h
        refine qv_br (c := v1 = 40) (a := (148, [some (.ref a0), some (.int v1), none, none], [], H)) (b := (171, [some (.ref a0), some (.int v1), none, none], [], H)) 3 rfl (fun c145 => ?_) (fun c145 => ?_)
        · replace h := qv_pos c145 h
          refine qv_run 1 (σ := (149, [some (.ref a0), some (.int v1), none, none], [.ref a0], H)) rfl ?_
          obtain ⟨v149, H149, e149, h⟩ := qv_bind2 h
          refine qv_callV [] rfl rfl rfl (Nat.le_of_ble_eq_true rfl) g1 (th_X11_opens (by omega) e149) (tl_X11_opens e149) ?_
          refine qv_br (c := v149 = 0) (a := (171, [some (.ref a0), some (.int v1), none, none], [], H149)) (b := (155, [some (.ref a0), some (.int v1), none, none], [], H149)) 1 rfl (fun c152 => ?_) (fun c152 => ?_)
          · replace h := qv_pos c152 h
            refine qv_run 1 (σ := (172, [some (.ref a0), some (.int v1), none, none], [.int 0], H149)) rfl ?_
            obtain ⟨rfl, rfl⟩ := qv_pair h
            exact qv_retz rfl (Or.inl rfl) hR
          · replace h := qv_neg c152 h
            refine qv_run 1 (σ := (156, [some (.ref a0), some (.int v1), none, none], [.ref a0], H149)) rfl ?_
            obtain ⟨g156, h⟩ := qv_guard h
            obtain ⟨v156, H156, e156, h⟩ := qv_bind2 h
            refine qv_callV [] rfl rfl rfl (Nat.le_of_ble_eq_true rfl) g156 (xE_le (by omega) (th_X11_whole rc hB hrc hrl hrz e156)) (tl_X11_whole rc hrl e156) ?_
            refine qv_br (c := v156 = 0) (a := (171, [some (.ref a0), some (.int v1), none, none], [], H156)) (b := (162, [some (.ref a0), some (.int v1), none, none], [], H156)) 1 rfl (fun c159 => ?_) (fun c159 => ?_)
            · replace h := qv_pos c159 h
              refine qv_run 1 (σ := (172, [some (.ref a0), some (.int v1), none, none], [.int 0], H156)) rfl ?_
              obtain ⟨rfl, rfl⟩ := qv_pair h
              exact qv_retz rfl (Or.inl rfl) hR
            · replace h := qv_neg c159 h
              refine qv_run 1 (σ := (163, [some (.ref a0), some (.int v1), none, none], [.ref a0], H156)) rfl ?_
              obtain ⟨g163, h⟩ := qv_guard h
              obtain ⟨v163, e163, h⟩ := qv_bind h
              refine qv_callV [] rfl rfl rfl (Nat.le_of_ble_eq_true rfl) g163 (th_X11_look (by omega) e163) rfl ?_
              refine qv_br (c := v163 = 41) (a := (173, [some (.ref a0), some (.int v1), none, none], [], H156)) (b := (171, [some (.ref a0), some (.int v1), none, none], [], H156)) 2 rfl (fun c168 => ?_) (fun c168 => ?_)
              · replace h := qv_pos c168 h
                refine qv_run 2 (σ := (175, [some (.ref a0), some (.int v1), none, none], [.ref a0, .ref a0], H156)) rfl ?_
                obtain ⟨v175, e175, h⟩ := qv_bind h
                refine qv_getI rfl e175 ?_
                refine qv_run 2 (σ := (180, [some (.ref a0), some (.int v1), none, none], [.int (v175 + 1), .ref a0], H156)) rfl ?_
                obtain ⟨H180, e180, h⟩ := qv_bind h
                refine qv_putI rfl e180 ?_
                refine qv_run 2 (σ := (185, [some (.ref a0), some (.int v1), none, none], [.ref a0, .ref a0], H180)) rfl ?_
                obtain ⟨v185, e185, h⟩ := qv_bind h
                refine qv_getI rfl e185 ?_
                refine qv_run 2 (σ := (190, [some (.ref a0), some (.int v1), none, none], [.int (v185 - 1), .ref a0], H180)) rfl ?_
                obtain ⟨H190, e190, h⟩ := qv_bind h
                refine qv_putI rfl e190 ?_
                refine qv_run 1 (σ := (194, [some (.ref a0), some (.int v1), none, none], [.int 1], H190)) rfl ?_
                obtain ⟨rfl, rfl⟩ := qv_pair h
                exact qv_retz rfl (Or.inr rfl) hR
              · replace h := qv_neg c168 h
                refine qv_run 1 (σ := (172, [some (.ref a0), some (.int v1), none, none], [.int 0], H156)) rfl ?_
                obtain ⟨rfl, rfl⟩ := qv_pair h
                exact qv_retz rfl (Or.inl rfl) hR
        · replace h := qv_neg c145 h
          refine qv_run 1 (σ := (172, [some (.ref a0), some (.int v1), none, none], [.int 0], H)) rfl ?_
          obtain ⟨rfl, rfl⟩ := qv_pair h
          exact qv_retz rfl (Or.inl rfl) hR
    · replace h := qv_neg c39 h
      refine qv_run 4 (σ := (46, [some (.ref a0), some (.int v1), some (.int 0), some (.int 0)], [], H)) rfl ?_
      exact tb_X11_one_46 rc hB hrc hrl hrz hd hR 5000 a0 0 0 (some (.int v1)) rfl H h
  · replace h := qv_neg c10 h
    refine qv_run 2 (σ := (15, [some (.ref a0), some (.int v1), none, none], [.ref a0, .ref a0], H)) rfl ?_
    obtain ⟨v15, e15, h⟩ := qv_bind h
    refine qv_getI rfl e15 ?_
    refine qv_run 2 (σ := (20, [some (.ref a0), some (.int v1), none, none], [.int (v15 + 1), .ref a0], H)) rfl ?_
    obtain ⟨H20, e20, h⟩ := qv_bind h
    refine qv_putI rfl e20 ?_
    refine qv_run 3 (σ := (26, [some (.ref a0), some (.int v1), none, none], [.int v1, .int 1, .ref a0], H20)) rfl ?_
    obtain ⟨g26, h⟩ := qv_guard h
    obtain ⟨H26, e26, h⟩ := qv_bind h
    refine qv_callV [.int 1, .int v1] rfl rfl rfl (Nat.le_of_ble_eq_true rfl) g26 (th_X11_step1 (by omega) e26) (tl_X11_step1 e26) ?_
    refine qv_run 1 (σ := (30, [some (.ref a0), some (.int v1), none, none], [.int 1], H26)) rfl ?_
    obtain ⟨rfl, rfl⟩ := qv_pair h
    exact qv_retz rfl (Or.inr rfl) hR
theorem tlb_X11_one_0 (rc : Nat → qx_H → Option (Int32 × qx_H)) (hrl : ∀ {b0 : Nat} {H1 H2 : qx_H} {r1 : Int32}, rc b0 H1 = some (r1, H2) → H2.length = H1.length) {r : Int32} {H' : qx_H} (a0 : Nat) (H : qx_H) (h : fm_X11_one_e rc a0 H = some (r, H')) : H'.length = H.length := by
  unfold fm_X11_one_e at h
  obtain ⟨g1, h⟩ := qv_guard h
  obtain ⟨v1, e1, h⟩ := qv_bind h
  obtain ⟨v7, e7, h⟩ := qv_bind h
  by_cases c10 : v7 = 0
  · replace h := qv_pos c10 h
    by_cases c39 : (fm_X11_in v1 48 57) = 0
    · replace h := qv_pos c39 h
      by_cases c105 : v1 = 33
      · replace h := qv_pos c105 h
        obtain ⟨v109, H109, e109, h⟩ := qv_bind2 h
        have q_H109 := tl_X11_opens e109
        by_cases c112 : v109 = 0
        · replace h := qv_pos c112 h
          obtain ⟨rfl, rfl⟩ := qv_pair h
          omega
        · replace h := qv_neg c112 h
          obtain ⟨g116, h⟩ := qv_guard h
          obtain ⟨v116, H116, e116, h⟩ := qv_bind2 h
          have q_H116 := hrl e116
          by_cases c119 : v116 = 0
          · replace h := qv_pos c119 h
            obtain ⟨rfl, rfl⟩ := qv_pair h
            omega
          · replace h := qv_neg c119 h
            obtain ⟨v126, e126, h⟩ := qv_bind h
            obtain ⟨H131, e131, h⟩ := qv_bind h
            have q_H131 := hp_put_len e131
            obtain ⟨g137, h⟩ := qv_guard h
            obtain ⟨H137, e137, h⟩ := qv_bind h
            have q_H137 := tl_X11_step1 e137
            obtain ⟨rfl, rfl⟩ := qv_pair h
            omega
      · replace h := qv_neg c105 h
        by_cases c145 : v1 = 40
        · replace h := qv_pos c145 h
          obtain ⟨v149, H149, e149, h⟩ := qv_bind2 h
          have q_H149 := tl_X11_opens e149
          by_cases c152 : v149 = 0
          · replace h := qv_pos c152 h
            obtain ⟨rfl, rfl⟩ := qv_pair h
            omega
          · replace h := qv_neg c152 h
            obtain ⟨g156, h⟩ := qv_guard h
            obtain ⟨v156, H156, e156, h⟩ := qv_bind2 h
            have q_H156 := tl_X11_whole rc hrl e156
            by_cases c159 : v156 = 0
            · replace h := qv_pos c159 h
              obtain ⟨rfl, rfl⟩ := qv_pair h
              omega
            · replace h := qv_neg c159 h
              obtain ⟨g163, h⟩ := qv_guard h
              obtain ⟨v163, e163, h⟩ := qv_bind h
              by_cases c168 : v163 = 41
              · replace h := qv_pos c168 h
                obtain ⟨v175, e175, h⟩ := qv_bind h
                obtain ⟨H180, e180, h⟩ := qv_bind h
                have q_H180 := hp_put_len e180
                obtain ⟨v185, e185, h⟩ := qv_bind h
                obtain ⟨H190, e190, h⟩ := qv_bind h
                have q_H190 := hp_put_len e190
                obtain ⟨rfl, rfl⟩ := qv_pair h
                omega
              · replace h := qv_neg c168 h
                obtain ⟨rfl, rfl⟩ := qv_pair h
                omega
        · replace h := qv_neg c145 h
          obtain ⟨rfl, rfl⟩ := qv_pair h
          rfl
    · replace h := qv_neg c39 h
      exact tlb_X11_one_46 rc hrl 5000 a0 0 0 H h
  · replace h := qv_neg c10 h
    obtain ⟨v15, e15, h⟩ := qv_bind h
    obtain ⟨H20, e20, h⟩ := qv_bind h
    have q_H20 := hp_put_len e20
    obtain ⟨g26, h⟩ := qv_guard h
    obtain ⟨H26, e26, h⟩ := qv_bind h
    have q_H26 := tl_X11_step1 e26
    obtain ⟨rfl, rfl⟩ := qv_pair h
    omega
theorem tzb_X11_one_0 (rc : Nat → qx_H → Option (Int32 × qx_H)) (hrz : ∀ {b0 : Nat} {H1 H2 : qx_H} {r1 : Int32}, rc b0 H1 = some (r1, H2) → r1 = 0 ∨ r1 = 1) {r : Int32} {H' : qx_H} (a0 : Nat) (H : qx_H) (h : fm_X11_one_e rc a0 H = some (r, H')) : r = 0 ∨ r = 1 := by
  unfold fm_X11_one_e at h
  obtain ⟨g1, h⟩ := qv_guard h
  obtain ⟨v1, e1, h⟩ := qv_bind h
  obtain ⟨v7, e7, h⟩ := qv_bind h
  by_cases c10 : v7 = 0
  · replace h := qv_pos c10 h
    by_cases c39 : (fm_X11_in v1 48 57) = 0
    · replace h := qv_pos c39 h
      by_cases c105 : v1 = 33
      · replace h := qv_pos c105 h
        obtain ⟨v109, H109, e109, h⟩ := qv_bind2 h
        by_cases c112 : v109 = 0
        · replace h := qv_pos c112 h
          obtain ⟨rfl, rfl⟩ := qv_pair h
          exact Or.inl rfl
        · replace h := qv_neg c112 h
          obtain ⟨g116, h⟩ := qv_guard h
          obtain ⟨v116, H116, e116, h⟩ := qv_bind2 h
          by_cases c119 : v116 = 0
          · replace h := qv_pos c119 h
            obtain ⟨rfl, rfl⟩ := qv_pair h
            exact Or.inl rfl
          · replace h := qv_neg c119 h
            obtain ⟨v126, e126, h⟩ := qv_bind h
            obtain ⟨H131, e131, h⟩ := qv_bind h
            obtain ⟨g137, h⟩ := qv_guard h
            obtain ⟨H137, e137, h⟩ := qv_bind h
            obtain ⟨rfl, rfl⟩ := qv_pair h
            exact Or.inr rfl
      · replace h := qv_neg c105 h
        by_cases c145 : v1 = 40
        · replace h := qv_pos c145 h
          obtain ⟨v149, H149, e149, h⟩ := qv_bind2 h
          by_cases c152 : v149 = 0
          · replace h := qv_pos c152 h
            obtain ⟨rfl, rfl⟩ := qv_pair h
            exact Or.inl rfl
          · replace h := qv_neg c152 h
            obtain ⟨g156, h⟩ := qv_guard h
            obtain ⟨v156, H156, e156, h⟩ := qv_bind2 h
            by_cases c159 : v156 = 0
            · replace h := qv_pos c159 h
              obtain ⟨rfl, rfl⟩ := qv_pair h
              exact Or.inl rfl
            · replace h := qv_neg c159 h
              obtain ⟨g163, h⟩ := qv_guard h
              obtain ⟨v163, e163, h⟩ := qv_bind h
              by_cases c168 : v163 = 41
              · replace h := qv_pos c168 h
                obtain ⟨v175, e175, h⟩ := qv_bind h
                obtain ⟨H180, e180, h⟩ := qv_bind h
                obtain ⟨v185, e185, h⟩ := qv_bind h
                obtain ⟨H190, e190, h⟩ := qv_bind h
                obtain ⟨rfl, rfl⟩ := qv_pair h
                exact Or.inr rfl
              · replace h := qv_neg c168 h
                obtain ⟨rfl, rfl⟩ := qv_pair h
                exact Or.inl rfl
        · replace h := qv_neg c145 h
          obtain ⟨rfl, rfl⟩ := qv_pair h
          exact Or.inl rfl
    · replace h := qv_neg c39 h
      exact tzb_X11_one_46 rc hrz 5000 a0 0 0 H h
  · replace h := qv_neg c10 h
    obtain ⟨v15, e15, h⟩ := qv_bind h
    obtain ⟨H20, e20, h⟩ := qv_bind h
    obtain ⟨g26, h⟩ := qv_guard h
    obtain ⟨H26, e26, h⟩ := qv_bind h
    obtain ⟨rfl, rfl⟩ := qv_pair h
    exact Or.inr rfl
theorem tln_X11_one : ∀ (n : Nat) {a0 : Nat} {H : qx_H} {r : Int32} {H' : qx_H}, fm_X11_one n a0 H = some (r, H') → H'.length = H.length := by
  intro n
  induction n with
  | zero => intro a0 H r H' h; exact nomatch (show (none : Option (Int32 × qx_H)) = some (r, H') from h)
  | succ n ih =>
    intro a0 H r H' h
    exact tlb_X11_one_0 (fm_X11_one n) (fun h => ih h) a0 H h
theorem tl_X11_one {a0 : Nat} {H : qx_H} {r : Int32} {H' : qx_H} (h : fm_X11_one 8 a0 H = some (r, H')) : H'.length = H.length := tln_X11_one _ h
theorem tzn_X11_one : ∀ (n : Nat) {a0 : Nat} {H : qx_H} {r : Int32} {H' : qx_H}, fm_X11_one n a0 H = some (r, H') → (r = 0 ∨ r = 1) := by
  intro n
  induction n with
  | zero => intro a0 H r H' h; exact nomatch (show (none : Option (Int32 × qx_H)) = some (r, H') from h)
  | succ n ih =>
    intro a0 H r H' h
    exact tzb_X11_one_0 (fm_X11_one n) (fun h => ih h) a0 H h
theorem tz_X11_one {a0 : Nat} {H : qx_H} {r : Int32} {H' : qx_H} (h : fm_X11_one 8 a0 H = some (r, H')) : r = 0 ∨ r = 1 := tzn_X11_one _ h
theorem thn_X11_one {st : xT} : ∀ (n : Nat) {a0 : Nat} {H : qx_H} {r : Int32} {H' : qx_H}, fm_X11_one n a0 H = some (r, H') → xE st (1 + 6 * n) 154 [.ref a0] H (some (.int r)) H' := by
  intro n
  induction n with
  | zero => intro a0 H r H' h; exact nomatch (show (none : Option (Int32 × qx_H)) = some (r, H') from h)
  | succ n ih =>
    intro a0 H r H' h
    have hx : xE st (1 + 6 * n + 6) 154 [.ref a0] H (some (.int r)) H' := by
      exact xE_of (xe154 st) xl154 (Nat.le_of_ble_eq_true rfl) (ls := [some (.ref a0), none, none, none]) rfl (tb_X11_one_0 (e := 1 + 6 * n) (fm_X11_one n) (by omega) (fun h => ih h) (fun h => tln_X11_one n h) (fun h => tzn_X11_one n h) (Nat.le_refl _) ⟨rfl, rfl⟩ a0 H h)
    exact xE_le (by omega) hx
theorem th_X11_one {st : xT} {d : Nat} (hd : 49 ≤ d) {a0 : Nat} {H : qx_H} {r : Int32} {H' : qx_H} (h : fm_X11_one 8 a0 H = some (r, H')) : xE st d 154 [.ref a0] H (some (.int r)) H' := xE_le (by omega) (thn_X11_one 8 h)
theorem th_X11_whole_x {st : xT} {d : Nat} (hd : 54 ≤ d) {a0 : Nat} {H : qx_H} {r : Int32} {H' : qx_H} (h : fm_X11_whole (fm_X11_one 8) a0 H = some (r, H')) : xE st d 148 [.ref a0] H (some (.int r)) H' := xE_le (by omega) (th_X11_whole _ (e := 1 + 6 * 8) (by omega) (fun h => thn_X11_one 8 h) (fun h => tln_X11_one 8 h) (fun h => tzn_X11_one 8 h) h)
theorem tl_X11_whole_x {a0 : Nat} {H : qx_H} {r : Int32} {H' : qx_H} (h : fm_X11_whole (fm_X11_one 8) a0 H = some (r, H')) : H'.length = H.length := tl_X11_whole _ (fun h => tln_X11_one 8 h) h
theorem tz_X11_whole_x {a0 : Nat} {H : qx_H} {r : Int32} {H' : qx_H} (h : fm_X11_whole (fm_X11_one 8) a0 H = some (r, H')) : r = 0 ∨ r = 1 := tz_X11_whole _ (fun h => tzn_X11_one 8 h) h
theorem th_X11_both_x {st : xT} {d : Nat} (hd : 53 ≤ d) {a0 : Nat} {H : qx_H} {r : Int32} {H' : qx_H} (h : fm_X11_both (fm_X11_one 8) a0 H = some (r, H')) : xE st d 149 [.ref a0] H (some (.int r)) H' := xE_le (by omega) (th_X11_both _ (e := 1 + 6 * 8) (by omega) (fun h => thn_X11_one 8 h) (fun h => tln_X11_one 8 h) (fun h => tzn_X11_one 8 h) h)
theorem tl_X11_both_x {a0 : Nat} {H : qx_H} {r : Int32} {H' : qx_H} (h : fm_X11_both (fm_X11_one 8) a0 H = some (r, H')) : H'.length = H.length := tl_X11_both _ (fun h => tln_X11_one 8 h) h
theorem tz_X11_both_x {a0 : Nat} {H : qx_H} {r : Int32} {H' : qx_H} (h : fm_X11_both (fm_X11_one 8) a0 H = some (r, H')) : r = 0 ∨ r = 1 := tz_X11_both _ (fun h => tzn_X11_one 8 h) h
theorem th_X11_compared_x {st : xT} {d : Nat} (hd : 52 ≤ d) {a0 : Nat} {H : qx_H} {r : Int32} {H' : qx_H} (h : fm_X11_compared (fm_X11_one 8) a0 H = some (r, H')) : xE st d 150 [.ref a0] H (some (.int r)) H' := xE_le (by omega) (th_X11_compared _ (e := 1 + 6 * 8) (by omega) (fun h => thn_X11_one 8 h) (fun h => tln_X11_one 8 h) (fun h => tzn_X11_one 8 h) h)
theorem tl_X11_compared_x {a0 : Nat} {H : qx_H} {r : Int32} {H' : qx_H} (h : fm_X11_compared (fm_X11_one 8) a0 H = some (r, H')) : H'.length = H.length := tl_X11_compared _ (fun h => tln_X11_one 8 h) h
theorem tz_X11_compared_x {a0 : Nat} {H : qx_H} {r : Int32} {H' : qx_H} (h : fm_X11_compared (fm_X11_one 8) a0 H = some (r, H')) : r = 0 ∨ r = 1 := tz_X11_compared _ (fun h => tzn_X11_one 8 h) h
theorem th_X11_sum_x {st : xT} {d : Nat} (hd : 51 ≤ d) {a0 : Nat} {H : qx_H} {r : Int32} {H' : qx_H} (h : fm_X11_sum (fm_X11_one 8) a0 H = some (r, H')) : xE st d 151 [.ref a0] H (some (.int r)) H' := xE_le (by omega) (th_X11_sum _ (e := 1 + 6 * 8) (by omega) (fun h => thn_X11_one 8 h) (fun h => tln_X11_one 8 h) (fun h => tzn_X11_one 8 h) h)
theorem tl_X11_sum_x {a0 : Nat} {H : qx_H} {r : Int32} {H' : qx_H} (h : fm_X11_sum (fm_X11_one 8) a0 H = some (r, H')) : H'.length = H.length := tl_X11_sum _ (fun h => tln_X11_one 8 h) h
theorem tz_X11_sum_x {a0 : Nat} {H : qx_H} {r : Int32} {H' : qx_H} (h : fm_X11_sum (fm_X11_one 8) a0 H = some (r, H')) : r = 0 ∨ r = 1 := tz_X11_sum _ (fun h => tzn_X11_one 8 h) h
theorem th_X11_product_x {st : xT} {d : Nat} (hd : 50 ≤ d) {a0 : Nat} {H : qx_H} {r : Int32} {H' : qx_H} (h : fm_X11_product (fm_X11_one 8) a0 H = some (r, H')) : xE st d 152 [.ref a0] H (some (.int r)) H' := xE_le (by omega) (th_X11_product _ (e := 1 + 6 * 8) (by omega) (fun h => thn_X11_one 8 h) (fun h => tln_X11_one 8 h) (fun h => tzn_X11_one 8 h) h)
theorem tl_X11_product_x {a0 : Nat} {H : qx_H} {r : Int32} {H' : qx_H} (h : fm_X11_product (fm_X11_one 8) a0 H = some (r, H')) : H'.length = H.length := tl_X11_product _ (fun h => tln_X11_one 8 h) h
theorem tz_X11_product_x {a0 : Nat} {H : qx_H} {r : Int32} {H' : qx_H} (h : fm_X11_product (fm_X11_one 8) a0 H = some (r, H')) : r = 0 ∨ r = 1 := tz_X11_product _ (fun h => tzn_X11_one 8 h) h
def fm_X11_hasText (a0 : Nat) (a1 : Int32) (H : qx_H) : Option Int32 := (hp_gR H a0 9 0).bind fun v1 => (hp_ald H v1 (181 + (125 * a1))).bind fun v12 => if v12 ≤ 0 then (some 0) else (some 1)
theorem tb_X11_hasText_0 {st : xT} {d : Nat} {R : Option Value → qx_H → Prop} (hd : 0 ≤ d) {r : Int32} {H : qx_H} (hR : R (some (.int r)) H) (a0 : Nat) (a1 : Int32) (h : fm_X11_hasText a0 a1 H = some r) : qx_V (xE st d) R (xc155 st) (0, [some (.ref a0), some (.int a1)], [], H) := by
  unfold fm_X11_hasText at h
  refine qv_run 1 (σ := (1, [some (.ref a0), some (.int a1)], [.ref a0], H)) rfl ?_
  obtain ⟨v1, e1, h⟩ := qv_bind h
  refine qv_getR rfl e1 ?_
  refine qv_run 5 (σ := (12, [some (.ref a0), some (.int a1)], [.int (181 + (125 * a1)), .ref v1], H)) rfl ?_
  obtain ⟨v12, e12, h⟩ := qv_bind h
  refine qv_ald rfl e12 ?_
  refine qv_br (c := v12 ≤ 0) (a := (20, [some (.ref a0), some (.int a1)], [], H)) (b := (16, [some (.ref a0), some (.int a1)], [], H)) 1 rfl (fun c13 => ?_) (fun c13 => ?_)
  · replace h := qv_pos c13 h
    refine qv_run 1 (σ := (21, [some (.ref a0), some (.int a1)], [.int 0], H)) rfl ?_
    cases h
    exact qv_retz rfl (Or.inl rfl) hR
  · replace h := qv_neg c13 h
    refine qv_run 2 (σ := (21, [some (.ref a0), some (.int a1)], [.int 1], H)) rfl ?_
    cases h
    exact qv_retz rfl (Or.inr rfl) hR
theorem tzb_X11_hasText_0 {r : Int32} {H : qx_H} (a0 : Nat) (a1 : Int32) (h : fm_X11_hasText a0 a1 H = some r) : r = 0 ∨ r = 1 := by
  unfold fm_X11_hasText at h
  obtain ⟨v1, e1, h⟩ := qv_bind h
  obtain ⟨v12, e12, h⟩ := qv_bind h
  by_cases c13 : v12 ≤ 0
  · replace h := qv_pos c13 h
    cases h
    exact Or.inl rfl
  · replace h := qv_neg c13 h
    cases h
    exact Or.inr rfl
theorem th_X11_hasText {st : xT} {d : Nat} (hd : 1 ≤ d) {a0 : Nat} {a1 : Int32} {r : Int32} {H : qx_H} (h : fm_X11_hasText a0 a1 H = some r) : xE st d 155 [.ref a0, .int a1] H (some (.int r)) H := by
  obtain ⟨d, rfl⟩ : ∃ d', d = d' + 1 := ⟨d - 1, by omega⟩
  exact xE_of (xe155 st) xl155 (Nat.le_of_ble_eq_true rfl) (ls := [some (.ref a0), some (.int a1)]) rfl (tb_X11_hasText_0 (by omega) ⟨rfl, rfl⟩ a0 a1 h)
theorem tz_X11_hasText {a0 : Nat} {a1 : Int32} {r : Int32} {H : qx_H} (h : fm_X11_hasText a0 a1 H = some r) : r = 0 ∨ r = 1 := tzb_X11_hasText_0 a0 a1 h
def fm_X11_text_b102 : Nat → Nat → Int32 → Int32 → qx_H → Option (Int32 × qx_H)
  | 0, _, _, _, _ => none
  | n + 1, l0, l3, l4, H => (hp_gI H l0 9 7).bind fun v106 => if (2 * v106) ≤ l4 then (some (1, H)) else ((hp_gR H l0 9 0).bind fun v114 => (hp_gR H l0 9 9).bind fun v124 => (hp_ald H v124 l4).bind fun v129 => (hp_ast H v114 ((l3 + 1) + l4) v129).bind fun H130 => fm_X11_text_b102 n l0 l3 (l4 + 1) H130)
def fm_X11_text_b60 (l0 : Nat) (l1 : Int32) (t0 : Int32) (H : qx_H) : Option (Int32 × qx_H) := (hp_gR H l0 9 0).bind fun v62 => (hp_ast H v62 2 0).bind fun H67 => if t0 = 0 then ((hp_gI H67 l0 9 5).bind fun v75 => some ((-10) - v75, H67)) else ((hp_gR H67 l0 9 0).bind fun v90 => (hp_gI H67 l0 9 7).bind fun v95 => (hp_ast H67 v90 (181 + (125 * l1)) v95).bind fun H98 => fm_X11_text_b102 5000 l0 (181 + (125 * l1)) 0 H98)
def fm_X11_text_b59 (l0 : Nat) (l1 : Int32) (H : qx_H) : Option (Int32 × qx_H) := fm_X11_text_b60 l0 l1 0 H
def fm_X11_text (a0 : Nat) (a1 : Int32) (H : qx_H) : Option (Int32 × qx_H) := if (fm_X11_in a1 0 1) = 0 then (if hp_is H a0 9 = true then (ob2 (fm_X11_error a0 1 H) fun v11 H11 => some (v11, H11)) else none) else ((hp_put H a0 9 8 (.int a1)).bind fun H17 => (hp_put H17 a0 9 5 (.int 0)).bind fun H22 => (hp_put H22 a0 9 6 (.int 0)).bind fun H27 => (hp_put H27 a0 9 7 (.int 0)).bind fun H32 => if hp_is H32 a0 9 = true then (ob2 (fm_X11_whole (fm_X11_one 8) a0 H32) fun v36 H36 => if v36 = 0 then (fm_X11_text_b59 a0 a1 H36) else ((hp_gI H36 a0 9 5).bind fun v43 => (hp_gR H36 a0 9 0).bind fun v47 => (hp_ald H36 v47 2).bind fun v51 => (hp_gR H36 a0 9 0).bind fun v62 => (hp_ast H36 v62 2 0).bind fun H67 => if ((if v43 = v51 then 1 else 0) : Int32) = 0 then ((hp_gI H67 a0 9 5).bind fun v75 => some ((-10) - v75, H67)) else ((hp_gR H67 a0 9 0).bind fun v90 => (hp_gI H67 a0 9 7).bind fun v95 => (hp_ast H67 v90 (181 + (125 * a1)) v95).bind fun H98 => fm_X11_text_b102 5000 a0 (181 + (125 * a1)) 0 H98))) else none)
theorem tb_X11_text_102 {st : xT} {d : Nat} {R : Option Value → qx_H → Prop} (hd : 54 ≤ d) {r : Int32} {H' : qx_H} (hR : R (some (.int r)) H') : ∀ (n : Nat) (l0 : Nat) (l3 : Int32) (l4 : Int32) (z1 : Option Value) (hz1 : qx_ns z1 = true) (z2 : Option Value) (hz2 : qx_ns z2 = true) (H : qx_H) (h : fm_X11_text_b102 n l0 l3 l4 H = some (r, H')), qx_V (xE st d) R (xc156 st) (102, [some (.ref l0), z1, z2, some (.int l3), some (.int l4)], [], H) := by
  intro n
  induction n with
  | zero => intro l0 l3 l4 z1 hz1 z2 hz2 H h; exact nomatch (show (none : Option (Int32 × qx_H)) = some (r, H') from h)
  | succ n ih =>
    intro l0 l3 l4 z1 hz1 z2 hz2 H h
    unfold fm_X11_text_b102 at h
    refine qv_run 3 (σ := (106, [some (.ref l0), z1, z2, some (.int l3), some (.int l4)], [.ref l0, .int 2, .int l4], H)) rfl ?_
    obtain ⟨v106, e106, h⟩ := qv_bind h
    refine qv_getI rfl e106 ?_
    refine qv_br (c := (2 * v106) ≤ l4) (a := (137, [some (.ref l0), z1, z2, some (.int l3), some (.int l4)], [], H)) (b := (113, [some (.ref l0), z1, z2, some (.int l3), some (.int l4)], [], H)) 2 rfl (fun c110 => ?_) (fun c110 => ?_)
    · replace h := qv_pos c110 h
      refine qv_run 1 (σ := (138, [some (.ref l0), z1, z2, some (.int l3), some (.int l4)], [.int 1], H)) rfl ?_
      obtain ⟨rfl, rfl⟩ := qv_pair h
      exact qv_reti rfl hR
    · replace h := qv_neg c110 h
      refine qv_run 1 (σ := (114, [some (.ref l0), z1, z2, some (.int l3), some (.int l4)], [.ref l0], H)) rfl ?_
      obtain ⟨v114, e114, h⟩ := qv_bind h
      refine qv_getR rfl e114 ?_
      refine qv_run 6 (σ := (124, [some (.ref l0), z1, z2, some (.int l3), some (.int l4)], [.ref l0, .int ((l3 + 1) + l4), .ref v114], H)) rfl ?_
      obtain ⟨v124, e124, h⟩ := qv_bind h
      refine qv_getR rfl e124 ?_
      refine qv_run 1 (σ := (129, [some (.ref l0), z1, z2, some (.int l3), some (.int l4)], [.int l4, .ref v124, .int ((l3 + 1) + l4), .ref v114], H)) rfl ?_
      obtain ⟨v129, e129, h⟩ := qv_bind h
      refine qv_ald rfl e129 ?_
      obtain ⟨H130, e130, h⟩ := qv_bind h
      refine qv_ast rfl e130 ?_
      refine qv_run 2 (σ := (102, [some (.ref l0), z1, z2, some (.int l3), some (.int (l4 + 1))], [], H130)) rfl ?_
      exact ih l0 l3 (l4 + 1) z1 hz1 z2 hz2 H130 h
theorem tlb_X11_text_102 {r : Int32} {H' : qx_H} : ∀ (n : Nat) (l0 : Nat) (l3 : Int32) (l4 : Int32) (H : qx_H) (h : fm_X11_text_b102 n l0 l3 l4 H = some (r, H')), H'.length = H.length := by
  intro n
  induction n with
  | zero => intro l0 l3 l4 H h; exact nomatch (show (none : Option (Int32 × qx_H)) = some (r, H') from h)
  | succ n ih =>
    intro l0 l3 l4 H h
    unfold fm_X11_text_b102 at h
    obtain ⟨v106, e106, h⟩ := qv_bind h
    by_cases c110 : (2 * v106) ≤ l4
    · replace h := qv_pos c110 h
      obtain ⟨rfl, rfl⟩ := qv_pair h
      rfl
    · replace h := qv_neg c110 h
      obtain ⟨v114, e114, h⟩ := qv_bind h
      obtain ⟨v124, e124, h⟩ := qv_bind h
      obtain ⟨v129, e129, h⟩ := qv_bind h
      obtain ⟨H130, e130, h⟩ := qv_bind h
      have q_H130 := hp_ast_len e130
      have q_end := ih l0 l3 (l4 + 1) H130 h
      omega
theorem tb_X11_text_60 {st : xT} {d : Nat} {R : Option Value → qx_H → Prop} (hd : 54 ≤ d) {r : Int32} {H' : qx_H} (hR : R (some (.int r)) H') (l0 : Nat) (l1 : Int32) (t0 : Int32) (H : qx_H) (h : fm_X11_text_b60 l0 l1 t0 H = some (r, H')) : qx_V (xE st d) R (xc156 st) (60, [some (.ref l0), some (.int l1), none, none, none], [.int t0], H) := by
  unfold fm_X11_text_b60 at h
  refine qv_run 2 (σ := (62, [some (.ref l0), some (.int l1), some (.int t0), none, none], [.ref l0], H)) rfl ?_
  obtain ⟨v62, e62, h⟩ := qv_bind h
  refine qv_getR rfl e62 ?_
  refine qv_run 2 (σ := (67, [some (.ref l0), some (.int l1), some (.int t0), none, none], [.int 0, .int 2, .ref v62], H)) rfl ?_
  obtain ⟨H67, e67, h⟩ := qv_bind h
  refine qv_ast rfl e67 ?_
  refine qv_br (c := t0 = 0) (a := (72, [some (.ref l0), some (.int l1), some (.int t0), none, none], [], H67)) (b := (80, [some (.ref l0), some (.int l1), some (.int t0), none, none], [], H67)) 2 rfl (fun c69 => ?_) (fun c69 => ?_)
  · replace h := qv_pos c69 h
    refine qv_run 2 (σ := (75, [some (.ref l0), some (.int l1), some (.int t0), none, none], [.ref l0, .int (-10)], H67)) rfl ?_
    obtain ⟨v75, e75, h⟩ := qv_bind h
    refine qv_getI rfl e75 ?_
    refine qv_run 1 (σ := (79, [some (.ref l0), some (.int l1), some (.int t0), none, none], [.int ((-10) - v75)], H67)) rfl ?_
    obtain ⟨rfl, rfl⟩ := qv_pair h
    exact qv_reti rfl hR
  · replace h := qv_neg c69 h
    refine qv_run 7 (σ := (90, [some (.ref l0), some (.int l1), some (.int t0), some (.int (181 + (125 * l1))), none], [.ref l0], H67)) rfl ?_
    obtain ⟨v90, e90, h⟩ := qv_bind h
    refine qv_getR rfl e90 ?_
    refine qv_run 2 (σ := (95, [some (.ref l0), some (.int l1), some (.int t0), some (.int (181 + (125 * l1))), none], [.ref l0, .int (181 + (125 * l1)), .ref v90], H67)) rfl ?_
    obtain ⟨v95, e95, h⟩ := qv_bind h
    refine qv_getI rfl e95 ?_
    obtain ⟨H98, e98, h⟩ := qv_bind h
    refine qv_ast rfl e98 ?_
    refine qv_run 2 (σ := (102, [some (.ref l0), some (.int l1), some (.int t0), some (.int (181 + (125 * l1))), some (.int 0)], [], H98)) rfl ?_
    exact tb_X11_text_102 hd hR 5000 l0 (181 + (125 * l1)) 0 (some (.int l1)) rfl (some (.int t0)) rfl H98 h
theorem tlb_X11_text_60 {r : Int32} {H' : qx_H} (l0 : Nat) (l1 : Int32) (t0 : Int32) (H : qx_H) (h : fm_X11_text_b60 l0 l1 t0 H = some (r, H')) : H'.length = H.length := by
  unfold fm_X11_text_b60 at h
  obtain ⟨v62, e62, h⟩ := qv_bind h
  obtain ⟨H67, e67, h⟩ := qv_bind h
  have q_H67 := hp_ast_len e67
  by_cases c69 : t0 = 0
  · replace h := qv_pos c69 h
    obtain ⟨v75, e75, h⟩ := qv_bind h
    obtain ⟨rfl, rfl⟩ := qv_pair h
    omega
  · replace h := qv_neg c69 h
    obtain ⟨v90, e90, h⟩ := qv_bind h
    obtain ⟨v95, e95, h⟩ := qv_bind h
    obtain ⟨H98, e98, h⟩ := qv_bind h
    have q_H98 := hp_ast_len e98
    have q_end := tlb_X11_text_102 5000 l0 (181 + (125 * l1)) 0 H98 h
    omega
theorem tb_X11_text_59 {st : xT} {d : Nat} {R : Option Value → qx_H → Prop} (hd : 54 ≤ d) {r : Int32} {H' : qx_H} (hR : R (some (.int r)) H') (l0 : Nat) (l1 : Int32) (H : qx_H) (h : fm_X11_text_b59 l0 l1 H = some (r, H')) : qx_V (xE st d) R (xc156 st) (59, [some (.ref l0), some (.int l1), none, none, none], [], H) := by
  unfold fm_X11_text_b59 at h
  refine qv_run 1 (σ := (60, [some (.ref l0), some (.int l1), none, none, none], [.int 0], H)) rfl ?_
  exact tb_X11_text_60 hd hR l0 l1 0 H h
theorem tlb_X11_text_59 {r : Int32} {H' : qx_H} (l0 : Nat) (l1 : Int32) (H : qx_H) (h : fm_X11_text_b59 l0 l1 H = some (r, H')) : H'.length = H.length := by
  unfold fm_X11_text_b59 at h
  exact tlb_X11_text_60 l0 l1 0 H h
theorem tb_X11_text_0 {st : xT} {d : Nat} {R : Option Value → qx_H → Prop} (hd : 54 ≤ d) {r : Int32} {H' : qx_H} (hR : R (some (.int r)) H') (a0 : Nat) (a1 : Int32) (H : qx_H) (h : fm_X11_text a0 a1 H = some (r, H')) : qx_V (xE st d) R (xc156 st) (0, [some (.ref a0), some (.int a1), none, none, none], [], H) := by
  unfold fm_X11_text at h
  refine qv_run 3 (σ := (3, [some (.ref a0), some (.int a1), none, none, none], [.int 1, .int 0, .int a1], H)) rfl ?_
  refine qv_call [.int a1, .int 0, .int 1] rfl rfl rfl (Nat.le_of_ble_eq_true rfl) (th_X11_in (by omega) rfl) rfl ?_
  refine qv_br (c := (fm_X11_in a1 0 1) = 0) (a := (9, [some (.ref a0), some (.int a1), none, none, none], [], H)) (b := (15, [some (.ref a0), some (.int a1), none, none, none], [], H)) 1 rfl (fun c6 => ?_) (fun c6 => ?_)
  · replace h := qv_pos c6 h
    refine qv_run 2 (σ := (11, [some (.ref a0), some (.int a1), none, none, none], [.int 1, .ref a0], H)) rfl ?_
    obtain ⟨g11, h⟩ := qv_guard h
    obtain ⟨v11, H11, e11, h⟩ := qv_bind2 h
    refine qv_callV [.int 1] rfl rfl rfl (Nat.le_of_ble_eq_true rfl) g11 (th_X11_error (by omega) e11) (tl_X11_error e11) ?_
    obtain ⟨rfl, rfl⟩ := qv_pair h
    exact qv_reti rfl hR
  · replace h := qv_neg c6 h
    refine qv_run 2 (σ := (17, [some (.ref a0), some (.int a1), none, none, none], [.int a1, .ref a0], H)) rfl ?_
    obtain ⟨H17, e17, h⟩ := qv_bind h
    refine qv_putI rfl e17 ?_
    refine qv_run 2 (σ := (22, [some (.ref a0), some (.int a1), none, none, none], [.int 0, .ref a0], H17)) rfl ?_
    obtain ⟨H22, e22, h⟩ := qv_bind h
    refine qv_putI rfl e22 ?_
    refine qv_run 2 (σ := (27, [some (.ref a0), some (.int a1), none, none, none], [.int 0, .ref a0], H22)) rfl ?_
    obtain ⟨H27, e27, h⟩ := qv_bind h
    refine qv_putI rfl e27 ?_
    refine qv_run 2 (σ := (32, [some (.ref a0), some (.int a1), none, none, none], [.int 0, .ref a0], H27)) rfl ?_
    obtain ⟨H32, e32, h⟩ := qv_bind h
    refine qv_putI rfl e32 ?_
    refine qv_run 1 (σ := (36, [some (.ref a0), some (.int a1), none, none, none], [.ref a0], H32)) rfl ?_
    obtain ⟨g36, h⟩ := qv_guard h
    obtain ⟨v36, H36, e36, h⟩ := qv_bind2 h
    refine qv_callV [] rfl rfl rfl (Nat.le_of_ble_eq_true rfl) g36 (th_X11_whole_x (by omega) e36) (tl_X11_whole_x e36) ?_
    refine qv_br (c := v36 = 0) (a := (59, [some (.ref a0), some (.int a1), none, none, none], [], H36)) (b := (42, [some (.ref a0), some (.int a1), none, none, none], [], H36)) 1 rfl (fun c39 => ?_) (fun c39 => ?_)
    · replace h := qv_pos c39 h
      exact tb_X11_text_59 hd hR a0 a1 H36 h
    · replace h := qv_neg c39 h
      refine qv_run 1 (σ := (43, [some (.ref a0), some (.int a1), none, none, none], [.ref a0], H36)) rfl ?_
      obtain ⟨v43, e43, h⟩ := qv_bind h
      refine qv_getI rfl e43 ?_
      refine qv_run 1 (σ := (47, [some (.ref a0), some (.int a1), none, none, none], [.ref a0, .int v43], H36)) rfl ?_
      obtain ⟨v47, e47, h⟩ := qv_bind h
      refine qv_getR rfl e47 ?_
      refine qv_run 1 (σ := (51, [some (.ref a0), some (.int a1), none, none, none], [.int 2, .ref v47, .int v43], H36)) rfl ?_
      obtain ⟨v51, e51, h⟩ := qv_bind h
      refine qv_ald rfl e51 ?_
      refine qv_dia (c := v43 = v51) (a := (55, [some (.ref a0), some (.int a1), none, none, none], [], H36)) (b := (59, [some (.ref a0), some (.int a1), none, none, none], [], H36)) (σ' := (60, [some (.ref a0), some (.int a1), none, none, none], [.int (if v43 = v51 then 1 else 0)], H36)) 1 rfl ?_ (fun c52 kk => qv_run 2 (σ := (60, [some (.ref a0), some (.int a1), none, none, none], [.int 1], H36)) rfl (qv_eq (by simp only [if_pos c52]) kk)) (fun c52 kk => qv_run 1 (σ := (60, [some (.ref a0), some (.int a1), none, none, none], [.int 0], H36)) rfl (qv_eq (by simp only [if_neg c52]) kk))
      refine qv_run 2 (σ := (62, [some (.ref a0), some (.int a1), some (.int (if v43 = v51 then 1 else 0)), none, none], [.ref a0], H36)) rfl ?_
      obtain ⟨v62, e62, h⟩ := qv_bind h
      refine qv_getR rfl e62 ?_
      refine qv_run 2 (σ := (67, [some (.ref a0), some (.int a1), some (.int (if v43 = v51 then 1 else 0)), none, none], [.int 0, .int 2, .ref v62], H36)) rfl ?_
      obtain ⟨H67, e67, h⟩ := qv_bind h
      refine qv_ast rfl e67 ?_
      refine qv_br (c := ((if v43 = v51 then 1 else 0) : Int32) = 0) (a := (72, [some (.ref a0), some (.int a1), some (.int (if v43 = v51 then 1 else 0)), none, none], [], H67)) (b := (80, [some (.ref a0), some (.int a1), some (.int (if v43 = v51 then 1 else 0)), none, none], [], H67)) 2 rfl (fun c69 => ?_) (fun c69 => ?_)
      · replace h := qv_pos c69 h
        refine qv_run 2 (σ := (75, [some (.ref a0), some (.int a1), some (.int (if v43 = v51 then 1 else 0)), none, none], [.ref a0, .int (-10)], H67)) rfl ?_
        obtain ⟨v75, e75, h⟩ := qv_bind h
        refine qv_getI rfl e75 ?_
        refine qv_run 1 (σ := (79, [some (.ref a0), some (.int a1), some (.int (if v43 = v51 then 1 else 0)), none, none], [.int ((-10) - v75)], H67)) rfl ?_
        obtain ⟨rfl, rfl⟩ := qv_pair h
        exact qv_reti rfl hR
      · replace h := qv_neg c69 h
        refine qv_run 7 (σ := (90, [some (.ref a0), some (.int a1), some (.int (if v43 = v51 then 1 else 0)), some (.int (181 + (125 * a1))), none], [.ref a0], H67)) rfl ?_
        obtain ⟨v90, e90, h⟩ := qv_bind h
        refine qv_getR rfl e90 ?_
        refine qv_run 2 (σ := (95, [some (.ref a0), some (.int a1), some (.int (if v43 = v51 then 1 else 0)), some (.int (181 + (125 * a1))), none], [.ref a0, .int (181 + (125 * a1)), .ref v90], H67)) rfl ?_
        obtain ⟨v95, e95, h⟩ := qv_bind h
        refine qv_getI rfl e95 ?_
        obtain ⟨H98, e98, h⟩ := qv_bind h
        refine qv_ast rfl e98 ?_
        refine qv_run 2 (σ := (102, [some (.ref a0), some (.int a1), some (.int (if v43 = v51 then 1 else 0)), some (.int (181 + (125 * a1))), some (.int 0)], [], H98)) rfl ?_
        exact tb_X11_text_102 hd hR 5000 a0 (181 + (125 * a1)) 0 (some (.int a1)) rfl (some (.int (if v43 = v51 then 1 else 0))) rfl H98 h
theorem tlb_X11_text_0 {r : Int32} {H' : qx_H} (a0 : Nat) (a1 : Int32) (H : qx_H) (h : fm_X11_text a0 a1 H = some (r, H')) : H'.length = H.length := by
  unfold fm_X11_text at h
  by_cases c6 : (fm_X11_in a1 0 1) = 0
  · replace h := qv_pos c6 h
    obtain ⟨g11, h⟩ := qv_guard h
    obtain ⟨v11, H11, e11, h⟩ := qv_bind2 h
    have q_H11 := tl_X11_error e11
    obtain ⟨rfl, rfl⟩ := qv_pair h
    omega
  · replace h := qv_neg c6 h
    obtain ⟨H17, e17, h⟩ := qv_bind h
    have q_H17 := hp_put_len e17
    obtain ⟨H22, e22, h⟩ := qv_bind h
    have q_H22 := hp_put_len e22
    obtain ⟨H27, e27, h⟩ := qv_bind h
    have q_H27 := hp_put_len e27
    obtain ⟨H32, e32, h⟩ := qv_bind h
    have q_H32 := hp_put_len e32
    obtain ⟨g36, h⟩ := qv_guard h
    obtain ⟨v36, H36, e36, h⟩ := qv_bind2 h
    have q_H36 := tl_X11_whole_x e36
    by_cases c39 : v36 = 0
    · replace h := qv_pos c39 h
      have q_end := tlb_X11_text_59 a0 a1 H36 h
      omega
    · replace h := qv_neg c39 h
      obtain ⟨v43, e43, h⟩ := qv_bind h
      obtain ⟨v47, e47, h⟩ := qv_bind h
      obtain ⟨v51, e51, h⟩ := qv_bind h
      obtain ⟨v62, e62, h⟩ := qv_bind h
      obtain ⟨H67, e67, h⟩ := qv_bind h
      have q_H67 := hp_ast_len e67
      by_cases c69 : ((if v43 = v51 then 1 else 0) : Int32) = 0
      · replace h := qv_pos c69 h
        obtain ⟨v75, e75, h⟩ := qv_bind h
        obtain ⟨rfl, rfl⟩ := qv_pair h
        omega
      · replace h := qv_neg c69 h
        obtain ⟨v90, e90, h⟩ := qv_bind h
        obtain ⟨v95, e95, h⟩ := qv_bind h
        obtain ⟨H98, e98, h⟩ := qv_bind h
        have q_H98 := hp_ast_len e98
        have q_end := tlb_X11_text_102 5000 a0 (181 + (125 * a1)) 0 H98 h
        omega
theorem th_X11_text {st : xT} {d : Nat} (hd : 55 ≤ d) {a0 : Nat} {a1 : Int32} {H : qx_H} {r : Int32} {H' : qx_H} (h : fm_X11_text a0 a1 H = some (r, H')) : xE st d 156 [.ref a0, .int a1] H (some (.int r)) H' := by
  obtain ⟨d, rfl⟩ : ∃ d', d = d' + 1 := ⟨d - 1, by omega⟩
  exact xE_of (xe156 st) xl156 (Nat.le_of_ble_eq_true rfl) (ls := [some (.ref a0), some (.int a1), none, none, none]) rfl (tb_X11_text_0 (by omega) ⟨rfl, rfl⟩ a0 a1 H h)
theorem tl_X11_text {a0 : Nat} {a1 : Int32} {H : qx_H} {r : Int32} {H' : qx_H} (h : fm_X11_text a0 a1 H = some (r, H')) : H'.length = H.length := tlb_X11_text_0 a0 a1 H h
def fm_X11_untell (a0 : Nat) (a1 : Int32) (H : qx_H) : Option (Int32 × qx_H) := if (fm_X11_in a1 0 1) = 0 then (if hp_is H a0 9 = true then (ob2 (fm_X11_error a0 1 H) fun v11 H11 => some (v11, H11)) else none) else (if hp_is H a0 9 = true then ((fm_X11_hasText a0 a1 H).bind fun v17 => (hp_gR H a0 9 0).bind fun v30 => (hp_ast H v30 (181 + (125 * a1)) 0).bind fun H42 => some ((if v17 = 0 then 0 else 1), H42)) else none)
theorem tb_X11_untell_0 {st : xT} {d : Nat} {R : Option Value → qx_H → Prop} (hd : 1 ≤ d) {r : Int32} {H' : qx_H} (hR : R (some (.int r)) H') (a0 : Nat) (a1 : Int32) (H : qx_H) (h : fm_X11_untell a0 a1 H = some (r, H')) : qx_V (xE st d) R (xc157 st) (0, [some (.ref a0), some (.int a1), none], [], H) := by
  unfold fm_X11_untell at h
  refine qv_run 3 (σ := (3, [some (.ref a0), some (.int a1), none], [.int 1, .int 0, .int a1], H)) rfl ?_
  refine qv_call [.int a1, .int 0, .int 1] rfl rfl rfl (Nat.le_of_ble_eq_true rfl) (th_X11_in (by omega) rfl) rfl ?_
  refine qv_br (c := (fm_X11_in a1 0 1) = 0) (a := (9, [some (.ref a0), some (.int a1), none], [], H)) (b := (15, [some (.ref a0), some (.int a1), none], [], H)) 1 rfl (fun c6 => ?_) (fun c6 => ?_)
  · replace h := qv_pos c6 h
    refine qv_run 2 (σ := (11, [some (.ref a0), some (.int a1), none], [.int 1, .ref a0], H)) rfl ?_
    obtain ⟨g11, h⟩ := qv_guard h
    obtain ⟨v11, H11, e11, h⟩ := qv_bind2 h
    refine qv_callV [.int 1] rfl rfl rfl (Nat.le_of_ble_eq_true rfl) g11 (th_X11_error (by omega) e11) (tl_X11_error e11) ?_
    obtain ⟨rfl, rfl⟩ := qv_pair h
    exact qv_reti rfl hR
  · replace h := qv_neg c6 h
    refine qv_run 2 (σ := (17, [some (.ref a0), some (.int a1), none], [.int a1, .ref a0], H)) rfl ?_
    obtain ⟨g17, h⟩ := qv_guard h
    obtain ⟨v17, e17, h⟩ := qv_bind h
    refine qv_callV [.int a1] rfl rfl rfl (Nat.le_of_ble_eq_true rfl) g17 (th_X11_hasText (by omega) e17) rfl ?_
    refine qv_dia (c := v17 = 0) (a := (27, [some (.ref a0), some (.int a1), none], [], H)) (b := (23, [some (.ref a0), some (.int a1), none], [], H)) (σ' := (28, [some (.ref a0), some (.int a1), none], [.int (if v17 = 0 then 0 else 1)], H)) 1 rfl ?_ (fun c20 kk => qv_run 1 (σ := (28, [some (.ref a0), some (.int a1), none], [.int 0], H)) rfl (qv_eq (by simp only [if_pos c20]) kk)) (fun c20 kk => qv_run 2 (σ := (28, [some (.ref a0), some (.int a1), none], [.int 1], H)) rfl (qv_eq (by simp only [if_neg c20]) kk))
    refine qv_run 2 (σ := (30, [some (.ref a0), some (.int a1), some (.int (if v17 = 0 then 0 else 1))], [.ref a0], H)) rfl ?_
    obtain ⟨v30, e30, h⟩ := qv_bind h
    refine qv_getR rfl e30 ?_
    refine qv_run 6 (σ := (42, [some (.ref a0), some (.int a1), some (.int (if v17 = 0 then 0 else 1))], [.int 0, .int (181 + (125 * a1)), .ref v30], H)) rfl ?_
    obtain ⟨H42, e42, h⟩ := qv_bind h
    refine qv_ast rfl e42 ?_
    refine qv_run 1 (σ := (44, [some (.ref a0), some (.int a1), some (.int (if v17 = 0 then 0 else 1))], [.int (if v17 = 0 then 0 else 1)], H42)) rfl ?_
    obtain ⟨rfl, rfl⟩ := qv_pair h
    exact qv_reti rfl hR
theorem tlb_X11_untell_0 {r : Int32} {H' : qx_H} (a0 : Nat) (a1 : Int32) (H : qx_H) (h : fm_X11_untell a0 a1 H = some (r, H')) : H'.length = H.length := by
  unfold fm_X11_untell at h
  by_cases c6 : (fm_X11_in a1 0 1) = 0
  · replace h := qv_pos c6 h
    obtain ⟨g11, h⟩ := qv_guard h
    obtain ⟨v11, H11, e11, h⟩ := qv_bind2 h
    have q_H11 := tl_X11_error e11
    obtain ⟨rfl, rfl⟩ := qv_pair h
    omega
  · replace h := qv_neg c6 h
    obtain ⟨g17, h⟩ := qv_guard h
    obtain ⟨v17, e17, h⟩ := qv_bind h
    obtain ⟨v30, e30, h⟩ := qv_bind h
    obtain ⟨H42, e42, h⟩ := qv_bind h
    have q_H42 := hp_ast_len e42
    obtain ⟨rfl, rfl⟩ := qv_pair h
    omega
theorem th_X11_untell {st : xT} {d : Nat} (hd : 2 ≤ d) {a0 : Nat} {a1 : Int32} {H : qx_H} {r : Int32} {H' : qx_H} (h : fm_X11_untell a0 a1 H = some (r, H')) : xE st d 157 [.ref a0, .int a1] H (some (.int r)) H' := by
  obtain ⟨d, rfl⟩ : ∃ d', d = d' + 1 := ⟨d - 1, by omega⟩
  exact xE_of (xe157 st) xl157 (Nat.le_of_ble_eq_true rfl) (ls := [some (.ref a0), some (.int a1), none]) rfl (tb_X11_untell_0 (by omega) ⟨rfl, rfl⟩ a0 a1 H h)
theorem tl_X11_untell {a0 : Nat} {a1 : Int32} {H : qx_H} {r : Int32} {H' : qx_H} (h : fm_X11_untell a0 a1 H = some (r, H')) : H'.length = H.length := tlb_X11_untell_0 a0 a1 H h
def fm_X11_joined (a0 : Int32) (a1 : Int32) (a2 : Int32) : Int32 := if a0 = 37 then (if a2 = 0 then (0) else (if a2 = (-1) then (0) else (ji_rem a1 a2))) else if a0 = 38 then (if a1 = 0 then (0) else (if a2 = 0 then (0) else (1))) else if a0 = 39 then (if a1 = 0 then (if a2 = 0 then (0) else (1)) else (1)) else if a0 = 40 then (if a1 = 0 then (if a2 = 0 then (0) else (1)) else (1)) else if a0 = 41 then (if a1 = 0 then (if a2 = 0 then (0) else (1)) else (1)) else if a0 = 42 then (a1 * a2) else if a0 = 43 then (a1 + a2) else if a0 = 44 then (if a1 = 0 then (if a2 = 0 then (0) else (1)) else (1)) else if a0 = 45 then (a1 - a2) else if a0 = 46 then (if a1 = 0 then (if a2 = 0 then (0) else (1)) else (1)) else if a0 = 47 then (if a2 = 0 then (0) else (if a2 = (-1) then (-a1) else (a1 / a2))) else if a0 = 48 then (if a1 = 0 then (if a2 = 0 then (0) else (1)) else (1)) else if a0 = 49 then (if a1 = 0 then (if a2 = 0 then (0) else (1)) else (1)) else if a0 = 50 then (if a1 = 0 then (if a2 = 0 then (0) else (1)) else (1)) else if a0 = 51 then (if a1 = 0 then (if a2 = 0 then (0) else (1)) else (1)) else if a0 = 52 then (if a1 = 0 then (if a2 = 0 then (0) else (1)) else (1)) else if a0 = 53 then (if a1 = 0 then (if a2 = 0 then (0) else (1)) else (1)) else if a0 = 54 then (if a1 = 0 then (if a2 = 0 then (0) else (1)) else (1)) else if a0 = 55 then (if a1 = 0 then (if a2 = 0 then (0) else (1)) else (1)) else if a0 = 56 then (if a1 = 0 then (if a2 = 0 then (0) else (1)) else (1)) else if a0 = 57 then (if a1 = 0 then (if a2 = 0 then (0) else (1)) else (1)) else if a0 = 58 then (if a1 = 0 then (if a2 = 0 then (0) else (1)) else (1)) else if a0 = 59 then (if a1 = 0 then (if a2 = 0 then (0) else (1)) else (1)) else if a0 = 60 then (if a2 ≤ a1 then (0) else (1)) else if a0 = 61 then (if a1 = a2 then (1) else (0)) else if a0 = 62 then (if a1 ≤ a2 then (0) else (1)) else (if a1 = 0 then (if a2 = 0 then (0) else (1)) else (1))
theorem tb_X11_joined_0 {st : xT} {d : Nat} {R : Option Value → qx_H → Prop} (hd : 0 ≤ d) {r : Int32} {H : qx_H} (hR : R (some (.int r)) H) (a0 : Int32) (a1 : Int32) (a2 : Int32) (h : fm_X11_joined a0 a1 a2 = r) : qx_V (xE st d) R (xc158 st) (0, [some (.int a0), some (.int a1), some (.int a2)], [], H) := by
  unfold fm_X11_joined at h
  refine qv_run 2 (σ := (qx_swt a0 218 [(37, 154), (38, 204), (39, 218), (40, 218), (41, 218), (42, 128), (43, 120), (44, 218), (45, 124), (46, 218), (47, 132), (48, 218), (49, 218), (50, 218), (51, 218), (52, 218), (53, 218), (54, 218), (55, 218), (56, 218), (57, 218), (58, 218), (59, 218), (60, 171), (61, 193), (62, 182)], [some (.int a0), some (.int a1), some (.int a2)], [], H)) rfl ?_
  refine qv_swt (fun c1_0 => ?_) (fun c1_0 => ?_)
  · replace h := qv_pos c1_0 h
    refine qv_br (c := a2 = 0) (a := (163, [some (.int a0), some (.int a1), some (.int a2)], [], H)) (b := (158, [some (.int a0), some (.int a1), some (.int a2)], [], H)) 2 rfl (fun c155 => ?_) (fun c155 => ?_)
    · replace h := qv_pos c155 h
      refine qv_run 2 (σ := (170, [some (.int a0), some (.int a1), some (.int a2)], [.int 0], H)) rfl ?_
      subst h
      exact qv_reti rfl hR
    · replace h := qv_neg c155 h
      refine qv_br (c := a2 = (-1)) (a := (163, [some (.int a0), some (.int a1), some (.int a2)], [], H)) (b := (167, [some (.int a0), some (.int a1), some (.int a2)], [], H)) 3 rfl (fun c160 => ?_) (fun c160 => ?_)
      · replace h := qv_pos c160 h
        refine qv_run 2 (σ := (170, [some (.int a0), some (.int a1), some (.int a2)], [.int 0], H)) rfl ?_
        subst h
        exact qv_reti rfl hR
      · replace h := qv_neg c160 h
        refine qv_run 2 (σ := (169, [some (.int a0), some (.int a1), some (.int a2)], [.int a2, .int a1], H)) rfl ?_
        refine qv_div rfl c155 ?_
        subst h
        exact qv_reti rfl hR
  · replace h := qv_neg c1_0 h
    refine qv_swt (fun c1_1 => ?_) (fun c1_1 => ?_)
    · replace h := qv_pos c1_1 h
      refine qv_br (c := a1 = 0) (a := (216, [some (.int a0), some (.int a1), some (.int a2)], [], H)) (b := (208, [some (.int a0), some (.int a1), some (.int a2)], [], H)) 2 rfl (fun c205 => ?_) (fun c205 => ?_)
      · replace h := qv_pos c205 h
        refine qv_run 1 (σ := (217, [some (.int a0), some (.int a1), some (.int a2)], [.int 0], H)) rfl ?_
        subst h
        exact qv_reti rfl hR
      · replace h := qv_neg c205 h
        refine qv_br (c := a2 = 0) (a := (216, [some (.int a0), some (.int a1), some (.int a2)], [], H)) (b := (212, [some (.int a0), some (.int a1), some (.int a2)], [], H)) 2 rfl (fun c209 => ?_) (fun c209 => ?_)
        · replace h := qv_pos c209 h
          refine qv_run 1 (σ := (217, [some (.int a0), some (.int a1), some (.int a2)], [.int 0], H)) rfl ?_
          subst h
          exact qv_reti rfl hR
        · replace h := qv_neg c209 h
          refine qv_run 2 (σ := (217, [some (.int a0), some (.int a1), some (.int a2)], [.int 1], H)) rfl ?_
          subst h
          exact qv_reti rfl hR
    · replace h := qv_neg c1_1 h
      refine qv_swt (fun c1_2 => ?_) (fun c1_2 => ?_)
      · replace h := qv_pos c1_2 h
        refine qv_br (c := a1 = 0) (a := (222, [some (.int a0), some (.int a1), some (.int a2)], [], H)) (b := (226, [some (.int a0), some (.int a1), some (.int a2)], [], H)) 2 rfl (fun c219 => ?_) (fun c219 => ?_)
        · replace h := qv_pos c219 h
          refine qv_br (c := a2 = 0) (a := (230, [some (.int a0), some (.int a1), some (.int a2)], [], H)) (b := (226, [some (.int a0), some (.int a1), some (.int a2)], [], H)) 2 rfl (fun c223 => ?_) (fun c223 => ?_)
          · replace h := qv_pos c223 h
            refine qv_run 1 (σ := (231, [some (.int a0), some (.int a1), some (.int a2)], [.int 0], H)) rfl ?_
            subst h
            exact qv_reti rfl hR
          · replace h := qv_neg c223 h
            refine qv_run 2 (σ := (231, [some (.int a0), some (.int a1), some (.int a2)], [.int 1], H)) rfl ?_
            subst h
            exact qv_reti rfl hR
        · replace h := qv_neg c219 h
          refine qv_run 2 (σ := (231, [some (.int a0), some (.int a1), some (.int a2)], [.int 1], H)) rfl ?_
          subst h
          exact qv_reti rfl hR
      · replace h := qv_neg c1_2 h
        refine qv_swt (fun c1_3 => ?_) (fun c1_3 => ?_)
        · replace h := qv_pos c1_3 h
          refine qv_br (c := a1 = 0) (a := (222, [some (.int a0), some (.int a1), some (.int a2)], [], H)) (b := (226, [some (.int a0), some (.int a1), some (.int a2)], [], H)) 2 rfl (fun c219 => ?_) (fun c219 => ?_)
          · replace h := qv_pos c219 h
            refine qv_br (c := a2 = 0) (a := (230, [some (.int a0), some (.int a1), some (.int a2)], [], H)) (b := (226, [some (.int a0), some (.int a1), some (.int a2)], [], H)) 2 rfl (fun c223 => ?_) (fun c223 => ?_)
            · replace h := qv_pos c223 h
              refine qv_run 1 (σ := (231, [some (.int a0), some (.int a1), some (.int a2)], [.int 0], H)) rfl ?_
              subst h
              exact qv_reti rfl hR
            · replace h := qv_neg c223 h
              refine qv_run 2 (σ := (231, [some (.int a0), some (.int a1), some (.int a2)], [.int 1], H)) rfl ?_
              subst h
              exact qv_reti rfl hR
          · replace h := qv_neg c219 h
            refine qv_run 2 (σ := (231, [some (.int a0), some (.int a1), some (.int a2)], [.int 1], H)) rfl ?_
            subst h
            exact qv_reti rfl hR
        · replace h := qv_neg c1_3 h
          refine qv_swt (fun c1_4 => ?_) (fun c1_4 => ?_)
          · replace h := qv_pos c1_4 h
            refine qv_br (c := a1 = 0) (a := (222, [some (.int a0), some (.int a1), some (.int a2)], [], H)) (b := (226, [some (.int a0), some (.int a1), some (.int a2)], [], H)) 2 rfl (fun c219 => ?_) (fun c219 => ?_)
            · replace h := qv_pos c219 h
              refine qv_br (c := a2 = 0) (a := (230, [some (.int a0), some (.int a1), some (.int a2)], [], H)) (b := (226, [some (.int a0), some (.int a1), some (.int a2)], [], H)) 2 rfl (fun c223 => ?_) (fun c223 => ?_)
              · replace h := qv_pos c223 h
                refine qv_run 1 (σ := (231, [some (.int a0), some (.int a1), some (.int a2)], [.int 0], H)) rfl ?_
                subst h
                exact qv_reti rfl hR
              · replace h := qv_neg c223 h
                refine qv_run 2 (σ := (231, [some (.int a0), some (.int a1), some (.int a2)], [.int 1], H)) rfl ?_
                subst h
                exact qv_reti rfl hR
            · replace h := qv_neg c219 h
              refine qv_run 2 (σ := (231, [some (.int a0), some (.int a1), some (.int a2)], [.int 1], H)) rfl ?_
              subst h
              exact qv_reti rfl hR
          · replace h := qv_neg c1_4 h
            refine qv_swt (fun c1_5 => ?_) (fun c1_5 => ?_)
            · replace h := qv_pos c1_5 h
              refine qv_run 3 (σ := (131, [some (.int a0), some (.int a1), some (.int a2)], [.int (a1 * a2)], H)) rfl ?_
              subst h
              exact qv_reti rfl hR
            · replace h := qv_neg c1_5 h
              refine qv_swt (fun c1_6 => ?_) (fun c1_6 => ?_)
              · replace h := qv_pos c1_6 h
                refine qv_run 3 (σ := (123, [some (.int a0), some (.int a1), some (.int a2)], [.int (a1 + a2)], H)) rfl ?_
                subst h
                exact qv_reti rfl hR
              · replace h := qv_neg c1_6 h
                refine qv_swt (fun c1_7 => ?_) (fun c1_7 => ?_)
                · replace h := qv_pos c1_7 h
                  refine qv_br (c := a1 = 0) (a := (222, [some (.int a0), some (.int a1), some (.int a2)], [], H)) (b := (226, [some (.int a0), some (.int a1), some (.int a2)], [], H)) 2 rfl (fun c219 => ?_) (fun c219 => ?_)
                  · replace h := qv_pos c219 h
                    refine qv_br (c := a2 = 0) (a := (230, [some (.int a0), some (.int a1), some (.int a2)], [], H)) (b := (226, [some (.int a0), some (.int a1), some (.int a2)], [], H)) 2 rfl (fun c223 => ?_) (fun c223 => ?_)
                    · replace h := qv_pos c223 h
                      refine qv_run 1 (σ := (231, [some (.int a0), some (.int a1), some (.int a2)], [.int 0], H)) rfl ?_
                      subst h
                      exact qv_reti rfl hR
                    · replace h := qv_neg c223 h
                      refine qv_run 2 (σ := (231, [some (.int a0), some (.int a1), some (.int a2)], [.int 1], H)) rfl ?_
                      subst h
                      exact qv_reti rfl hR
                  · replace h := qv_neg c219 h
                    refine qv_run 2 (σ := (231, [some (.int a0), some (.int a1), some (.int a2)], [.int 1], H)) rfl ?_
                    subst h
                    exact qv_reti rfl hR
                · replace h := qv_neg c1_7 h
                  refine qv_swt (fun c1_8 => ?_) (fun c1_8 => ?_)
                  · replace h := qv_pos c1_8 h
                    refine qv_run 3 (σ := (127, [some (.int a0), some (.int a1), some (.int a2)], [.int (a1 - a2)], H)) rfl ?_
                    subst h
                    exact qv_reti rfl hR
                  · replace h := qv_neg c1_8 h
                    refine qv_swt (fun c1_9 => ?_) (fun c1_9 => ?_)
                    · replace h := qv_pos c1_9 h
                      refine qv_br (c := a1 = 0) (a := (222, [some (.int a0), some (.int a1), some (.int a2)], [], H)) (b := (226, [some (.int a0), some (.int a1), some (.int a2)], [], H)) 2 rfl (fun c219 => ?_) (fun c219 => ?_)
                      · replace h := qv_pos c219 h
                        refine qv_br (c := a2 = 0) (a := (230, [some (.int a0), some (.int a1), some (.int a2)], [], H)) (b := (226, [some (.int a0), some (.int a1), some (.int a2)], [], H)) 2 rfl (fun c223 => ?_) (fun c223 => ?_)
                        · replace h := qv_pos c223 h
                          refine qv_run 1 (σ := (231, [some (.int a0), some (.int a1), some (.int a2)], [.int 0], H)) rfl ?_
                          subst h
                          exact qv_reti rfl hR
                        · replace h := qv_neg c223 h
                          refine qv_run 2 (σ := (231, [some (.int a0), some (.int a1), some (.int a2)], [.int 1], H)) rfl ?_
                          subst h
                          exact qv_reti rfl hR
                      · replace h := qv_neg c219 h
                        refine qv_run 2 (σ := (231, [some (.int a0), some (.int a1), some (.int a2)], [.int 1], H)) rfl ?_
                        subst h
                        exact qv_reti rfl hR
                    · replace h := qv_neg c1_9 h
                      refine qv_swt (fun c1_10 => ?_) (fun c1_10 => ?_)
                      · replace h := qv_pos c1_10 h
                        refine qv_br (c := a2 = 0) (a := (136, [some (.int a0), some (.int a1), some (.int a2)], [], H)) (b := (140, [some (.int a0), some (.int a1), some (.int a2)], [], H)) 2 rfl (fun c133 => ?_) (fun c133 => ?_)
                        · replace h := qv_pos c133 h
                          refine qv_run 2 (σ := (153, [some (.int a0), some (.int a1), some (.int a2)], [.int 0], H)) rfl ?_
                          subst h
                          exact qv_reti rfl hR
                        · replace h := qv_neg c133 h
                          refine qv_br (c := a2 = (-1)) (a := (145, [some (.int a0), some (.int a1), some (.int a2)], [], H)) (b := (150, [some (.int a0), some (.int a1), some (.int a2)], [], H)) 3 rfl (fun c142 => ?_) (fun c142 => ?_)
                          · replace h := qv_pos c142 h
                            refine qv_run 3 (σ := (153, [some (.int a0), some (.int a1), some (.int a2)], [.int (-a1)], H)) rfl ?_
                            subst h
                            exact qv_reti rfl hR
                          · replace h := qv_neg c142 h
                            refine qv_run 2 (σ := (152, [some (.int a0), some (.int a1), some (.int a2)], [.int a2, .int a1], H)) rfl ?_
                            refine qv_div rfl c133 ?_
                            subst h
                            exact qv_reti rfl hR
                      · replace h := qv_neg c1_10 h
                        refine qv_swt (fun c1_11 => ?_) (fun c1_11 => ?_)
                        · replace h := qv_pos c1_11 h
                          refine qv_br (c := a1 = 0) (a := (222, [some (.int a0), some (.int a1), some (.int a2)], [], H)) (b := (226, [some (.int a0), some (.int a1), some (.int a2)], [], H)) 2 rfl (fun c219 => ?_) (fun c219 => ?_)
                          · replace h := qv_pos c219 h
                            refine qv_br (c := a2 = 0) (a := (230, [some (.int a0), some (.int a1), some (.int a2)], [], H)) (b := (226, [some (.int a0), some (.int a1), some (.int a2)], [], H)) 2 rfl (fun c223 => ?_) (fun c223 => ?_)
                            · replace h := qv_pos c223 h
                              refine qv_run 1 (σ := (231, [some (.int a0), some (.int a1), some (.int a2)], [.int 0], H)) rfl ?_
                              subst h
                              exact qv_reti rfl hR
                            · replace h := qv_neg c223 h
                              refine qv_run 2 (σ := (231, [some (.int a0), some (.int a1), some (.int a2)], [.int 1], H)) rfl ?_
                              subst h
                              exact qv_reti rfl hR
                          · replace h := qv_neg c219 h
                            refine qv_run 2 (σ := (231, [some (.int a0), some (.int a1), some (.int a2)], [.int 1], H)) rfl ?_
                            subst h
                            exact qv_reti rfl hR
                        · replace h := qv_neg c1_11 h
                          refine qv_swt (fun c1_12 => ?_) (fun c1_12 => ?_)
                          · replace h := qv_pos c1_12 h
                            refine qv_br (c := a1 = 0) (a := (222, [some (.int a0), some (.int a1), some (.int a2)], [], H)) (b := (226, [some (.int a0), some (.int a1), some (.int a2)], [], H)) 2 rfl (fun c219 => ?_) (fun c219 => ?_)
                            · replace h := qv_pos c219 h
                              refine qv_br (c := a2 = 0) (a := (230, [some (.int a0), some (.int a1), some (.int a2)], [], H)) (b := (226, [some (.int a0), some (.int a1), some (.int a2)], [], H)) 2 rfl (fun c223 => ?_) (fun c223 => ?_)
                              · replace h := qv_pos c223 h
                                refine qv_run 1 (σ := (231, [some (.int a0), some (.int a1), some (.int a2)], [.int 0], H)) rfl ?_
                                subst h
                                exact qv_reti rfl hR
                              · replace h := qv_neg c223 h
                                refine qv_run 2 (σ := (231, [some (.int a0), some (.int a1), some (.int a2)], [.int 1], H)) rfl ?_
                                subst h
                                exact qv_reti rfl hR
                            · replace h := qv_neg c219 h
                              refine qv_run 2 (σ := (231, [some (.int a0), some (.int a1), some (.int a2)], [.int 1], H)) rfl ?_
                              subst h
                              exact qv_reti rfl hR
                          · replace h := qv_neg c1_12 h
                            refine qv_swt (fun c1_13 => ?_) (fun c1_13 => ?_)
                            · replace h := qv_pos c1_13 h
                              refine qv_br (c := a1 = 0) (a := (222, [some (.int a0), some (.int a1), some (.int a2)], [], H)) (b := (226, [some (.int a0), some (.int a1), some (.int a2)], [], H)) 2 rfl (fun c219 => ?_) (fun c219 => ?_)
                              · replace h := qv_pos c219 h
                                refine qv_br (c := a2 = 0) (a := (230, [some (.int a0), some (.int a1), some (.int a2)], [], H)) (b := (226, [some (.int a0), some (.int a1), some (.int a2)], [], H)) 2 rfl (fun c223 => ?_) (fun c223 => ?_)
                                · replace h := qv_pos c223 h
                                  refine qv_run 1 (σ := (231, [some (.int a0), some (.int a1), some (.int a2)], [.int 0], H)) rfl ?_
                                  subst h
                                  exact qv_reti rfl hR
                                · replace h := qv_neg c223 h
                                  refine qv_run 2 (σ := (231, [some (.int a0), some (.int a1), some (.int a2)], [.int 1], H)) rfl ?_
                                  subst h
                                  exact qv_reti rfl hR
                              · replace h := qv_neg c219 h
                                refine qv_run 2 (σ := (231, [some (.int a0), some (.int a1), some (.int a2)], [.int 1], H)) rfl ?_
                                subst h
                                exact qv_reti rfl hR
                            · replace h := qv_neg c1_13 h
                              refine qv_swt (fun c1_14 => ?_) (fun c1_14 => ?_)
                              · replace h := qv_pos c1_14 h
                                refine qv_br (c := a1 = 0) (a := (222, [some (.int a0), some (.int a1), some (.int a2)], [], H)) (b := (226, [some (.int a0), some (.int a1), some (.int a2)], [], H)) 2 rfl (fun c219 => ?_) (fun c219 => ?_)
                                · replace h := qv_pos c219 h
                                  refine qv_br (c := a2 = 0) (a := (230, [some (.int a0), some (.int a1), some (.int a2)], [], H)) (b := (226, [some (.int a0), some (.int a1), some (.int a2)], [], H)) 2 rfl (fun c223 => ?_) (fun c223 => ?_)
                                  · replace h := qv_pos c223 h
                                    refine qv_run 1 (σ := (231, [some (.int a0), some (.int a1), some (.int a2)], [.int 0], H)) rfl ?_
                                    subst h
                                    exact qv_reti rfl hR
                                  · replace h := qv_neg c223 h
                                    refine qv_run 2 (σ := (231, [some (.int a0), some (.int a1), some (.int a2)], [.int 1], H)) rfl ?_
                                    subst h
                                    exact qv_reti rfl hR
                                · replace h := qv_neg c219 h
                                  refine qv_run 2 (σ := (231, [some (.int a0), some (.int a1), some (.int a2)], [.int 1], H)) rfl ?_
                                  subst h
                                  exact qv_reti rfl hR
                              · replace h := qv_neg c1_14 h
                                refine qv_swt (fun c1_15 => ?_) (fun c1_15 => ?_)
                                · replace h := qv_pos c1_15 h
                                  refine qv_br (c := a1 = 0) (a := (222, [some (.int a0), some (.int a1), some (.int a2)], [], H)) (b := (226, [some (.int a0), some (.int a1), some (.int a2)], [], H)) 2 rfl (fun c219 => ?_) (fun c219 => ?_)
                                  · replace h := qv_pos c219 h
                                    refine qv_br (c := a2 = 0) (a := (230, [some (.int a0), some (.int a1), some (.int a2)], [], H)) (b := (226, [some (.int a0), some (.int a1), some (.int a2)], [], H)) 2 rfl (fun c223 => ?_) (fun c223 => ?_)
                                    · replace h := qv_pos c223 h
                                      refine qv_run 1 (σ := (231, [some (.int a0), some (.int a1), some (.int a2)], [.int 0], H)) rfl ?_
                                      subst h
                                      exact qv_reti rfl hR
                                    · replace h := qv_neg c223 h
                                      refine qv_run 2 (σ := (231, [some (.int a0), some (.int a1), some (.int a2)], [.int 1], H)) rfl ?_
                                      subst h
                                      exact qv_reti rfl hR
                                  · replace h := qv_neg c219 h
                                    refine qv_run 2 (σ := (231, [some (.int a0), some (.int a1), some (.int a2)], [.int 1], H)) rfl ?_
                                    subst h
                                    exact qv_reti rfl hR
                                · replace h := qv_neg c1_15 h
                                  refine qv_swt (fun c1_16 => ?_) (fun c1_16 => ?_)
                                  · replace h := qv_pos c1_16 h
                                    refine qv_br (c := a1 = 0) (a := (222, [some (.int a0), some (.int a1), some (.int a2)], [], H)) (b := (226, [some (.int a0), some (.int a1), some (.int a2)], [], H)) 2 rfl (fun c219 => ?_) (fun c219 => ?_)
                                    · replace h := qv_pos c219 h
                                      refine qv_br (c := a2 = 0) (a := (230, [some (.int a0), some (.int a1), some (.int a2)], [], H)) (b := (226, [some (.int a0), some (.int a1), some (.int a2)], [], H)) 2 rfl (fun c223 => ?_) (fun c223 => ?_)
                                      · replace h := qv_pos c223 h
                                        refine qv_run 1 (σ := (231, [some (.int a0), some (.int a1), some (.int a2)], [.int 0], H)) rfl ?_
                                        subst h
                                        exact qv_reti rfl hR
                                      · replace h := qv_neg c223 h
                                        refine qv_run 2 (σ := (231, [some (.int a0), some (.int a1), some (.int a2)], [.int 1], H)) rfl ?_
                                        subst h
                                        exact qv_reti rfl hR
                                    · replace h := qv_neg c219 h
                                      refine qv_run 2 (σ := (231, [some (.int a0), some (.int a1), some (.int a2)], [.int 1], H)) rfl ?_
                                      subst h
                                      exact qv_reti rfl hR
                                  · replace h := qv_neg c1_16 h
                                    refine qv_swt (fun c1_17 => ?_) (fun c1_17 => ?_)
                                    · replace h := qv_pos c1_17 h
                                      refine qv_br (c := a1 = 0) (a := (222, [some (.int a0), some (.int a1), some (.int a2)], [], H)) (b := (226, [some (.int a0), some (.int a1), some (.int a2)], [], H)) 2 rfl (fun c219 => ?_) (fun c219 => ?_)
                                      · replace h := qv_pos c219 h
                                        refine qv_br (c := a2 = 0) (a := (230, [some (.int a0), some (.int a1), some (.int a2)], [], H)) (b := (226, [some (.int a0), some (.int a1), some (.int a2)], [], H)) 2 rfl (fun c223 => ?_) (fun c223 => ?_)
                                        · replace h := qv_pos c223 h
                                          refine qv_run 1 (σ := (231, [some (.int a0), some (.int a1), some (.int a2)], [.int 0], H)) rfl ?_
                                          subst h
                                          exact qv_reti rfl hR
                                        · replace h := qv_neg c223 h
                                          refine qv_run 2 (σ := (231, [some (.int a0), some (.int a1), some (.int a2)], [.int 1], H)) rfl ?_
                                          subst h
                                          exact qv_reti rfl hR
                                      · replace h := qv_neg c219 h
                                        refine qv_run 2 (σ := (231, [some (.int a0), some (.int a1), some (.int a2)], [.int 1], H)) rfl ?_
                                        subst h
                                        exact qv_reti rfl hR
                                    · replace h := qv_neg c1_17 h
                                      refine qv_swt (fun c1_18 => ?_) (fun c1_18 => ?_)
                                      · replace h := qv_pos c1_18 h
                                        refine qv_br (c := a1 = 0) (a := (222, [some (.int a0), some (.int a1), some (.int a2)], [], H)) (b := (226, [some (.int a0), some (.int a1), some (.int a2)], [], H)) 2 rfl (fun c219 => ?_) (fun c219 => ?_)
                                        · replace h := qv_pos c219 h
                                          refine qv_br (c := a2 = 0) (a := (230, [some (.int a0), some (.int a1), some (.int a2)], [], H)) (b := (226, [some (.int a0), some (.int a1), some (.int a2)], [], H)) 2 rfl (fun c223 => ?_) (fun c223 => ?_)
                                          · replace h := qv_pos c223 h
                                            refine qv_run 1 (σ := (231, [some (.int a0), some (.int a1), some (.int a2)], [.int 0], H)) rfl ?_
                                            subst h
                                            exact qv_reti rfl hR
                                          · replace h := qv_neg c223 h
                                            refine qv_run 2 (σ := (231, [some (.int a0), some (.int a1), some (.int a2)], [.int 1], H)) rfl ?_
                                            subst h
                                            exact qv_reti rfl hR
                                        · replace h := qv_neg c219 h
                                          refine qv_run 2 (σ := (231, [some (.int a0), some (.int a1), some (.int a2)], [.int 1], H)) rfl ?_
                                          subst h
                                          exact qv_reti rfl hR
                                      · replace h := qv_neg c1_18 h
                                        refine qv_swt (fun c1_19 => ?_) (fun c1_19 => ?_)
                                        · replace h := qv_pos c1_19 h
                                          refine qv_br (c := a1 = 0) (a := (222, [some (.int a0), some (.int a1), some (.int a2)], [], H)) (b := (226, [some (.int a0), some (.int a1), some (.int a2)], [], H)) 2 rfl (fun c219 => ?_) (fun c219 => ?_)
                                          · replace h := qv_pos c219 h
                                            refine qv_br (c := a2 = 0) (a := (230, [some (.int a0), some (.int a1), some (.int a2)], [], H)) (b := (226, [some (.int a0), some (.int a1), some (.int a2)], [], H)) 2 rfl (fun c223 => ?_) (fun c223 => ?_)
                                            · replace h := qv_pos c223 h
                                              refine qv_run 1 (σ := (231, [some (.int a0), some (.int a1), some (.int a2)], [.int 0], H)) rfl ?_
                                              subst h
                                              exact qv_reti rfl hR
                                            · replace h := qv_neg c223 h
                                              refine qv_run 2 (σ := (231, [some (.int a0), some (.int a1), some (.int a2)], [.int 1], H)) rfl ?_
                                              subst h
                                              exact qv_reti rfl hR
                                          · replace h := qv_neg c219 h
                                            refine qv_run 2 (σ := (231, [some (.int a0), some (.int a1), some (.int a2)], [.int 1], H)) rfl ?_
                                            subst h
                                            exact qv_reti rfl hR
                                        · replace h := qv_neg c1_19 h
                                          refine qv_swt (fun c1_20 => ?_) (fun c1_20 => ?_)
                                          · replace h := qv_pos c1_20 h
                                            refine qv_br (c := a1 = 0) (a := (222, [some (.int a0), some (.int a1), some (.int a2)], [], H)) (b := (226, [some (.int a0), some (.int a1), some (.int a2)], [], H)) 2 rfl (fun c219 => ?_) (fun c219 => ?_)
                                            · replace h := qv_pos c219 h
                                              refine qv_br (c := a2 = 0) (a := (230, [some (.int a0), some (.int a1), some (.int a2)], [], H)) (b := (226, [some (.int a0), some (.int a1), some (.int a2)], [], H)) 2 rfl (fun c223 => ?_) (fun c223 => ?_)
                                              · replace h := qv_pos c223 h
                                                refine qv_run 1 (σ := (231, [some (.int a0), some (.int a1), some (.int a2)], [.int 0], H)) rfl ?_
                                                subst h
                                                exact qv_reti rfl hR
                                              · replace h := qv_neg c223 h
                                                refine qv_run 2 (σ := (231, [some (.int a0), some (.int a1), some (.int a2)], [.int 1], H)) rfl ?_
                                                subst h
                                                exact qv_reti rfl hR
                                            · replace h := qv_neg c219 h
                                              refine qv_run 2 (σ := (231, [some (.int a0), some (.int a1), some (.int a2)], [.int 1], H)) rfl ?_
                                              subst h
                                              exact qv_reti rfl hR
                                          · replace h := qv_neg c1_20 h
                                            refine qv_swt (fun c1_21 => ?_) (fun c1_21 => ?_)
                                            · replace h := qv_pos c1_21 h
                                              refine qv_br (c := a1 = 0) (a := (222, [some (.int a0), some (.int a1), some (.int a2)], [], H)) (b := (226, [some (.int a0), some (.int a1), some (.int a2)], [], H)) 2 rfl (fun c219 => ?_) (fun c219 => ?_)
                                              · replace h := qv_pos c219 h
                                                refine qv_br (c := a2 = 0) (a := (230, [some (.int a0), some (.int a1), some (.int a2)], [], H)) (b := (226, [some (.int a0), some (.int a1), some (.int a2)], [], H)) 2 rfl (fun c223 => ?_) (fun c223 => ?_)
                                                · replace h := qv_pos c223 h
                                                  refine qv_run 1 (σ := (231, [some (.int a0), some (.int a1), some (.int a2)], [.int 0], H)) rfl ?_
                                                  subst h
                                                  exact qv_reti rfl hR
                                                · replace h := qv_neg c223 h
                                                  refine qv_run 2 (σ := (231, [some (.int a0), some (.int a1), some (.int a2)], [.int 1], H)) rfl ?_
                                                  subst h
                                                  exact qv_reti rfl hR
                                              · replace h := qv_neg c219 h
                                                refine qv_run 2 (σ := (231, [some (.int a0), some (.int a1), some (.int a2)], [.int 1], H)) rfl ?_
                                                subst h
                                                exact qv_reti rfl hR
                                            · replace h := qv_neg c1_21 h
                                              refine qv_swt (fun c1_22 => ?_) (fun c1_22 => ?_)
                                              · replace h := qv_pos c1_22 h
                                                refine qv_br (c := a1 = 0) (a := (222, [some (.int a0), some (.int a1), some (.int a2)], [], H)) (b := (226, [some (.int a0), some (.int a1), some (.int a2)], [], H)) 2 rfl (fun c219 => ?_) (fun c219 => ?_)
                                                · replace h := qv_pos c219 h
                                                  refine qv_br (c := a2 = 0) (a := (230, [some (.int a0), some (.int a1), some (.int a2)], [], H)) (b := (226, [some (.int a0), some (.int a1), some (.int a2)], [], H)) 2 rfl (fun c223 => ?_) (fun c223 => ?_)
                                                  · replace h := qv_pos c223 h
                                                    refine qv_run 1 (σ := (231, [some (.int a0), some (.int a1), some (.int a2)], [.int 0], H)) rfl ?_
                                                    subst h
                                                    exact qv_reti rfl hR
                                                  · replace h := qv_neg c223 h
                                                    refine qv_run 2 (σ := (231, [some (.int a0), some (.int a1), some (.int a2)], [.int 1], H)) rfl ?_
                                                    subst h
                                                    exact qv_reti rfl hR
                                                · replace h := qv_neg c219 h
                                                  refine qv_run 2 (σ := (231, [some (.int a0), some (.int a1), some (.int a2)], [.int 1], H)) rfl ?_
                                                  subst h
                                                  exact qv_reti rfl hR
                                              · replace h := qv_neg c1_22 h
                                                refine qv_swt (fun c1_23 => ?_) (fun c1_23 => ?_)
                                                · replace h := qv_pos c1_23 h
                                                  refine qv_br (c := a2 ≤ a1) (a := (180, [some (.int a0), some (.int a1), some (.int a2)], [], H)) (b := (176, [some (.int a0), some (.int a1), some (.int a2)], [], H)) 3 rfl (fun c173 => ?_) (fun c173 => ?_)
                                                  · replace h := qv_pos c173 h
                                                    refine qv_run 1 (σ := (181, [some (.int a0), some (.int a1), some (.int a2)], [.int 0], H)) rfl ?_
                                                    subst h
                                                    exact qv_reti rfl hR
                                                  · replace h := qv_neg c173 h
                                                    refine qv_run 2 (σ := (181, [some (.int a0), some (.int a1), some (.int a2)], [.int 1], H)) rfl ?_
                                                    subst h
                                                    exact qv_reti rfl hR
                                                · replace h := qv_neg c1_23 h
                                                  refine qv_swt (fun c1_24 => ?_) (fun c1_24 => ?_)
                                                  · replace h := qv_pos c1_24 h
                                                    refine qv_br (c := a1 = a2) (a := (198, [some (.int a0), some (.int a1), some (.int a2)], [], H)) (b := (202, [some (.int a0), some (.int a1), some (.int a2)], [], H)) 3 rfl (fun c195 => ?_) (fun c195 => ?_)
                                                    · replace h := qv_pos c195 h
                                                      refine qv_run 2 (σ := (203, [some (.int a0), some (.int a1), some (.int a2)], [.int 1], H)) rfl ?_
                                                      subst h
                                                      exact qv_reti rfl hR
                                                    · replace h := qv_neg c195 h
                                                      refine qv_run 1 (σ := (203, [some (.int a0), some (.int a1), some (.int a2)], [.int 0], H)) rfl ?_
                                                      subst h
                                                      exact qv_reti rfl hR
                                                  · replace h := qv_neg c1_24 h
                                                    refine qv_swt (fun c1_25 => ?_) (fun c1_25 => ?_)
                                                    · replace h := qv_pos c1_25 h
                                                      refine qv_br (c := a1 ≤ a2) (a := (191, [some (.int a0), some (.int a1), some (.int a2)], [], H)) (b := (187, [some (.int a0), some (.int a1), some (.int a2)], [], H)) 3 rfl (fun c184 => ?_) (fun c184 => ?_)
                                                      · replace h := qv_pos c184 h
                                                        refine qv_run 1 (σ := (192, [some (.int a0), some (.int a1), some (.int a2)], [.int 0], H)) rfl ?_
                                                        subst h
                                                        exact qv_reti rfl hR
                                                      · replace h := qv_neg c184 h
                                                        refine qv_run 2 (σ := (192, [some (.int a0), some (.int a1), some (.int a2)], [.int 1], H)) rfl ?_
                                                        subst h
                                                        exact qv_reti rfl hR
                                                    · replace h := qv_neg c1_25 h
                                                      refine qv_sw0 ?_
                                                      refine qv_br (c := a1 = 0) (a := (222, [some (.int a0), some (.int a1), some (.int a2)], [], H)) (b := (226, [some (.int a0), some (.int a1), some (.int a2)], [], H)) 2 rfl (fun c219 => ?_) (fun c219 => ?_)
                                                      · replace h := qv_pos c219 h
                                                        refine qv_br (c := a2 = 0) (a := (230, [some (.int a0), some (.int a1), some (.int a2)], [], H)) (b := (226, [some (.int a0), some (.int a1), some (.int a2)], [], H)) 2 rfl (fun c223 => ?_) (fun c223 => ?_)
                                                        · replace h := qv_pos c223 h
                                                          refine qv_run 1 (σ := (231, [some (.int a0), some (.int a1), some (.int a2)], [.int 0], H)) rfl ?_
                                                          subst h
                                                          exact qv_reti rfl hR
                                                        · replace h := qv_neg c223 h
                                                          refine qv_run 2 (σ := (231, [some (.int a0), some (.int a1), some (.int a2)], [.int 1], H)) rfl ?_
                                                          subst h
                                                          exact qv_reti rfl hR
                                                      · replace h := qv_neg c219 h
                                                        refine qv_run 2 (σ := (231, [some (.int a0), some (.int a1), some (.int a2)], [.int 1], H)) rfl ?_
                                                        subst h
                                                        exact qv_reti rfl hR
theorem th_X11_joined {st : xT} {d : Nat} (hd : 1 ≤ d) {a0 : Int32} {a1 : Int32} {a2 : Int32} {r : Int32} {H : qx_H} (h : fm_X11_joined a0 a1 a2 = r) : xE st d 158 [.int a0, .int a1, .int a2] H (some (.int r)) H := by
  obtain ⟨d, rfl⟩ : ∃ d', d = d' + 1 := ⟨d - 1, by omega⟩
  exact xE_of (xe158 st) xl158 (Nat.le_of_ble_eq_true rfl) (ls := [some (.int a0), some (.int a1), some (.int a2)]) rfl (tb_X11_joined_0 (by omega) ⟨rfl, rfl⟩ a0 a1 a2 h)
def fm_X11_worked_b158 (k14 : Nat → Int32 → Int32 → Int32 → qx_H → Option (Int32 × qx_H)) (l0 : Nat) (l2 : Int32) (l3 : Int32) (l4 : Int32) (H : qx_H) : Option (Int32 × qx_H) := k14 l0 l2 l3 (l4 + 1) H
def fm_X11_worked_b88 (k14 : Nat → Int32 → Int32 → Int32 → qx_H → Option (Int32 × qx_H)) (l0 : Nat) (l2 : Int32) (l3 : Int32) (l4 : Int32) (t0 : Int32) (t1 : Int32) (t2 : Nat) (H : qx_H) : Option (Int32 × qx_H) := (hp_ast H t2 t1 t0).bind fun H88 => fm_X11_worked_b158 k14 l0 l2 (l3 + 1) l4 H88
def fm_X11_worked_b66 (k14 : Nat → Int32 → Int32 → Int32 → qx_H → Option (Int32 × qx_H)) (l0 : Nat) (l2 : Int32) (l3 : Int32) (l4 : Int32) (l5 : Int32) (l6 : Int32) (H : qx_H) : Option (Int32 × qx_H) := (hp_gR H l0 9 11).bind fun v67 => if l5 = 0 then (fm_X11_worked_b88 k14 l0 l2 l3 l4 l6 l3 v67 H) else ((hp_gR H l0 9 10).bind fun v82 => (hp_ald H v82 l6).bind fun v87 => fm_X11_worked_b88 k14 l0 l2 l3 l4 v87 l3 v67 H)
def fm_X11_worked_b14 : Nat → Nat → Int32 → Int32 → Int32 → qx_H → Option (Int32 × qx_H)
  | 0, _, _, _, _, _ => none
  | n + 1, l0, l2, l3, l4, H => (hp_gR H l0 9 0).bind fun v17 => (hp_ald H v17 l2).bind fun v21 => if v21 ≤ l4 then ((hp_gR H l0 9 11).bind fun v165 => (hp_ald H v165 0).bind fun v169 => some (v169, H)) else ((hp_gR H l0 9 0).bind fun v26 => (hp_ald H v26 ((l2 + 1) + (2 * l4))).bind fun v37 => (hp_gR H l0 9 0).bind fun v41 => (hp_ald H v41 ((l2 + 2) + (2 * l4))).bind fun v52 => if v37 = 0 then (fm_X11_worked_b66 (fm_X11_worked_b14 n) l0 l2 l3 l4 v37 v52 H) else (if v37 = 1 then (fm_X11_worked_b66 (fm_X11_worked_b14 n) l0 l2 l3 l4 v37 v52 H) else (if v37 = 2 then ((hp_gR H l0 9 11).bind fun v102 => (hp_gR H l0 9 11).bind fun v109 => (hp_ald H v109 (l3 - 1)).bind fun v115 => (hp_ast H v102 (l3 - 1) (if v115 = 0 then 1 else 0)).bind fun H124 => fm_X11_worked_b158 (fm_X11_worked_b14 n) l0 l2 l3 l4 H124) else ((hp_gR H l0 9 11).bind fun v132 => (hp_gR H l0 9 11).bind fun v141 => (hp_ald H v141 ((l3 + (-1)) - 1)).bind fun v147 => (hp_gR H l0 9 11).bind fun v149 => (hp_ald H v149 (l3 + (-1))).bind fun v153 => (hp_ast H v132 ((l3 + (-1)) - 1) (fm_X11_joined v52 v147 v153)).bind fun H157 => fm_X11_worked_b158 (fm_X11_worked_b14 n) l0 l2 (l3 + (-1)) l4 H157))))
def fm_X11_worked (a0 : Nat) (a1 : Int32) (H : qx_H) : Option (Int32 × qx_H) := fm_X11_worked_b14 5000 a0 (181 + (125 * a1)) 0 0 H
theorem tb_X11_worked_158 {st : xT} {d : Nat} {R : Option Value → qx_H → Prop} (hd : 1 ≤ d) {r : Int32} {H' : qx_H} (k14 : Nat → Int32 → Int32 → Int32 → qx_H → Option (Int32 × qx_H)) (hk14 : ∀ (l0 : Nat) (l2 : Int32) (l3 : Int32) (l4 : Int32) (z1 : Option Value) (hz1 : qx_ns z1 = true) (z5 : Option Value) (hz5 : qx_ns z5 = true) (z6 : Option Value) (hz6 : qx_ns z6 = true) (H : qx_H), k14 l0 l2 l3 l4 H = some (r, H') → qx_V (xE st d) R (xc159 st) (14, [some (.ref l0), z1, some (.int l2), some (.int l3), some (.int l4), z5, z6], [], H)) (hR : R (some (.int r)) H') (l0 : Nat) (l2 : Int32) (l3 : Int32) (l4 : Int32) (z1 : Option Value) (hz1 : qx_ns z1 = true) (z5 : Option Value) (hz5 : qx_ns z5 = true) (z6 : Option Value) (hz6 : qx_ns z6 = true) (H : qx_H) (h : fm_X11_worked_b158 k14 l0 l2 l3 l4 H = some (r, H')) : qx_V (xE st d) R (xc159 st) (158, [some (.ref l0), z1, some (.int l2), some (.int l3), some (.int l4), z5, z6], [], H) := by
  unfold fm_X11_worked_b158 at h
  refine qv_run 2 (σ := (14, [some (.ref l0), z1, some (.int l2), some (.int l3), some (.int (l4 + 1)), z5, z6], [], H)) rfl ?_
  exact hk14 l0 l2 l3 (l4 + 1) z1 hz1 z5 hz5 z6 hz6 H h
theorem tlb_X11_worked_158 {r : Int32} {H' : qx_H} (k14 : Nat → Int32 → Int32 → Int32 → qx_H → Option (Int32 × qx_H)) (hk14 : ∀ (l0 : Nat) (l2 : Int32) (l3 : Int32) (l4 : Int32) (H : qx_H), k14 l0 l2 l3 l4 H = some (r, H') → H'.length = H.length) (l0 : Nat) (l2 : Int32) (l3 : Int32) (l4 : Int32) (H : qx_H) (h : fm_X11_worked_b158 k14 l0 l2 l3 l4 H = some (r, H')) : H'.length = H.length := by
  unfold fm_X11_worked_b158 at h
  exact hk14 l0 l2 l3 (l4 + 1) H h
theorem tb_X11_worked_88 {st : xT} {d : Nat} {R : Option Value → qx_H → Prop} (hd : 1 ≤ d) {r : Int32} {H' : qx_H} (k14 : Nat → Int32 → Int32 → Int32 → qx_H → Option (Int32 × qx_H)) (hk14 : ∀ (l0 : Nat) (l2 : Int32) (l3 : Int32) (l4 : Int32) (z1 : Option Value) (hz1 : qx_ns z1 = true) (z5 : Option Value) (hz5 : qx_ns z5 = true) (z6 : Option Value) (hz6 : qx_ns z6 = true) (H : qx_H), k14 l0 l2 l3 l4 H = some (r, H') → qx_V (xE st d) R (xc159 st) (14, [some (.ref l0), z1, some (.int l2), some (.int l3), some (.int l4), z5, z6], [], H)) (hR : R (some (.int r)) H') (l0 : Nat) (l2 : Int32) (l3 : Int32) (l4 : Int32) (t0 : Int32) (t1 : Int32) (t2 : Nat) (z1 : Option Value) (hz1 : qx_ns z1 = true) (z5 : Option Value) (hz5 : qx_ns z5 = true) (z6 : Option Value) (hz6 : qx_ns z6 = true) (H : qx_H) (h : fm_X11_worked_b88 k14 l0 l2 l3 l4 t0 t1 t2 H = some (r, H')) : qx_V (xE st d) R (xc159 st) (88, [some (.ref l0), z1, some (.int l2), some (.int l3), some (.int l4), z5, z6], [.int t0, .int t1, .ref t2], H) := by
  unfold fm_X11_worked_b88 at h
  obtain ⟨H88, e88, h⟩ := qv_bind h
  refine qv_ast rfl e88 ?_
  refine qv_run 2 (σ := (158, [some (.ref l0), z1, some (.int l2), some (.int (l3 + 1)), some (.int l4), z5, z6], [], H88)) rfl ?_
  exact tb_X11_worked_158 hd _ hk14 hR l0 l2 (l3 + 1) l4 z1 hz1 z5 hz5 z6 hz6 H88 h
theorem tlb_X11_worked_88 {r : Int32} {H' : qx_H} (k14 : Nat → Int32 → Int32 → Int32 → qx_H → Option (Int32 × qx_H)) (hk14 : ∀ (l0 : Nat) (l2 : Int32) (l3 : Int32) (l4 : Int32) (H : qx_H), k14 l0 l2 l3 l4 H = some (r, H') → H'.length = H.length) (l0 : Nat) (l2 : Int32) (l3 : Int32) (l4 : Int32) (t0 : Int32) (t1 : Int32) (t2 : Nat) (H : qx_H) (h : fm_X11_worked_b88 k14 l0 l2 l3 l4 t0 t1 t2 H = some (r, H')) : H'.length = H.length := by
  unfold fm_X11_worked_b88 at h
  obtain ⟨H88, e88, h⟩ := qv_bind h
  have q_H88 := hp_ast_len e88
  have q_end := tlb_X11_worked_158 _ hk14 l0 l2 (l3 + 1) l4 H88 h
  omega
theorem tb_X11_worked_66 {st : xT} {d : Nat} {R : Option Value → qx_H → Prop} (hd : 1 ≤ d) {r : Int32} {H' : qx_H} (k14 : Nat → Int32 → Int32 → Int32 → qx_H → Option (Int32 × qx_H)) (hk14 : ∀ (l0 : Nat) (l2 : Int32) (l3 : Int32) (l4 : Int32) (z1 : Option Value) (hz1 : qx_ns z1 = true) (z5 : Option Value) (hz5 : qx_ns z5 = true) (z6 : Option Value) (hz6 : qx_ns z6 = true) (H : qx_H), k14 l0 l2 l3 l4 H = some (r, H') → qx_V (xE st d) R (xc159 st) (14, [some (.ref l0), z1, some (.int l2), some (.int l3), some (.int l4), z5, z6], [], H)) (hR : R (some (.int r)) H') (l0 : Nat) (l2 : Int32) (l3 : Int32) (l4 : Int32) (l5 : Int32) (l6 : Int32) (z1 : Option Value) (hz1 : qx_ns z1 = true) (H : qx_H) (h : fm_X11_worked_b66 k14 l0 l2 l3 l4 l5 l6 H = some (r, H')) : qx_V (xE st d) R (xc159 st) (66, [some (.ref l0), z1, some (.int l2), some (.int l3), some (.int l4), some (.int l5), some (.int l6)], [], H) := by
  unfold fm_X11_worked_b66 at h
  refine qv_run 1 (σ := (67, [some (.ref l0), z1, some (.int l2), some (.int l3), some (.int l4), some (.int l5), some (.int l6)], [.ref l0], H)) rfl ?_
  obtain ⟨v67, e67, h⟩ := qv_bind h
  refine qv_getR rfl e67 ?_
  refine qv_br (c := l5 = 0) (a := (76, [some (.ref l0), z1, some (.int l2), some (.int l3), some (.int l4), some (.int l5), some (.int l6)], [.int l3, .ref v67], H)) (b := (81, [some (.ref l0), z1, some (.int l2), some (.int l3), some (.int l4), some (.int l5), some (.int l6)], [.int l3, .ref v67], H)) 3 rfl (fun c73 => ?_) (fun c73 => ?_)
  · replace h := qv_pos c73 h
    refine qv_run 2 (σ := (88, [some (.ref l0), z1, some (.int l2), some (.int l3), some (.int l4), some (.int l5), some (.int l6)], [.int l6, .int l3, .ref v67], H)) rfl ?_
    exact tb_X11_worked_88 hd _ hk14 hR l0 l2 l3 l4 l6 l3 v67 z1 hz1 (some (.int l5)) rfl (some (.int l6)) rfl H h
  · replace h := qv_neg c73 h
    refine qv_run 1 (σ := (82, [some (.ref l0), z1, some (.int l2), some (.int l3), some (.int l4), some (.int l5), some (.int l6)], [.ref l0, .int l3, .ref v67], H)) rfl ?_
    obtain ⟨v82, e82, h⟩ := qv_bind h
    refine qv_getR rfl e82 ?_
    refine qv_run 1 (σ := (87, [some (.ref l0), z1, some (.int l2), some (.int l3), some (.int l4), some (.int l5), some (.int l6)], [.int l6, .ref v82, .int l3, .ref v67], H)) rfl ?_
    obtain ⟨v87, e87, h⟩ := qv_bind h
    refine qv_ald rfl e87 ?_
    exact tb_X11_worked_88 hd _ hk14 hR l0 l2 l3 l4 v87 l3 v67 z1 hz1 (some (.int l5)) rfl (some (.int l6)) rfl H h
theorem tlb_X11_worked_66 {r : Int32} {H' : qx_H} (k14 : Nat → Int32 → Int32 → Int32 → qx_H → Option (Int32 × qx_H)) (hk14 : ∀ (l0 : Nat) (l2 : Int32) (l3 : Int32) (l4 : Int32) (H : qx_H), k14 l0 l2 l3 l4 H = some (r, H') → H'.length = H.length) (l0 : Nat) (l2 : Int32) (l3 : Int32) (l4 : Int32) (l5 : Int32) (l6 : Int32) (H : qx_H) (h : fm_X11_worked_b66 k14 l0 l2 l3 l4 l5 l6 H = some (r, H')) : H'.length = H.length := by
  unfold fm_X11_worked_b66 at h
  obtain ⟨v67, e67, h⟩ := qv_bind h
  by_cases c73 : l5 = 0
  · replace h := qv_pos c73 h
    exact tlb_X11_worked_88 _ hk14 l0 l2 l3 l4 l6 l3 v67 H h
  · replace h := qv_neg c73 h
    obtain ⟨v82, e82, h⟩ := qv_bind h
    obtain ⟨v87, e87, h⟩ := qv_bind h
    exact tlb_X11_worked_88 _ hk14 l0 l2 l3 l4 v87 l3 v67 H h
theorem tb_X11_worked_14 {st : xT} {d : Nat} {R : Option Value → qx_H → Prop} (hd : 1 ≤ d) {r : Int32} {H' : qx_H} (hR : R (some (.int r)) H') : ∀ (n : Nat) (l0 : Nat) (l2 : Int32) (l3 : Int32) (l4 : Int32) (z1 : Option Value) (hz1 : qx_ns z1 = true) (z5 : Option Value) (hz5 : qx_ns z5 = true) (z6 : Option Value) (hz6 : qx_ns z6 = true) (H : qx_H) (h : fm_X11_worked_b14 n l0 l2 l3 l4 H = some (r, H')), qx_V (xE st d) R (xc159 st) (14, [some (.ref l0), z1, some (.int l2), some (.int l3), some (.int l4), z5, z6], [], H) := by
  intro n
  induction n with
  | zero => intro l0 l2 l3 l4 z1 hz1 z5 hz5 z6 hz6 H h; exact nomatch (show (none : Option (Int32 × qx_H)) = some (r, H') from h)
  | succ n ih =>
    intro l0 l2 l3 l4 z1 hz1 z5 hz5 z6 hz6 H h
    unfold fm_X11_worked_b14 at h
    refine qv_run 2 (σ := (17, [some (.ref l0), z1, some (.int l2), some (.int l3), some (.int l4), z5, z6], [.ref l0, .int l4], H)) rfl ?_
    obtain ⟨v17, e17, h⟩ := qv_bind h
    refine qv_getR rfl e17 ?_
    refine qv_run 1 (σ := (21, [some (.ref l0), z1, some (.int l2), some (.int l3), some (.int l4), z5, z6], [.int l2, .ref v17, .int l4], H)) rfl ?_
    obtain ⟨v21, e21, h⟩ := qv_bind h
    refine qv_ald rfl e21 ?_
    refine qv_br (c := v21 ≤ l4) (a := (164, [some (.ref l0), z1, some (.int l2), some (.int l3), some (.int l4), z5, z6], [], H)) (b := (25, [some (.ref l0), z1, some (.int l2), some (.int l3), some (.int l4), z5, z6], [], H)) 1 rfl (fun c22 => ?_) (fun c22 => ?_)
    · replace h := qv_pos c22 h
      refine qv_run 1 (σ := (165, [some (.ref l0), z1, some (.int l2), some (.int l3), some (.int l4), z5, z6], [.ref l0], H)) rfl ?_
      obtain ⟨v165, e165, h⟩ := qv_bind h
      refine qv_getR rfl e165 ?_
      refine qv_run 1 (σ := (169, [some (.ref l0), z1, some (.int l2), some (.int l3), some (.int l4), z5, z6], [.int 0, .ref v165], H)) rfl ?_
      obtain ⟨v169, e169, h⟩ := qv_bind h
      refine qv_ald rfl e169 ?_
      obtain ⟨rfl, rfl⟩ := qv_pair h
      exact qv_reti rfl hR
    · replace h := qv_neg c22 h
      refine qv_run 1 (σ := (26, [some (.ref l0), z1, some (.int l2), some (.int l3), some (.int l4), z5, z6], [.ref l0], H)) rfl ?_
      obtain ⟨v26, e26, h⟩ := qv_bind h
      refine qv_getR rfl e26 ?_
      refine qv_run 7 (σ := (37, [some (.ref l0), z1, some (.int l2), some (.int l3), some (.int l4), z5, z6], [.int ((l2 + 1) + (2 * l4)), .ref v26], H)) rfl ?_
      obtain ⟨v37, e37, h⟩ := qv_bind h
      refine qv_ald rfl e37 ?_
      refine qv_run 2 (σ := (41, [some (.ref l0), z1, some (.int l2), some (.int l3), some (.int l4), some (.int v37), z6], [.ref l0], H)) rfl ?_
      obtain ⟨v41, e41, h⟩ := qv_bind h
      refine qv_getR rfl e41 ?_
      refine qv_run 7 (σ := (52, [some (.ref l0), z1, some (.int l2), some (.int l3), some (.int l4), some (.int v37), z6], [.int ((l2 + 2) + (2 * l4)), .ref v41], H)) rfl ?_
      obtain ⟨v52, e52, h⟩ := qv_bind h
      refine qv_ald rfl e52 ?_
      refine qv_br (c := v37 = 0) (a := (66, [some (.ref l0), z1, some (.int l2), some (.int l3), some (.int l4), some (.int v37), some (.int v52)], [], H)) (b := (60, [some (.ref l0), z1, some (.int l2), some (.int l3), some (.int l4), some (.int v37), some (.int v52)], [], H)) 3 rfl (fun c57 => ?_) (fun c57 => ?_)
      · replace h := qv_pos c57 h
        exact tb_X11_worked_66 hd _ ih hR l0 l2 l3 l4 v37 v52 z1 hz1 H h
      · replace h := qv_neg c57 h
        refine qv_br (c := v37 = 1) (a := (66, [some (.ref l0), z1, some (.int l2), some (.int l3), some (.int l4), some (.int v37), some (.int v52)], [], H)) (b := (95, [some (.ref l0), z1, some (.int l2), some (.int l3), some (.int l4), some (.int v37), some (.int v52)], [], H)) 3 rfl (fun c63 => ?_) (fun c63 => ?_)
        · replace h := qv_pos c63 h
          exact tb_X11_worked_66 hd _ ih hR l0 l2 l3 l4 v37 v52 z1 hz1 H h
        · replace h := qv_neg c63 h
          refine qv_br (c := v37 = 2) (a := (101, [some (.ref l0), z1, some (.int l2), some (.int l3), some (.int l4), some (.int v37), some (.int v52)], [], H)) (b := (128, [some (.ref l0), z1, some (.int l2), some (.int l3), some (.int l4), some (.int v37), some (.int v52)], [], H)) 3 rfl (fun c98 => ?_) (fun c98 => ?_)
          · replace h := qv_pos c98 h
            refine qv_run 1 (σ := (102, [some (.ref l0), z1, some (.int l2), some (.int l3), some (.int l4), some (.int v37), some (.int v52)], [.ref l0], H)) rfl ?_
            obtain ⟨v102, e102, h⟩ := qv_bind h
            refine qv_getR rfl e102 ?_
            refine qv_run 4 (σ := (109, [some (.ref l0), z1, some (.int l2), some (.int l3), some (.int l4), some (.int v37), some (.int v52)], [.ref l0, .int (l3 - 1), .ref v102], H)) rfl ?_
            obtain ⟨v109, e109, h⟩ := qv_bind h
            refine qv_getR rfl e109 ?_
            refine qv_run 3 (σ := (115, [some (.ref l0), z1, some (.int l2), some (.int l3), some (.int l4), some (.int v37), some (.int v52)], [.int (l3 - 1), .ref v109, .int (l3 - 1), .ref v102], H)) rfl ?_
            obtain ⟨v115, e115, h⟩ := qv_bind h
            refine qv_ald rfl e115 ?_
            refine qv_dia (c := v115 = 0) (a := (119, [some (.ref l0), z1, some (.int l2), some (.int l3), some (.int l4), some (.int v37), some (.int v52)], [.int (l3 - 1), .ref v102], H)) (b := (123, [some (.ref l0), z1, some (.int l2), some (.int l3), some (.int l4), some (.int v37), some (.int v52)], [.int (l3 - 1), .ref v102], H)) (σ' := (124, [some (.ref l0), z1, some (.int l2), some (.int l3), some (.int l4), some (.int v37), some (.int v52)], [.int (if v115 = 0 then 1 else 0), .int (l3 - 1), .ref v102], H)) 1 rfl ?_ (fun c116 kk => qv_run 2 (σ := (124, [some (.ref l0), z1, some (.int l2), some (.int l3), some (.int l4), some (.int v37), some (.int v52)], [.int 1, .int (l3 - 1), .ref v102], H)) rfl (qv_eq (by simp only [if_pos c116]) kk)) (fun c116 kk => qv_run 1 (σ := (124, [some (.ref l0), z1, some (.int l2), some (.int l3), some (.int l4), some (.int v37), some (.int v52)], [.int 0, .int (l3 - 1), .ref v102], H)) rfl (qv_eq (by simp only [if_neg c116]) kk))
            obtain ⟨H124, e124, h⟩ := qv_bind h
            refine qv_ast rfl e124 ?_
            refine qv_run 1 (σ := (158, [some (.ref l0), z1, some (.int l2), some (.int l3), some (.int l4), some (.int v37), some (.int v52)], [], H124)) rfl ?_
            exact tb_X11_worked_158 hd _ ih hR l0 l2 l3 l4 z1 hz1 (some (.int v37)) rfl (some (.int v52)) rfl H124 h
          · replace h := qv_neg c98 h
            refine qv_run 2 (σ := (132, [some (.ref l0), z1, some (.int l2), some (.int (l3 + (-1))), some (.int l4), some (.int v37), some (.int v52)], [.ref l0], H)) rfl ?_
            obtain ⟨v132, e132, h⟩ := qv_bind h
            refine qv_getR rfl e132 ?_
            refine qv_run 5 (σ := (141, [some (.ref l0), z1, some (.int l2), some (.int (l3 + (-1))), some (.int l4), some (.int v37), some (.int v52)], [.ref l0, .int v52, .int ((l3 + (-1)) - 1), .ref v132], H)) rfl ?_
            obtain ⟨v141, e141, h⟩ := qv_bind h
            refine qv_getR rfl e141 ?_
            refine qv_run 3 (σ := (147, [some (.ref l0), z1, some (.int l2), some (.int (l3 + (-1))), some (.int l4), some (.int v37), some (.int v52)], [.int ((l3 + (-1)) - 1), .ref v141, .int v52, .int ((l3 + (-1)) - 1), .ref v132], H)) rfl ?_
            obtain ⟨v147, e147, h⟩ := qv_bind h
            refine qv_ald rfl e147 ?_
            refine qv_run 1 (σ := (149, [some (.ref l0), z1, some (.int l2), some (.int (l3 + (-1))), some (.int l4), some (.int v37), some (.int v52)], [.ref l0, .int v147, .int v52, .int ((l3 + (-1)) - 1), .ref v132], H)) rfl ?_
            obtain ⟨v149, e149, h⟩ := qv_bind h
            refine qv_getR rfl e149 ?_
            refine qv_run 1 (σ := (153, [some (.ref l0), z1, some (.int l2), some (.int (l3 + (-1))), some (.int l4), some (.int v37), some (.int v52)], [.int (l3 + (-1)), .ref v149, .int v147, .int v52, .int ((l3 + (-1)) - 1), .ref v132], H)) rfl ?_
            obtain ⟨v153, e153, h⟩ := qv_bind h
            refine qv_ald rfl e153 ?_
            refine qv_call [.int v52, .int v147, .int v153] rfl rfl rfl (Nat.le_of_ble_eq_true rfl) (th_X11_joined (by omega) rfl) rfl ?_
            obtain ⟨H157, e157, h⟩ := qv_bind h
            refine qv_ast rfl e157 ?_
            exact tb_X11_worked_158 hd _ ih hR l0 l2 (l3 + (-1)) l4 z1 hz1 (some (.int v37)) rfl (some (.int v52)) rfl H157 h
theorem tlb_X11_worked_14 {r : Int32} {H' : qx_H} : ∀ (n : Nat) (l0 : Nat) (l2 : Int32) (l3 : Int32) (l4 : Int32) (H : qx_H) (h : fm_X11_worked_b14 n l0 l2 l3 l4 H = some (r, H')), H'.length = H.length := by
  intro n
  induction n with
  | zero => intro l0 l2 l3 l4 H h; exact nomatch (show (none : Option (Int32 × qx_H)) = some (r, H') from h)
  | succ n ih =>
    intro l0 l2 l3 l4 H h
    unfold fm_X11_worked_b14 at h
    obtain ⟨v17, e17, h⟩ := qv_bind h
    obtain ⟨v21, e21, h⟩ := qv_bind h
    by_cases c22 : v21 ≤ l4
    · replace h := qv_pos c22 h
      obtain ⟨v165, e165, h⟩ := qv_bind h
      obtain ⟨v169, e169, h⟩ := qv_bind h
      obtain ⟨rfl, rfl⟩ := qv_pair h
      rfl
    · replace h := qv_neg c22 h
      obtain ⟨v26, e26, h⟩ := qv_bind h
      obtain ⟨v37, e37, h⟩ := qv_bind h
      obtain ⟨v41, e41, h⟩ := qv_bind h
      obtain ⟨v52, e52, h⟩ := qv_bind h
      by_cases c57 : v37 = 0
      · replace h := qv_pos c57 h
        exact tlb_X11_worked_66 _ ih l0 l2 l3 l4 v37 v52 H h
      · replace h := qv_neg c57 h
        by_cases c63 : v37 = 1
        · replace h := qv_pos c63 h
          exact tlb_X11_worked_66 _ ih l0 l2 l3 l4 v37 v52 H h
        · replace h := qv_neg c63 h
          by_cases c98 : v37 = 2
          · replace h := qv_pos c98 h
            obtain ⟨v102, e102, h⟩ := qv_bind h
            obtain ⟨v109, e109, h⟩ := qv_bind h
            obtain ⟨v115, e115, h⟩ := qv_bind h
            obtain ⟨H124, e124, h⟩ := qv_bind h
            have q_H124 := hp_ast_len e124
            have q_end := tlb_X11_worked_158 _ ih l0 l2 l3 l4 H124 h
            omega
          · replace h := qv_neg c98 h
            obtain ⟨v132, e132, h⟩ := qv_bind h
            obtain ⟨v141, e141, h⟩ := qv_bind h
            obtain ⟨v147, e147, h⟩ := qv_bind h
            obtain ⟨v149, e149, h⟩ := qv_bind h
            obtain ⟨v153, e153, h⟩ := qv_bind h
            obtain ⟨H157, e157, h⟩ := qv_bind h
            have q_H157 := hp_ast_len e157
            have q_end := tlb_X11_worked_158 _ ih l0 l2 (l3 + (-1)) l4 H157 h
            omega
theorem tb_X11_worked_0 {st : xT} {d : Nat} {R : Option Value → qx_H → Prop} (hd : 1 ≤ d) {r : Int32} {H' : qx_H} (hR : R (some (.int r)) H') (a0 : Nat) (a1 : Int32) (H : qx_H) (h : fm_X11_worked a0 a1 H = some (r, H')) : qx_V (xE st d) R (xc159 st) (0, [some (.ref a0), some (.int a1), none, none, none, none, none], [], H) := by
  unfold fm_X11_worked at h
  refine qv_run 10 (σ := (14, [some (.ref a0), some (.int a1), some (.int (181 + (125 * a1))), some (.int 0), some (.int 0), none, none], [], H)) rfl ?_
  exact tb_X11_worked_14 hd hR 5000 a0 (181 + (125 * a1)) 0 0 (some (.int a1)) rfl none rfl none rfl H h
theorem tlb_X11_worked_0 {r : Int32} {H' : qx_H} (a0 : Nat) (a1 : Int32) (H : qx_H) (h : fm_X11_worked a0 a1 H = some (r, H')) : H'.length = H.length := by
  unfold fm_X11_worked at h
  exact tlb_X11_worked_14 5000 a0 (181 + (125 * a1)) 0 0 H h
theorem th_X11_worked {st : xT} {d : Nat} (hd : 2 ≤ d) {a0 : Nat} {a1 : Int32} {H : qx_H} {r : Int32} {H' : qx_H} (h : fm_X11_worked a0 a1 H = some (r, H')) : xE st d 159 [.ref a0, .int a1] H (some (.int r)) H' := by
  obtain ⟨d, rfl⟩ : ∃ d', d = d' + 1 := ⟨d - 1, by omega⟩
  exact xE_of (xe159 st) xl159 (Nat.le_of_ble_eq_true rfl) (ls := [some (.ref a0), some (.int a1), none, none, none, none, none]) rfl (tb_X11_worked_0 (by omega) ⟨rfl, rfl⟩ a0 a1 H h)
theorem tl_X11_worked {a0 : Nat} {a1 : Int32} {H : qx_H} {r : Int32} {H' : qx_H} (h : fm_X11_worked a0 a1 H = some (r, H')) : H'.length = H.length := tlb_X11_worked_0 a0 a1 H h
def fm_X11_holdsTold (a0 : Nat) (a1 : Int32) (H : qx_H) : Option (Int32 × qx_H) := if hp_is H a0 9 = true then ((fm_X11_hasText a0 0 H).bind fun v2 => if v2 = 0 then ((fm_X11_its a0 a1 1 H).bind fun v13 => some (20 + v13, H)) else ((hp_gR H a0 9 10).bind fun v19 => (fm_X11_its a0 a1 1 H).bind fun v27 => (hp_ast H v19 109 v27).bind fun H30 => (hp_gR H30 a0 9 10).bind fun v32 => (hp_gR H30 a0 9 0).bind fun v38 => (hp_ald H30 v38 0).bind fun v42 => if hp_is H30 a0 9 = true then ((fm_X11_its a0 a1 3 H30).bind fun v46 => (hp_ast H30 v32 100 (v42 - v46)).bind fun H50 => (hp_gR H50 a0 9 10).bind fun v52 => if hp_is H50 a0 9 = true then ((fm_X11_its a0 a1 2 H50).bind fun v60 => (hp_ast H50 v52 104 v60).bind fun H63 => if hp_is H63 a0 9 = true then (ob2 (fm_X11_worked a0 0 H63) fun v66 H66 => some (v66, H66)) else none) else none) else none)) else none
theorem tb_X11_holdsTold_0 {st : xT} {d : Nat} {R : Option Value → qx_H → Prop} (hd : 2 ≤ d) {r : Int32} {H' : qx_H} (hR : R (some (.int r)) H') (a0 : Nat) (a1 : Int32) (H : qx_H) (h : fm_X11_holdsTold a0 a1 H = some (r, H')) : qx_V (xE st d) R (xc160 st) (0, [some (.ref a0), some (.int a1)], [], H) := by
  unfold fm_X11_holdsTold at h
  refine qv_run 2 (σ := (2, [some (.ref a0), some (.int a1)], [.int 0, .ref a0], H)) rfl ?_
  obtain ⟨g2, h⟩ := qv_guard h
  obtain ⟨v2, e2, h⟩ := qv_bind h
  refine qv_callV [.int 0] rfl rfl rfl (Nat.le_of_ble_eq_true rfl) g2 (th_X11_hasText (by omega) e2) rfl ?_
  refine qv_br (c := v2 = 0) (a := (8, [some (.ref a0), some (.int a1)], [], H)) (b := (18, [some (.ref a0), some (.int a1)], [], H)) 1 rfl (fun c5 => ?_) (fun c5 => ?_)
  · replace h := qv_pos c5 h
    refine qv_run 4 (σ := (13, [some (.ref a0), some (.int a1)], [.int 1, .int a1, .ref a0, .int 20], H)) rfl ?_
    obtain ⟨v13, e13, h⟩ := qv_bind h
    refine qv_callV [.int a1, .int 1] rfl rfl rfl (Nat.le_of_ble_eq_true rfl) g2 (th_X11_its (by omega) e13) rfl ?_
    refine qv_run 1 (σ := (17, [some (.ref a0), some (.int a1)], [.int (20 + v13)], H)) rfl ?_
    obtain ⟨rfl, rfl⟩ := qv_pair h
    exact qv_reti rfl hR
  · replace h := qv_neg c5 h
    refine qv_run 1 (σ := (19, [some (.ref a0), some (.int a1)], [.ref a0], H)) rfl ?_
    obtain ⟨v19, e19, h⟩ := qv_bind h
    refine qv_getR rfl e19 ?_
    refine qv_run 4 (σ := (27, [some (.ref a0), some (.int a1)], [.int 1, .int a1, .ref a0, .int 109, .ref v19], H)) rfl ?_
    obtain ⟨v27, e27, h⟩ := qv_bind h
    refine qv_callV [.int a1, .int 1] rfl rfl rfl (Nat.le_of_ble_eq_true rfl) g2 (th_X11_its (by omega) e27) rfl ?_
    obtain ⟨H30, e30, h⟩ := qv_bind h
    refine qv_ast rfl e30 ?_
    refine qv_run 1 (σ := (32, [some (.ref a0), some (.int a1)], [.ref a0], H30)) rfl ?_
    obtain ⟨v32, e32, h⟩ := qv_bind h
    refine qv_getR rfl e32 ?_
    refine qv_run 2 (σ := (38, [some (.ref a0), some (.int a1)], [.ref a0, .int 100, .ref v32], H30)) rfl ?_
    obtain ⟨v38, e38, h⟩ := qv_bind h
    refine qv_getR rfl e38 ?_
    refine qv_run 1 (σ := (42, [some (.ref a0), some (.int a1)], [.int 0, .ref v38, .int 100, .ref v32], H30)) rfl ?_
    obtain ⟨v42, e42, h⟩ := qv_bind h
    refine qv_ald rfl e42 ?_
    refine qv_run 3 (σ := (46, [some (.ref a0), some (.int a1)], [.int 3, .int a1, .ref a0, .int v42, .int 100, .ref v32], H30)) rfl ?_
    obtain ⟨g46, h⟩ := qv_guard h
    obtain ⟨v46, e46, h⟩ := qv_bind h
    refine qv_callV [.int a1, .int 3] rfl rfl rfl (Nat.le_of_ble_eq_true rfl) g46 (th_X11_its (by omega) e46) rfl ?_
    refine qv_run 1 (σ := (50, [some (.ref a0), some (.int a1)], [.int (v42 - v46), .int 100, .ref v32], H30)) rfl ?_
    obtain ⟨H50, e50, h⟩ := qv_bind h
    refine qv_ast rfl e50 ?_
    refine qv_run 1 (σ := (52, [some (.ref a0), some (.int a1)], [.ref a0], H50)) rfl ?_
    obtain ⟨v52, e52, h⟩ := qv_bind h
    refine qv_getR rfl e52 ?_
    refine qv_run 4 (σ := (60, [some (.ref a0), some (.int a1)], [.int 2, .int a1, .ref a0, .int 104, .ref v52], H50)) rfl ?_
    obtain ⟨g60, h⟩ := qv_guard h
    obtain ⟨v60, e60, h⟩ := qv_bind h
    refine qv_callV [.int a1, .int 2] rfl rfl rfl (Nat.le_of_ble_eq_true rfl) g60 (th_X11_its (by omega) e60) rfl ?_
    obtain ⟨H63, e63, h⟩ := qv_bind h
    refine qv_ast rfl e63 ?_
    refine qv_run 2 (σ := (66, [some (.ref a0), some (.int a1)], [.int 0, .ref a0], H63)) rfl ?_
    obtain ⟨g66, h⟩ := qv_guard h
    obtain ⟨v66, H66, e66, h⟩ := qv_bind2 h
    refine qv_callV [.int 0] rfl rfl rfl (Nat.le_of_ble_eq_true rfl) g66 (th_X11_worked (by omega) e66) (tl_X11_worked e66) ?_
    obtain ⟨rfl, rfl⟩ := qv_pair h
    exact qv_reti rfl hR
theorem tlb_X11_holdsTold_0 {r : Int32} {H' : qx_H} (a0 : Nat) (a1 : Int32) (H : qx_H) (h : fm_X11_holdsTold a0 a1 H = some (r, H')) : H'.length = H.length := by
  unfold fm_X11_holdsTold at h
  obtain ⟨g2, h⟩ := qv_guard h
  obtain ⟨v2, e2, h⟩ := qv_bind h
  by_cases c5 : v2 = 0
  · replace h := qv_pos c5 h
    obtain ⟨v13, e13, h⟩ := qv_bind h
    obtain ⟨rfl, rfl⟩ := qv_pair h
    rfl
  · replace h := qv_neg c5 h
    obtain ⟨v19, e19, h⟩ := qv_bind h
    obtain ⟨v27, e27, h⟩ := qv_bind h
    obtain ⟨H30, e30, h⟩ := qv_bind h
    have q_H30 := hp_ast_len e30
    obtain ⟨v32, e32, h⟩ := qv_bind h
    obtain ⟨v38, e38, h⟩ := qv_bind h
    obtain ⟨v42, e42, h⟩ := qv_bind h
    obtain ⟨g46, h⟩ := qv_guard h
    obtain ⟨v46, e46, h⟩ := qv_bind h
    obtain ⟨H50, e50, h⟩ := qv_bind h
    have q_H50 := hp_ast_len e50
    obtain ⟨v52, e52, h⟩ := qv_bind h
    obtain ⟨g60, h⟩ := qv_guard h
    obtain ⟨v60, e60, h⟩ := qv_bind h
    obtain ⟨H63, e63, h⟩ := qv_bind h
    have q_H63 := hp_ast_len e63
    obtain ⟨g66, h⟩ := qv_guard h
    obtain ⟨v66, H66, e66, h⟩ := qv_bind2 h
    have q_H66 := tl_X11_worked e66
    obtain ⟨rfl, rfl⟩ := qv_pair h
    omega
theorem th_X11_holdsTold {st : xT} {d : Nat} (hd : 3 ≤ d) {a0 : Nat} {a1 : Int32} {H : qx_H} {r : Int32} {H' : qx_H} (h : fm_X11_holdsTold a0 a1 H = some (r, H')) : xE st d 160 [.ref a0, .int a1] H (some (.int r)) H' := by
  obtain ⟨d, rfl⟩ : ∃ d', d = d' + 1 := ⟨d - 1, by omega⟩
  exact xE_of (xe160 st) xl160 (Nat.le_of_ble_eq_true rfl) (ls := [some (.ref a0), some (.int a1)]) rfl (tb_X11_holdsTold_0 (by omega) ⟨rfl, rfl⟩ a0 a1 H h)
theorem tl_X11_holdsTold {a0 : Nat} {a1 : Int32} {H : qx_H} {r : Int32} {H' : qx_H} (h : fm_X11_holdsTold a0 a1 H = some (r, H')) : H'.length = H.length := tlb_X11_holdsTold_0 a0 a1 H h
def fm_X11_slipped (a0 : Nat) (a1 : Int32) (H : qx_H) : Option Int32 := if hp_is H a0 9 = true then ((fm_X11_its a0 a1 1 H).bind fun v5 => (hp_gR H a0 9 0).bind fun v12 => (hp_ald H v12 0).bind fun v16 => (fm_X11_its a0 a1 3 H).bind fun v20 => some (((20 + v5) / 2) - (fm_X11_held (v16 - v20) 0 9))) else none
theorem tb_X11_slipped_0 {st : xT} {d : Nat} {R : Option Value → qx_H → Prop} (hd : 1 ≤ d) {r : Int32} {H : qx_H} (hR : R (some (.int r)) H) (a0 : Nat) (a1 : Int32) (h : fm_X11_slipped a0 a1 H = some r) : qx_V (xE st d) R (xc161 st) (0, [some (.ref a0), some (.int a1)], [], H) := by
  unfold fm_X11_slipped at h
  refine qv_run 4 (σ := (5, [some (.ref a0), some (.int a1)], [.int 1, .int a1, .ref a0, .int 20], H)) rfl ?_
  obtain ⟨g5, h⟩ := qv_guard h
  obtain ⟨v5, e5, h⟩ := qv_bind h
  refine qv_callV [.int a1, .int 1] rfl rfl rfl (Nat.le_of_ble_eq_true rfl) g5 (th_X11_its (by omega) e5) rfl ?_
  refine qv_run 2 (σ := (10, [some (.ref a0), some (.int a1)], [.int 2, .int (20 + v5)], H)) rfl ?_
  refine qv_div rfl (by decide) ?_
  refine qv_run 1 (σ := (12, [some (.ref a0), some (.int a1)], [.ref a0, .int ((20 + v5) / 2)], H)) rfl ?_
  obtain ⟨v12, e12, h⟩ := qv_bind h
  refine qv_getR rfl e12 ?_
  refine qv_run 1 (σ := (16, [some (.ref a0), some (.int a1)], [.int 0, .ref v12, .int ((20 + v5) / 2)], H)) rfl ?_
  obtain ⟨v16, e16, h⟩ := qv_bind h
  refine qv_ald rfl e16 ?_
  refine qv_run 3 (σ := (20, [some (.ref a0), some (.int a1)], [.int 3, .int a1, .ref a0, .int v16, .int ((20 + v5) / 2)], H)) rfl ?_
  obtain ⟨v20, e20, h⟩ := qv_bind h
  refine qv_callV [.int a1, .int 3] rfl rfl rfl (Nat.le_of_ble_eq_true rfl) g5 (th_X11_its (by omega) e20) rfl ?_
  refine qv_run 3 (σ := (27, [some (.ref a0), some (.int a1)], [.int 9, .int 0, .int (v16 - v20), .int ((20 + v5) / 2)], H)) rfl ?_
  refine qv_call [.int (v16 - v20), .int 0, .int 9] rfl rfl rfl (Nat.le_of_ble_eq_true rfl) (th_X11_held (by omega) rfl) rfl ?_
  refine qv_run 1 (σ := (31, [some (.ref a0), some (.int a1)], [.int (((20 + v5) / 2) - (fm_X11_held (v16 - v20) 0 9))], H)) rfl ?_
  cases h
  exact qv_reti rfl hR
theorem th_X11_slipped {st : xT} {d : Nat} (hd : 2 ≤ d) {a0 : Nat} {a1 : Int32} {r : Int32} {H : qx_H} (h : fm_X11_slipped a0 a1 H = some r) : xE st d 161 [.ref a0, .int a1] H (some (.int r)) H := by
  obtain ⟨d, rfl⟩ : ∃ d', d = d' + 1 := ⟨d - 1, by omega⟩
  exact xE_of (xe161 st) xl161 (Nat.le_of_ble_eq_true rfl) (ls := [some (.ref a0), some (.int a1)]) rfl (tb_X11_slipped_0 (by omega) ⟨rfl, rfl⟩ a0 a1 h)
def fm_X11_holds_b114 (l3 : Int32) (H : qx_H) : Option (Int32 × qx_H) := some ((fm_X11_held l3 0 99), H)
def fm_X11_holds (a0 : Nat) (a1 : Int32) (H : qx_H) : Option (Int32 × qx_H) := if hp_is H a0 9 = true then ((fm_X11_its a0 a1 1 H).bind fun v3 => (fm_X11_its a0 a1 0 H).bind fun v15 => if v15 = 1 then ((fm_X11_slipped a0 a1 H).bind fun v58 => fm_X11_holds_b114 v58 H) else if v15 = 2 then (fm_X11_holds_b114 (2 * (20 + v3)) H) else if v15 = 3 then (fm_X11_holds_b114 10 H) else if v15 = 4 then ((fm_X11_slipped a0 a1 H).bind fun v83 => fm_X11_holds_b114 (v83 + v3) H) else if v15 = 5 then (fm_X11_holds_b114 ((2 * (20 + v3)) - 15) H) else if v15 = 6 then (ob2 (fm_X11_holdsTold a0 a1 H) fun v107 H107 => fm_X11_holds_b114 v107 H107) else (fm_X11_holds_b114 (20 + v3) H)) else none
theorem tb_X11_holds_114 {st : xT} {d : Nat} {R : Option Value → qx_H → Prop} (hd : 3 ≤ d) {r : Int32} {H' : qx_H} (hR : R (some (.int r)) H') (l3 : Int32) (z0 : Option Value) (hz0 : qx_ns z0 = true) (z1 : Option Value) (hz1 : qx_ns z1 = true) (z2 : Option Value) (hz2 : qx_ns z2 = true) (H : qx_H) (h : fm_X11_holds_b114 l3 H = some (r, H')) : qx_V (xE st d) R (xc162 st) (114, [z0, z1, z2, some (.int l3)], [], H) := by
  unfold fm_X11_holds_b114 at h
  refine qv_run 3 (σ := (118, [z0, z1, z2, some (.int l3)], [.int 99, .int 0, .int l3], H)) rfl ?_
  refine qv_call [.int l3, .int 0, .int 99] rfl rfl rfl (Nat.le_of_ble_eq_true rfl) (th_X11_held (by omega) rfl) rfl ?_
  obtain ⟨rfl, rfl⟩ := qv_pair h
  exact qv_reti rfl hR
theorem tlb_X11_holds_114 {r : Int32} {H' : qx_H} (l3 : Int32) (H : qx_H) (h : fm_X11_holds_b114 l3 H = some (r, H')) : H'.length = H.length := by
  unfold fm_X11_holds_b114 at h
  obtain ⟨rfl, rfl⟩ := qv_pair h
  rfl
theorem tb_X11_holds_0 {st : xT} {d : Nat} {R : Option Value → qx_H → Prop} (hd : 3 ≤ d) {r : Int32} {H' : qx_H} (hR : R (some (.int r)) H') (a0 : Nat) (a1 : Int32) (H : qx_H) (h : fm_X11_holds a0 a1 H = some (r, H')) : qx_V (xE st d) R (xc162 st) (0, [some (.ref a0), some (.int a1), none, none], [], H) := by
  unfold fm_X11_holds at h
  refine qv_run 3 (σ := (3, [some (.ref a0), some (.int a1), none, none], [.int 1, .int a1, .ref a0], H)) rfl ?_
  obtain ⟨g3, h⟩ := qv_guard h
  obtain ⟨v3, e3, h⟩ := qv_bind h
  refine qv_callV [.int a1, .int 1] rfl rfl rfl (Nat.le_of_ble_eq_true rfl) g3 (th_X11_its (by omega) e3) rfl ?_
  refine qv_run 8 (σ := (15, [some (.ref a0), some (.int a1), some (.int v3), some (.int (20 + v3))], [.int 0, .int a1, .ref a0], H)) rfl ?_
  obtain ⟨v15, e15, h⟩ := qv_bind h
  refine qv_callV [.int a1, .int 0] rfl rfl rfl (Nat.le_of_ble_eq_true rfl) g3 (th_X11_its (by omega) e15) rfl ?_
  refine qv_run 1 (σ := (qx_swt v15 114 [(1, 56), (2, 65), (3, 75), (4, 81), (5, 92), (6, 105)], [some (.ref a0), some (.int a1), some (.int v3), some (.int (20 + v3))], [], H)) rfl ?_
  refine qv_swt (fun c18_0 => ?_) (fun c18_0 => ?_)
  · replace h := qv_pos c18_0 h
    refine qv_run 2 (σ := (58, [some (.ref a0), some (.int a1), some (.int v3), some (.int (20 + v3))], [.int a1, .ref a0], H)) rfl ?_
    obtain ⟨v58, e58, h⟩ := qv_bind h
    refine qv_callV [.int a1] rfl rfl rfl (Nat.le_of_ble_eq_true rfl) g3 (th_X11_slipped (by omega) e58) rfl ?_
    refine qv_run 2 (σ := (114, [some (.ref a0), some (.int a1), some (.int v3), some (.int v58)], [], H)) rfl ?_
    exact tb_X11_holds_114 hd hR v58 (some (.ref a0)) rfl (some (.int a1)) rfl (some (.int v3)) rfl H h
  · replace h := qv_neg c18_0 h
    refine qv_swt (fun c18_1 => ?_) (fun c18_1 => ?_)
    · replace h := qv_pos c18_1 h
      refine qv_run 7 (σ := (114, [some (.ref a0), some (.int a1), some (.int v3), some (.int (2 * (20 + v3)))], [], H)) rfl ?_
      exact tb_X11_holds_114 hd hR (2 * (20 + v3)) (some (.ref a0)) rfl (some (.int a1)) rfl (some (.int v3)) rfl H h
    · replace h := qv_neg c18_1 h
      refine qv_swt (fun c18_2 => ?_) (fun c18_2 => ?_)
      · replace h := qv_pos c18_2 h
        refine qv_run 3 (σ := (114, [some (.ref a0), some (.int a1), some (.int v3), some (.int 10)], [], H)) rfl ?_
        exact tb_X11_holds_114 hd hR 10 (some (.ref a0)) rfl (some (.int a1)) rfl (some (.int v3)) rfl H h
      · replace h := qv_neg c18_2 h
        refine qv_swt (fun c18_3 => ?_) (fun c18_3 => ?_)
        · replace h := qv_pos c18_3 h
          refine qv_run 2 (σ := (83, [some (.ref a0), some (.int a1), some (.int v3), some (.int (20 + v3))], [.int a1, .ref a0], H)) rfl ?_
          obtain ⟨v83, e83, h⟩ := qv_bind h
          refine qv_callV [.int a1] rfl rfl rfl (Nat.le_of_ble_eq_true rfl) g3 (th_X11_slipped (by omega) e83) rfl ?_
          refine qv_run 4 (σ := (114, [some (.ref a0), some (.int a1), some (.int v3), some (.int (v83 + v3))], [], H)) rfl ?_
          exact tb_X11_holds_114 hd hR (v83 + v3) (some (.ref a0)) rfl (some (.int a1)) rfl (some (.int v3)) rfl H h
        · replace h := qv_neg c18_3 h
          refine qv_swt (fun c18_4 => ?_) (fun c18_4 => ?_)
          · replace h := qv_pos c18_4 h
            refine qv_run 9 (σ := (114, [some (.ref a0), some (.int a1), some (.int v3), some (.int ((2 * (20 + v3)) - 15))], [], H)) rfl ?_
            exact tb_X11_holds_114 hd hR ((2 * (20 + v3)) - 15) (some (.ref a0)) rfl (some (.int a1)) rfl (some (.int v3)) rfl H h
          · replace h := qv_neg c18_4 h
            refine qv_swt (fun c18_5 => ?_) (fun c18_5 => ?_)
            · replace h := qv_pos c18_5 h
              refine qv_run 2 (σ := (107, [some (.ref a0), some (.int a1), some (.int v3), some (.int (20 + v3))], [.int a1, .ref a0], H)) rfl ?_
              obtain ⟨v107, H107, e107, h⟩ := qv_bind2 h
              refine qv_callV [.int a1] rfl rfl rfl (Nat.le_of_ble_eq_true rfl) g3 (th_X11_holdsTold (by omega) e107) (tl_X11_holdsTold e107) ?_
              refine qv_run 2 (σ := (114, [some (.ref a0), some (.int a1), some (.int v3), some (.int v107)], [], H107)) rfl ?_
              exact tb_X11_holds_114 hd hR v107 (some (.ref a0)) rfl (some (.int a1)) rfl (some (.int v3)) rfl H107 h
            · replace h := qv_neg c18_5 h
              refine qv_sw0 ?_
              exact tb_X11_holds_114 hd hR (20 + v3) (some (.ref a0)) rfl (some (.int a1)) rfl (some (.int v3)) rfl H h
theorem tlb_X11_holds_0 {r : Int32} {H' : qx_H} (a0 : Nat) (a1 : Int32) (H : qx_H) (h : fm_X11_holds a0 a1 H = some (r, H')) : H'.length = H.length := by
  unfold fm_X11_holds at h
  obtain ⟨g3, h⟩ := qv_guard h
  obtain ⟨v3, e3, h⟩ := qv_bind h
  obtain ⟨v15, e15, h⟩ := qv_bind h
  by_cases c18_0 : v15 = 1
  · replace h := qv_pos c18_0 h
    obtain ⟨v58, e58, h⟩ := qv_bind h
    exact tlb_X11_holds_114 v58 H h
  · replace h := qv_neg c18_0 h
    by_cases c18_1 : v15 = 2
    · replace h := qv_pos c18_1 h
      exact tlb_X11_holds_114 (2 * (20 + v3)) H h
    · replace h := qv_neg c18_1 h
      by_cases c18_2 : v15 = 3
      · replace h := qv_pos c18_2 h
        exact tlb_X11_holds_114 10 H h
      · replace h := qv_neg c18_2 h
        by_cases c18_3 : v15 = 4
        · replace h := qv_pos c18_3 h
          obtain ⟨v83, e83, h⟩ := qv_bind h
          exact tlb_X11_holds_114 (v83 + v3) H h
        · replace h := qv_neg c18_3 h
          by_cases c18_4 : v15 = 5
          · replace h := qv_pos c18_4 h
            exact tlb_X11_holds_114 ((2 * (20 + v3)) - 15) H h
          · replace h := qv_neg c18_4 h
            by_cases c18_5 : v15 = 6
            · replace h := qv_pos c18_5 h
              obtain ⟨v107, H107, e107, h⟩ := qv_bind2 h
              have q_H107 := tl_X11_holdsTold e107
              have q_end := tlb_X11_holds_114 v107 H107 h
              omega
            · replace h := qv_neg c18_5 h
              exact tlb_X11_holds_114 (20 + v3) H h
theorem th_X11_holds {st : xT} {d : Nat} (hd : 4 ≤ d) {a0 : Nat} {a1 : Int32} {H : qx_H} {r : Int32} {H' : qx_H} (h : fm_X11_holds a0 a1 H = some (r, H')) : xE st d 162 [.ref a0, .int a1] H (some (.int r)) H' := by
  obtain ⟨d, rfl⟩ : ∃ d', d = d' + 1 := ⟨d - 1, by omega⟩
  exact xE_of (xe162 st) xl162 (Nat.le_of_ble_eq_true rfl) (ls := [some (.ref a0), some (.int a1), none, none]) rfl (tb_X11_holds_0 (by omega) ⟨rfl, rfl⟩ a0 a1 H h)
theorem tl_X11_holds {a0 : Nat} {a1 : Int32} {H : qx_H} {r : Int32} {H' : qx_H} (h : fm_X11_holds a0 a1 H = some (r, H')) : H'.length = H.length := tlb_X11_holds_0 a0 a1 H h
def fm_X11_takes (a0 : Nat) (a1 : Int32) (H : qx_H) : Option Int32 := if hp_is H a0 9 = true then ((fm_X11_its a0 a1 0 H).bind fun v3 => if v3 = 2 then (some 2) else (if v3 = 4 then (some 2) else (if v3 = 5 then (some 2) else (some 1)))) else none
theorem tb_X11_takes_0 {st : xT} {d : Nat} {R : Option Value → qx_H → Prop} (hd : 1 ≤ d) {r : Int32} {H : qx_H} (hR : R (some (.int r)) H) (a0 : Nat) (a1 : Int32) (h : fm_X11_takes a0 a1 H = some r) : qx_V (xE st d) R (xc163 st) (0, [some (.ref a0), some (.int a1), none], [], H) := by
  unfold fm_X11_takes at h
  refine qv_run 3 (σ := (3, [some (.ref a0), some (.int a1), none], [.int 0, .int a1, .ref a0], H)) rfl ?_
  obtain ⟨g3, h⟩ := qv_guard h
  obtain ⟨v3, e3, h⟩ := qv_bind h
  refine qv_callV [.int a1, .int 0] rfl rfl rfl (Nat.le_of_ble_eq_true rfl) g3 (th_X11_its (by omega) e3) rfl ?_
  refine qv_br (c := v3 = 2) (a := (22, [some (.ref a0), some (.int a1), some (.int v3)], [], H)) (b := (12, [some (.ref a0), some (.int a1), some (.int v3)], [], H)) 4 rfl (fun c9 => ?_) (fun c9 => ?_)
  · replace h := qv_pos c9 h
    refine qv_run 2 (σ := (27, [some (.ref a0), some (.int a1), some (.int v3)], [.int 2], H)) rfl ?_
    cases h
    exact qv_reti rfl hR
  · replace h := qv_neg c9 h
    refine qv_br (c := v3 = 4) (a := (22, [some (.ref a0), some (.int a1), some (.int v3)], [], H)) (b := (17, [some (.ref a0), some (.int a1), some (.int v3)], [], H)) 3 rfl (fun c14 => ?_) (fun c14 => ?_)
    · replace h := qv_pos c14 h
      refine qv_run 2 (σ := (27, [some (.ref a0), some (.int a1), some (.int v3)], [.int 2], H)) rfl ?_
      cases h
      exact qv_reti rfl hR
    · replace h := qv_neg c14 h
      refine qv_br (c := v3 = 5) (a := (22, [some (.ref a0), some (.int a1), some (.int v3)], [], H)) (b := (26, [some (.ref a0), some (.int a1), some (.int v3)], [], H)) 3 rfl (fun c19 => ?_) (fun c19 => ?_)
      · replace h := qv_pos c19 h
        refine qv_run 2 (σ := (27, [some (.ref a0), some (.int a1), some (.int v3)], [.int 2], H)) rfl ?_
        cases h
        exact qv_reti rfl hR
      · replace h := qv_neg c19 h
        refine qv_run 1 (σ := (27, [some (.ref a0), some (.int a1), some (.int v3)], [.int 1], H)) rfl ?_
        cases h
        exact qv_reti rfl hR
theorem th_X11_takes {st : xT} {d : Nat} (hd : 2 ≤ d) {a0 : Nat} {a1 : Int32} {r : Int32} {H : qx_H} (h : fm_X11_takes a0 a1 H = some r) : xE st d 163 [.ref a0, .int a1] H (some (.int r)) H := by
  obtain ⟨d, rfl⟩ : ∃ d', d = d' + 1 := ⟨d - 1, by omega⟩
  exact xE_of (xe163 st) xl163 (Nat.le_of_ble_eq_true rfl) (ls := [some (.ref a0), some (.int a1), none]) rfl (tb_X11_takes_0 (by omega) ⟨rfl, rfl⟩ a0 a1 h)
def fm_X11_strength (a0 : Nat) (a1 : Int32) (H : qx_H) : Option (Int32 × qx_H) := if hp_is H a0 9 = true then (ob2 (fm_X11_holds a0 (fm_X11_lessOf a1) H) fun v5 H5 => if hp_is H5 a0 9 = true then (ob2 (fm_X11_holds a0 (fm_X11_otherOf a1) H5) fun v13 H13 => if hp_is H13 a0 9 = true then ((fm_X11_of a0 a1 1 H13).bind fun v20 => some ((v5 + v13) - v20, H13)) else none) else none) else none
theorem tb_X11_strength_0 {st : xT} {d : Nat} {R : Option Value → qx_H → Prop} (hd : 4 ≤ d) {r : Int32} {H' : qx_H} (hR : R (some (.int r)) H') (a0 : Nat) (a1 : Int32) (H : qx_H) (h : fm_X11_strength a0 a1 H = some (r, H')) : qx_V (xE st d) R (xc164 st) (0, [some (.ref a0), some (.int a1)], [], H) := by
  unfold fm_X11_strength at h
  refine qv_run 2 (σ := (2, [some (.ref a0), some (.int a1)], [.int a1, .ref a0], H)) rfl ?_
  refine qv_call [.int a1] rfl rfl rfl (Nat.le_of_ble_eq_true rfl) (th_X11_lessOf (by omega) rfl) rfl ?_
  obtain ⟨g5, h⟩ := qv_guard h
  obtain ⟨v5, H5, e5, h⟩ := qv_bind2 h
  refine qv_callV [.int (fm_X11_lessOf a1)] rfl rfl rfl (Nat.le_of_ble_eq_true rfl) g5 (th_X11_holds (by omega) e5) (tl_X11_holds e5) ?_
  refine qv_run 2 (σ := (10, [some (.ref a0), some (.int a1)], [.int a1, .ref a0, .int v5], H5)) rfl ?_
  refine qv_call [.int a1] rfl rfl rfl (Nat.le_of_ble_eq_true rfl) (th_X11_otherOf (by omega) rfl) rfl ?_
  obtain ⟨g13, h⟩ := qv_guard h
  obtain ⟨v13, H13, e13, h⟩ := qv_bind2 h
  refine qv_callV [.int (fm_X11_otherOf a1)] rfl rfl rfl (Nat.le_of_ble_eq_true rfl) g13 (th_X11_holds (by omega) e13) (tl_X11_holds e13) ?_
  refine qv_run 4 (σ := (20, [some (.ref a0), some (.int a1)], [.int 1, .int a1, .ref a0, .int (v5 + v13)], H13)) rfl ?_
  obtain ⟨g20, h⟩ := qv_guard h
  obtain ⟨v20, e20, h⟩ := qv_bind h
  refine qv_callV [.int a1, .int 1] rfl rfl rfl (Nat.le_of_ble_eq_true rfl) g20 (th_X11_of (by omega) e20) rfl ?_
  refine qv_run 1 (σ := (24, [some (.ref a0), some (.int a1)], [.int ((v5 + v13) - v20)], H13)) rfl ?_
  obtain ⟨rfl, rfl⟩ := qv_pair h
  exact qv_reti rfl hR
theorem tlb_X11_strength_0 {r : Int32} {H' : qx_H} (a0 : Nat) (a1 : Int32) (H : qx_H) (h : fm_X11_strength a0 a1 H = some (r, H')) : H'.length = H.length := by
  unfold fm_X11_strength at h
  obtain ⟨g5, h⟩ := qv_guard h
  obtain ⟨v5, H5, e5, h⟩ := qv_bind2 h
  have q_H5 := tl_X11_holds e5
  obtain ⟨g13, h⟩ := qv_guard h
  obtain ⟨v13, H13, e13, h⟩ := qv_bind2 h
  have q_H13 := tl_X11_holds e13
  obtain ⟨g20, h⟩ := qv_guard h
  obtain ⟨v20, e20, h⟩ := qv_bind h
  obtain ⟨rfl, rfl⟩ := qv_pair h
  omega
theorem th_X11_strength {st : xT} {d : Nat} (hd : 5 ≤ d) {a0 : Nat} {a1 : Int32} {H : qx_H} {r : Int32} {H' : qx_H} (h : fm_X11_strength a0 a1 H = some (r, H')) : xE st d 164 [.ref a0, .int a1] H (some (.int r)) H' := by
  obtain ⟨d, rfl⟩ : ∃ d', d = d' + 1 := ⟨d - 1, by omega⟩
  exact xE_of (xe164 st) xl164 (Nat.le_of_ble_eq_true rfl) (ls := [some (.ref a0), some (.int a1)]) rfl (tb_X11_strength_0 (by omega) ⟨rfl, rfl⟩ a0 a1 H h)
theorem tl_X11_strength {a0 : Nat} {a1 : Int32} {H : qx_H} {r : Int32} {H' : qx_H} (h : fm_X11_strength a0 a1 H = some (r, H')) : H'.length = H.length := tlb_X11_strength_0 a0 a1 H h
def fm_X11_endsAt_b32 (k4 : Int32 → Int32 → Int32 → Int32 → qx_H → Option Int32) (l0 : Int32) (l1 : Int32) (l3 : Int32) (t0 : Int32) (t1 : Int32) (H : qx_H) : Option Int32 := k4 l0 l1 (t1 + t0) (l3 + 1) H
def fm_X11_endsAt_b31 (k4 : Int32 → Int32 → Int32 → Int32 → qx_H → Option Int32) (l0 : Int32) (l1 : Int32) (l3 : Int32) (t0 : Int32) (H : qx_H) : Option Int32 := fm_X11_endsAt_b32 k4 l0 l1 l3 0 t0 H
def fm_X11_endsAt_b4 : Nat → Int32 → Int32 → Int32 → Int32 → qx_H → Option Int32
  | 0, _, _, _, _, _ => none
  | n + 1, l0, l1, l2, l3, H => if 31 ≤ l3 then (some l2) else (if (fm_X11_isIn l0 l3) = 0 then (fm_X11_endsAt_b31 (fm_X11_endsAt_b4 n) l0 l1 l3 l2 H) else (fm_X11_endsAt_b4 n l0 l1 (l2 + (if (fm_X11_ends l3 l1) = 0 then 0 else 1)) (l3 + 1) H))
def fm_X11_endsAt (a0 : Int32) (a1 : Int32) (H : qx_H) : Option Int32 := fm_X11_endsAt_b4 5000 a0 a1 0 0 H
theorem tb_X11_endsAt_32 {st : xT} {d : Nat} {R : Option Value → qx_H → Prop} (hd : 3 ≤ d) {r : Int32} {H : qx_H} (k4 : Int32 → Int32 → Int32 → Int32 → qx_H → Option Int32) (hk4 : ∀ (l0 : Int32) (l1 : Int32) (l2 : Int32) (l3 : Int32), k4 l0 l1 l2 l3 H = some r → qx_V (xE st d) R (xc165 st) (4, [some (.int l0), some (.int l1), some (.int l2), some (.int l3)], [], H)) (hR : R (some (.int r)) H) (l0 : Int32) (l1 : Int32) (l3 : Int32) (t0 : Int32) (t1 : Int32) (z2 : Option Value) (hz2 : qx_ns z2 = true) (h : fm_X11_endsAt_b32 k4 l0 l1 l3 t0 t1 H = some r) : qx_V (xE st d) R (xc165 st) (32, [some (.int l0), some (.int l1), z2, some (.int l3)], [.int t0, .int t1], H) := by
  unfold fm_X11_endsAt_b32 at h
  refine qv_run 4 (σ := (4, [some (.int l0), some (.int l1), some (.int (t1 + t0)), some (.int (l3 + 1))], [], H)) rfl ?_
  exact hk4 l0 l1 (t1 + t0) (l3 + 1) h
theorem tb_X11_endsAt_31 {st : xT} {d : Nat} {R : Option Value → qx_H → Prop} (hd : 3 ≤ d) {r : Int32} {H : qx_H} (k4 : Int32 → Int32 → Int32 → Int32 → qx_H → Option Int32) (hk4 : ∀ (l0 : Int32) (l1 : Int32) (l2 : Int32) (l3 : Int32), k4 l0 l1 l2 l3 H = some r → qx_V (xE st d) R (xc165 st) (4, [some (.int l0), some (.int l1), some (.int l2), some (.int l3)], [], H)) (hR : R (some (.int r)) H) (l0 : Int32) (l1 : Int32) (l3 : Int32) (t0 : Int32) (z2 : Option Value) (hz2 : qx_ns z2 = true) (h : fm_X11_endsAt_b31 k4 l0 l1 l3 t0 H = some r) : qx_V (xE st d) R (xc165 st) (31, [some (.int l0), some (.int l1), z2, some (.int l3)], [.int t0], H) := by
  unfold fm_X11_endsAt_b31 at h
  refine qv_run 1 (σ := (32, [some (.int l0), some (.int l1), z2, some (.int l3)], [.int 0, .int t0], H)) rfl ?_
  exact tb_X11_endsAt_32 hd _ hk4 hR l0 l1 l3 0 t0 z2 hz2 h
theorem tb_X11_endsAt_4 {st : xT} {d : Nat} {R : Option Value → qx_H → Prop} (hd : 3 ≤ d) {r : Int32} {H : qx_H} (hR : R (some (.int r)) H) : ∀ (n : Nat) (l0 : Int32) (l1 : Int32) (l2 : Int32) (l3 : Int32) (h : fm_X11_endsAt_b4 n l0 l1 l2 l3 H = some r), qx_V (xE st d) R (xc165 st) (4, [some (.int l0), some (.int l1), some (.int l2), some (.int l3)], [], H) := by
  intro n
  induction n with
  | zero => intro l0 l1 l2 l3 h; exact nomatch (show (none : Option Int32) = some r from h)
  | succ n ih =>
    intro l0 l1 l2 l3 h
    unfold fm_X11_endsAt_b4 at h
    refine qv_br (c := 31 ≤ l3) (a := (40, [some (.int l0), some (.int l1), some (.int l2), some (.int l3)], [], H)) (b := (10, [some (.int l0), some (.int l1), some (.int l2), some (.int l3)], [], H)) 3 rfl (fun c7 => ?_) (fun c7 => ?_)
    · replace h := qv_pos c7 h
      refine qv_run 1 (σ := (41, [some (.int l0), some (.int l1), some (.int l2), some (.int l3)], [.int l2], H)) rfl ?_
      cases h
      exact qv_reti rfl hR
    · replace h := qv_neg c7 h
      refine qv_run 3 (σ := (13, [some (.int l0), some (.int l1), some (.int l2), some (.int l3)], [.int l3, .int l0, .int l2], H)) rfl ?_
      refine qv_call [.int l0, .int l3] rfl rfl rfl (Nat.le_of_ble_eq_true rfl) (th_X11_isIn (by omega) rfl) rfl ?_
      refine qv_br (c := (fm_X11_isIn l0 l3) = 0) (a := (31, [some (.int l0), some (.int l1), some (.int l2), some (.int l3)], [.int l2], H)) (b := (19, [some (.int l0), some (.int l1), some (.int l2), some (.int l3)], [.int l2], H)) 1 rfl (fun c16 => ?_) (fun c16 => ?_)
      · replace h := qv_pos c16 h
        exact tb_X11_endsAt_31 hd _ ih hR l0 l1 l3 l2 (some (.int l2)) rfl h
      · replace h := qv_neg c16 h
        refine qv_run 2 (σ := (21, [some (.int l0), some (.int l1), some (.int l2), some (.int l3)], [.int l1, .int l3, .int l2], H)) rfl ?_
        refine qv_call [.int l3, .int l1] rfl rfl rfl (Nat.le_of_ble_eq_true rfl) (th_X11_ends (by omega) rfl) rfl ?_
        refine qv_dia (c := (fm_X11_ends l3 l1) = 0) (a := (31, [some (.int l0), some (.int l1), some (.int l2), some (.int l3)], [.int l2], H)) (b := (27, [some (.int l0), some (.int l1), some (.int l2), some (.int l3)], [.int l2], H)) (σ' := (32, [some (.int l0), some (.int l1), some (.int l2), some (.int l3)], [.int (if (fm_X11_ends l3 l1) = 0 then 0 else 1), .int l2], H)) 1 rfl ?_ (fun c24 kk => qv_run 1 (σ := (32, [some (.int l0), some (.int l1), some (.int l2), some (.int l3)], [.int 0, .int l2], H)) rfl (qv_eq (by simp only [if_pos c24]) kk)) (fun c24 kk => qv_run 2 (σ := (32, [some (.int l0), some (.int l1), some (.int l2), some (.int l3)], [.int 1, .int l2], H)) rfl (qv_eq (by simp only [if_neg c24]) kk))
        refine qv_run 4 (σ := (4, [some (.int l0), some (.int l1), some (.int (l2 + (if (fm_X11_ends l3 l1) = 0 then 0 else 1))), some (.int (l3 + 1))], [], H)) rfl ?_
        exact ih l0 l1 (l2 + (if (fm_X11_ends l3 l1) = 0 then 0 else 1)) (l3 + 1) h
theorem tb_X11_endsAt_0 {st : xT} {d : Nat} {R : Option Value → qx_H → Prop} (hd : 3 ≤ d) {r : Int32} {H : qx_H} (hR : R (some (.int r)) H) (a0 : Int32) (a1 : Int32) (h : fm_X11_endsAt a0 a1 H = some r) : qx_V (xE st d) R (xc165 st) (0, [some (.int a0), some (.int a1), none, none], [], H) := by
  unfold fm_X11_endsAt at h
  refine qv_run 4 (σ := (4, [some (.int a0), some (.int a1), some (.int 0), some (.int 0)], [], H)) rfl ?_
  exact tb_X11_endsAt_4 hd hR 5000 a0 a1 0 0 h
theorem th_X11_endsAt {st : xT} {d : Nat} (hd : 4 ≤ d) {a0 : Int32} {a1 : Int32} {r : Int32} {H : qx_H} (h : fm_X11_endsAt a0 a1 H = some r) : xE st d 165 [.int a0, .int a1] H (some (.int r)) H := by
  obtain ⟨d, rfl⟩ : ∃ d', d = d' + 1 := ⟨d - 1, by omega⟩
  exact xE_of (xe165 st) xl165 (Nat.le_of_ble_eq_true rfl) (ls := [some (.int a0), some (.int a1), none, none]) rfl (tb_X11_endsAt_0 (by omega) ⟨rfl, rfl⟩ a0 a1 h)
def fm_X11_tiedBy (a0 : Nat) (a1 : Int32) (a2 : Int32) (H : qx_H) : Option qx_H := (hp_gR H a0 9 0).bind fun v1 => (hp_ast H v1 ((8 + (4 * a1)) + 2) a2).bind fun H13 => (hp_gR H13 a0 9 0).bind fun v15 => (hp_gR H13 a0 9 0).bind fun v27 => (hp_ald H13 v27 0).bind fun v31 => (hp_ast H13 v15 ((8 + (4 * a1)) + 3) v31).bind fun H32 => some H32
theorem tb_X11_tiedBy_0 {st : xT} {d : Nat} {R : Option Value → qx_H → Prop} (hd : 0 ≤ d) {H' : qx_H} (hR : R (none) H') (a0 : Nat) (a1 : Int32) (a2 : Int32) (H : qx_H) (h : fm_X11_tiedBy a0 a1 a2 H = some H') : qx_V (xE st d) R (xc166 st) (0, [some (.ref a0), some (.int a1), some (.int a2)], [], H) := by
  unfold fm_X11_tiedBy at h
  refine qv_run 1 (σ := (1, [some (.ref a0), some (.int a1), some (.int a2)], [.ref a0], H)) rfl ?_
  obtain ⟨v1, e1, h⟩ := qv_bind h
  refine qv_getR rfl e1 ?_
  refine qv_run 8 (σ := (13, [some (.ref a0), some (.int a1), some (.int a2)], [.int a2, .int ((8 + (4 * a1)) + 2), .ref v1], H)) rfl ?_
  obtain ⟨H13, e13, h⟩ := qv_bind h
  refine qv_ast rfl e13 ?_
  refine qv_run 1 (σ := (15, [some (.ref a0), some (.int a1), some (.int a2)], [.ref a0], H13)) rfl ?_
  obtain ⟨v15, e15, h⟩ := qv_bind h
  refine qv_getR rfl e15 ?_
  refine qv_run 8 (σ := (27, [some (.ref a0), some (.int a1), some (.int a2)], [.ref a0, .int ((8 + (4 * a1)) + 3), .ref v15], H13)) rfl ?_
  obtain ⟨v27, e27, h⟩ := qv_bind h
  refine qv_getR rfl e27 ?_
  refine qv_run 1 (σ := (31, [some (.ref a0), some (.int a1), some (.int a2)], [.int 0, .ref v27, .int ((8 + (4 * a1)) + 3), .ref v15], H13)) rfl ?_
  obtain ⟨v31, e31, h⟩ := qv_bind h
  refine qv_ald rfl e31 ?_
  obtain ⟨H32, e32, h⟩ := qv_bind h
  refine qv_ast rfl e32 ?_
  cases h
  exact qv_ret0 rfl hR
theorem tlb_X11_tiedBy_0 {H' : qx_H} (a0 : Nat) (a1 : Int32) (a2 : Int32) (H : qx_H) (h : fm_X11_tiedBy a0 a1 a2 H = some H') : H'.length = H.length := by
  unfold fm_X11_tiedBy at h
  obtain ⟨v1, e1, h⟩ := qv_bind h
  obtain ⟨H13, e13, h⟩ := qv_bind h
  have q_H13 := hp_ast_len e13
  obtain ⟨v15, e15, h⟩ := qv_bind h
  obtain ⟨v27, e27, h⟩ := qv_bind h
  obtain ⟨v31, e31, h⟩ := qv_bind h
  obtain ⟨H32, e32, h⟩ := qv_bind h
  have q_H32 := hp_ast_len e32
  cases h
  omega
theorem th_X11_tiedBy {st : xT} {d : Nat} (hd : 1 ≤ d) {a0 : Nat} {a1 : Int32} {a2 : Int32} {H : qx_H} {H' : qx_H} (h : fm_X11_tiedBy a0 a1 a2 H = some H') : xE st d 166 [.ref a0, .int a1, .int a2] H (none) H' := by
  obtain ⟨d, rfl⟩ : ∃ d', d = d' + 1 := ⟨d - 1, by omega⟩
  exact xE_of (xe166 st) xl166 (Nat.le_of_ble_eq_true rfl) (ls := [some (.ref a0), some (.int a1), some (.int a2)]) rfl (tb_X11_tiedBy_0 (by omega) ⟨rfl, rfl⟩ a0 a1 a2 H h)
theorem tl_X11_tiedBy {a0 : Nat} {a1 : Int32} {a2 : Int32} {H : qx_H} {H' : qx_H} (h : fm_X11_tiedBy a0 a1 a2 H = some H') : H'.length = H.length := tlb_X11_tiedBy_0 a0 a1 a2 H h
def fm_X11_tie_b24 (l0 : Nat) (H : qx_H) : Option (Int32 × qx_H) := if hp_is H l0 9 = true then (ob2 (fm_X11_error l0 1 H) fun v26 H26 => some (v26, H26)) else none
def fm_X11_tie (a0 : Nat) (a1 : Int32) (a2 : Int32) (a3 : Int32) (H : qx_H) : Option (Int32 × qx_H) := if (fm_X11_isKnot a1) = 0 then (fm_X11_tie_b24 a0 H) else (if (fm_X11_in a2 0 69) = 0 then (fm_X11_tie_b24 a0 H) else (if (fm_X11_isHand a3) = 0 then (fm_X11_tie_b24 a0 H) else (if hp_is H a0 9 = true then ((fm_X11_its a0 a1 0 H).bind fun v35 => (fm_X11_its a0 a1 1 H).bind fun v42 => (hp_gR H a0 9 0).bind fun v49 => (hp_ast H v49 ((8 + (4 * a1)) + 0) (a2 / 10)).bind fun H64 => (hp_gR H64 a0 9 0).bind fun v66 => (hp_ast H64 v66 ((8 + (4 * a1)) + 1) (ji_rem a2 10)).bind fun H81 => if hp_is H81 a0 9 = true then ((fm_X11_tiedBy a0 a1 a3 H81).bind fun H85 => some ((10 * v35) + v42, H85)) else none) else none)))
theorem tb_X11_tie_24 {st : xT} {d : Nat} {R : Option Value → qx_H → Prop} (hd : 2 ≤ d) {r : Int32} {H' : qx_H} (hR : R (some (.int r)) H') (l0 : Nat) (z1 : Option Value) (hz1 : qx_ns z1 = true) (z2 : Option Value) (hz2 : qx_ns z2 = true) (z3 : Option Value) (hz3 : qx_ns z3 = true) (H : qx_H) (h : fm_X11_tie_b24 l0 H = some (r, H')) : qx_V (xE st d) R (xc167 st) (24, [some (.ref l0), z1, z2, z3, none], [], H) := by
  unfold fm_X11_tie_b24 at h
  refine qv_run 2 (σ := (26, [some (.ref l0), z1, z2, z3, none], [.int 1, .ref l0], H)) rfl ?_
  obtain ⟨g26, h⟩ := qv_guard h
  obtain ⟨v26, H26, e26, h⟩ := qv_bind2 h
  refine qv_callV [.int 1] rfl rfl rfl (Nat.le_of_ble_eq_true rfl) g26 (th_X11_error (by omega) e26) (tl_X11_error e26) ?_
  obtain ⟨rfl, rfl⟩ := qv_pair h
  exact qv_reti rfl hR
theorem tlb_X11_tie_24 {r : Int32} {H' : qx_H} (l0 : Nat) (H : qx_H) (h : fm_X11_tie_b24 l0 H = some (r, H')) : H'.length = H.length := by
  unfold fm_X11_tie_b24 at h
  obtain ⟨g26, h⟩ := qv_guard h
  obtain ⟨v26, H26, e26, h⟩ := qv_bind2 h
  have q_H26 := tl_X11_error e26
  obtain ⟨rfl, rfl⟩ := qv_pair h
  omega
theorem tb_X11_tie_0 {st : xT} {d : Nat} {R : Option Value → qx_H → Prop} (hd : 2 ≤ d) {r : Int32} {H' : qx_H} (hR : R (some (.int r)) H') (a0 : Nat) (a1 : Int32) (a2 : Int32) (a3 : Int32) (H : qx_H) (h : fm_X11_tie a0 a1 a2 a3 H = some (r, H')) : qx_V (xE st d) R (xc167 st) (0, [some (.ref a0), some (.int a1), some (.int a2), some (.int a3), none], [], H) := by
  unfold fm_X11_tie at h
  refine qv_run 1 (σ := (1, [some (.ref a0), some (.int a1), some (.int a2), some (.int a3), none], [.int a1], H)) rfl ?_
  refine qv_call [.int a1] rfl rfl rfl (Nat.le_of_ble_eq_true rfl) (th_X11_isKnot (by omega) rfl) rfl ?_
  refine qv_br (c := (fm_X11_isKnot a1) = 0) (a := (24, [some (.ref a0), some (.int a1), some (.int a2), some (.int a3), none], [], H)) (b := (7, [some (.ref a0), some (.int a1), some (.int a2), some (.int a3), none], [], H)) 1 rfl (fun c4 => ?_) (fun c4 => ?_)
  · replace h := qv_pos c4 h
    exact tb_X11_tie_24 hd hR a0 (some (.int a1)) rfl (some (.int a2)) rfl (some (.int a3)) rfl H h
  · replace h := qv_neg c4 h
    refine qv_run 3 (σ := (11, [some (.ref a0), some (.int a1), some (.int a2), some (.int a3), none], [.int 69, .int 0, .int a2], H)) rfl ?_
    refine qv_call [.int a2, .int 0, .int 69] rfl rfl rfl (Nat.le_of_ble_eq_true rfl) (th_X11_in (by omega) rfl) rfl ?_
    refine qv_br (c := (fm_X11_in a2 0 69) = 0) (a := (24, [some (.ref a0), some (.int a1), some (.int a2), some (.int a3), none], [], H)) (b := (17, [some (.ref a0), some (.int a1), some (.int a2), some (.int a3), none], [], H)) 1 rfl (fun c14 => ?_) (fun c14 => ?_)
    · replace h := qv_pos c14 h
      exact tb_X11_tie_24 hd hR a0 (some (.int a1)) rfl (some (.int a2)) rfl (some (.int a3)) rfl H h
    · replace h := qv_neg c14 h
      refine qv_run 1 (σ := (18, [some (.ref a0), some (.int a1), some (.int a2), some (.int a3), none], [.int a3], H)) rfl ?_
      refine qv_call [.int a3] rfl rfl rfl (Nat.le_of_ble_eq_true rfl) (th_X11_isHand (by omega) rfl) rfl ?_
      refine qv_br (c := (fm_X11_isHand a3) = 0) (a := (24, [some (.ref a0), some (.int a1), some (.int a2), some (.int a3), none], [], H)) (b := (30, [some (.ref a0), some (.int a1), some (.int a2), some (.int a3), none], [], H)) 1 rfl (fun c21 => ?_) (fun c21 => ?_)
      · replace h := qv_pos c21 h
        exact tb_X11_tie_24 hd hR a0 (some (.int a1)) rfl (some (.int a2)) rfl (some (.int a3)) rfl H h
      · replace h := qv_neg c21 h
        refine qv_run 4 (σ := (35, [some (.ref a0), some (.int a1), some (.int a2), some (.int a3), none], [.int 0, .int a1, .ref a0, .int 10], H)) rfl ?_
        obtain ⟨g35, h⟩ := qv_guard h
        obtain ⟨v35, e35, h⟩ := qv_bind h
        refine qv_callV [.int a1, .int 0] rfl rfl rfl (Nat.le_of_ble_eq_true rfl) g35 (th_X11_its (by omega) e35) rfl ?_
        refine qv_run 4 (σ := (42, [some (.ref a0), some (.int a1), some (.int a2), some (.int a3), none], [.int 1, .int a1, .ref a0, .int (10 * v35)], H)) rfl ?_
        obtain ⟨v42, e42, h⟩ := qv_bind h
        refine qv_callV [.int a1, .int 1] rfl rfl rfl (Nat.le_of_ble_eq_true rfl) g35 (th_X11_its (by omega) e42) rfl ?_
        refine qv_run 3 (σ := (49, [some (.ref a0), some (.int a1), some (.int a2), some (.int a3), some (.int ((10 * v35) + v42))], [.ref a0], H)) rfl ?_
        obtain ⟨v49, e49, h⟩ := qv_bind h
        refine qv_getR rfl e49 ?_
        refine qv_run 9 (σ := (63, [some (.ref a0), some (.int a1), some (.int a2), some (.int a3), some (.int ((10 * v35) + v42))], [.int 10, .int a2, .int ((8 + (4 * a1)) + 0), .ref v49], H)) rfl ?_
        refine qv_div rfl (by decide) ?_
        obtain ⟨H64, e64, h⟩ := qv_bind h
        refine qv_ast rfl e64 ?_
        refine qv_run 1 (σ := (66, [some (.ref a0), some (.int a1), some (.int a2), some (.int a3), some (.int ((10 * v35) + v42))], [.ref a0], H64)) rfl ?_
        obtain ⟨v66, e66, h⟩ := qv_bind h
        refine qv_getR rfl e66 ?_
        refine qv_run 9 (σ := (80, [some (.ref a0), some (.int a1), some (.int a2), some (.int a3), some (.int ((10 * v35) + v42))], [.int 10, .int a2, .int ((8 + (4 * a1)) + 1), .ref v66], H64)) rfl ?_
        refine qv_div rfl (by decide) ?_
        obtain ⟨H81, e81, h⟩ := qv_bind h
        refine qv_ast rfl e81 ?_
        refine qv_run 3 (σ := (85, [some (.ref a0), some (.int a1), some (.int a2), some (.int a3), some (.int ((10 * v35) + v42))], [.int a3, .int a1, .ref a0], H81)) rfl ?_
        obtain ⟨g85, h⟩ := qv_guard h
        obtain ⟨H85, e85, h⟩ := qv_bind h
        refine qv_callV [.int a1, .int a3] rfl rfl rfl (Nat.le_of_ble_eq_true rfl) g85 (th_X11_tiedBy (by omega) e85) (tl_X11_tiedBy e85) ?_
        refine qv_run 1 (σ := (90, [some (.ref a0), some (.int a1), some (.int a2), some (.int a3), some (.int ((10 * v35) + v42))], [.int ((10 * v35) + v42)], H85)) rfl ?_
        obtain ⟨rfl, rfl⟩ := qv_pair h
        exact qv_reti rfl hR
theorem tlb_X11_tie_0 {r : Int32} {H' : qx_H} (a0 : Nat) (a1 : Int32) (a2 : Int32) (a3 : Int32) (H : qx_H) (h : fm_X11_tie a0 a1 a2 a3 H = some (r, H')) : H'.length = H.length := by
  unfold fm_X11_tie at h
  by_cases c4 : (fm_X11_isKnot a1) = 0
  · replace h := qv_pos c4 h
    exact tlb_X11_tie_24 a0 H h
  · replace h := qv_neg c4 h
    by_cases c14 : (fm_X11_in a2 0 69) = 0
    · replace h := qv_pos c14 h
      exact tlb_X11_tie_24 a0 H h
    · replace h := qv_neg c14 h
      by_cases c21 : (fm_X11_isHand a3) = 0
      · replace h := qv_pos c21 h
        exact tlb_X11_tie_24 a0 H h
      · replace h := qv_neg c21 h
        obtain ⟨g35, h⟩ := qv_guard h
        obtain ⟨v35, e35, h⟩ := qv_bind h
        obtain ⟨v42, e42, h⟩ := qv_bind h
        obtain ⟨v49, e49, h⟩ := qv_bind h
        obtain ⟨H64, e64, h⟩ := qv_bind h
        have q_H64 := hp_ast_len e64
        obtain ⟨v66, e66, h⟩ := qv_bind h
        obtain ⟨H81, e81, h⟩ := qv_bind h
        have q_H81 := hp_ast_len e81
        obtain ⟨g85, h⟩ := qv_guard h
        obtain ⟨H85, e85, h⟩ := qv_bind h
        have q_H85 := tl_X11_tiedBy e85
        obtain ⟨rfl, rfl⟩ := qv_pair h
        omega
theorem th_X11_tie {st : xT} {d : Nat} (hd : 3 ≤ d) {a0 : Nat} {a1 : Int32} {a2 : Int32} {a3 : Int32} {H : qx_H} {r : Int32} {H' : qx_H} (h : fm_X11_tie a0 a1 a2 a3 H = some (r, H')) : xE st d 167 [.ref a0, .int a1, .int a2, .int a3] H (some (.int r)) H' := by
  obtain ⟨d, rfl⟩ : ∃ d', d = d' + 1 := ⟨d - 1, by omega⟩
  exact xE_of (xe167 st) xl167 (Nat.le_of_ble_eq_true rfl) (ls := [some (.ref a0), some (.int a1), some (.int a2), some (.int a3), none]) rfl (tb_X11_tie_0 (by omega) ⟨rfl, rfl⟩ a0 a1 a2 a3 H h)
theorem tl_X11_tie {a0 : Nat} {a1 : Int32} {a2 : Int32} {a3 : Int32} {H : qx_H} {r : Int32} {H' : qx_H} (h : fm_X11_tie a0 a1 a2 a3 H = some (r, H')) : H'.length = H.length := tlb_X11_tie_0 a0 a1 a2 a3 H h
def fm_X11_knotIs_b17 (l0 : Nat) (H : qx_H) : Option (Int32 × qx_H) := if hp_is H l0 9 = true then (ob2 (fm_X11_error l0 1 H) fun v19 H19 => some (v19, H19)) else none
def fm_X11_knotIs (a0 : Nat) (a1 : Int32) (a2 : Int32) (H : qx_H) : Option (Int32 × qx_H) := if (fm_X11_isKnot a1) = 0 then (fm_X11_knotIs_b17 a0 H) else (if (fm_X11_in a2 0 6) = 0 then (fm_X11_knotIs_b17 a0 H) else (if 4 ≤ a2 then (if a2 = 4 then (if hp_is H a0 9 = true then (ob2 (fm_X11_holds a0 a1 H) fun v44 H44 => some (v44, H44)) else none) else (if a2 = 5 then (if hp_is H a0 9 = true then ((fm_X11_takes a0 a1 H).bind fun v57 => some (v57, H)) else none) else (if hp_is H a0 9 = true then ((fm_X11_gone a0 H).bind fun v64 => (fm_X11_endsAt v64 a1 H).bind fun v68 => some (v68, H)) else none))) else (if hp_is H a0 9 = true then ((fm_X11_its a0 a1 a2 H).bind fun v31 => some (v31, H)) else none)))
theorem tb_X11_knotIs_17 {st : xT} {d : Nat} {R : Option Value → qx_H → Prop} (hd : 4 ≤ d) {r : Int32} {H' : qx_H} (hR : R (some (.int r)) H') (l0 : Nat) (z1 : Option Value) (hz1 : qx_ns z1 = true) (z2 : Option Value) (hz2 : qx_ns z2 = true) (H : qx_H) (h : fm_X11_knotIs_b17 l0 H = some (r, H')) : qx_V (xE st d) R (xc168 st) (17, [some (.ref l0), z1, z2], [], H) := by
  unfold fm_X11_knotIs_b17 at h
  refine qv_run 2 (σ := (19, [some (.ref l0), z1, z2], [.int 1, .ref l0], H)) rfl ?_
  obtain ⟨g19, h⟩ := qv_guard h
  obtain ⟨v19, H19, e19, h⟩ := qv_bind2 h
  refine qv_callV [.int 1] rfl rfl rfl (Nat.le_of_ble_eq_true rfl) g19 (th_X11_error (by omega) e19) (tl_X11_error e19) ?_
  obtain ⟨rfl, rfl⟩ := qv_pair h
  exact qv_reti rfl hR
theorem tlb_X11_knotIs_17 {r : Int32} {H' : qx_H} (l0 : Nat) (H : qx_H) (h : fm_X11_knotIs_b17 l0 H = some (r, H')) : H'.length = H.length := by
  unfold fm_X11_knotIs_b17 at h
  obtain ⟨g19, h⟩ := qv_guard h
  obtain ⟨v19, H19, e19, h⟩ := qv_bind2 h
  have q_H19 := tl_X11_error e19
  obtain ⟨rfl, rfl⟩ := qv_pair h
  omega
theorem tb_X11_knotIs_0 {st : xT} {d : Nat} {R : Option Value → qx_H → Prop} (hd : 4 ≤ d) {r : Int32} {H' : qx_H} (hR : R (some (.int r)) H') (a0 : Nat) (a1 : Int32) (a2 : Int32) (H : qx_H) (h : fm_X11_knotIs a0 a1 a2 H = some (r, H')) : qx_V (xE st d) R (xc168 st) (0, [some (.ref a0), some (.int a1), some (.int a2)], [], H) := by
  unfold fm_X11_knotIs at h
  refine qv_run 1 (σ := (1, [some (.ref a0), some (.int a1), some (.int a2)], [.int a1], H)) rfl ?_
  refine qv_call [.int a1] rfl rfl rfl (Nat.le_of_ble_eq_true rfl) (th_X11_isKnot (by omega) rfl) rfl ?_
  refine qv_br (c := (fm_X11_isKnot a1) = 0) (a := (17, [some (.ref a0), some (.int a1), some (.int a2)], [], H)) (b := (7, [some (.ref a0), some (.int a1), some (.int a2)], [], H)) 1 rfl (fun c4 => ?_) (fun c4 => ?_)
  · replace h := qv_pos c4 h
    exact tb_X11_knotIs_17 hd hR a0 (some (.int a1)) rfl (some (.int a2)) rfl H h
  · replace h := qv_neg c4 h
    refine qv_run 3 (σ := (11, [some (.ref a0), some (.int a1), some (.int a2)], [.int 6, .int 0, .int a2], H)) rfl ?_
    refine qv_call [.int a2, .int 0, .int 6] rfl rfl rfl (Nat.le_of_ble_eq_true rfl) (th_X11_in (by omega) rfl) rfl ?_
    refine qv_br (c := (fm_X11_in a2 0 6) = 0) (a := (17, [some (.ref a0), some (.int a1), some (.int a2)], [], H)) (b := (23, [some (.ref a0), some (.int a1), some (.int a2)], [], H)) 1 rfl (fun c14 => ?_) (fun c14 => ?_)
    · replace h := qv_pos c14 h
      exact tb_X11_knotIs_17 hd hR a0 (some (.int a1)) rfl (some (.int a2)) rfl H h
    · replace h := qv_neg c14 h
      refine qv_br (c := 4 ≤ a2) (a := (37, [some (.ref a0), some (.int a1), some (.int a2)], [], H)) (b := (28, [some (.ref a0), some (.int a1), some (.int a2)], [], H)) 3 rfl (fun c25 => ?_) (fun c25 => ?_)
      · replace h := qv_pos c25 h
        refine qv_br (c := a2 = 4) (a := (42, [some (.ref a0), some (.int a1), some (.int a2)], [], H)) (b := (50, [some (.ref a0), some (.int a1), some (.int a2)], [], H)) 3 rfl (fun c39 => ?_) (fun c39 => ?_)
        · replace h := qv_pos c39 h
          refine qv_run 2 (σ := (44, [some (.ref a0), some (.int a1), some (.int a2)], [.int a1, .ref a0], H)) rfl ?_
          obtain ⟨g44, h⟩ := qv_guard h
          obtain ⟨v44, H44, e44, h⟩ := qv_bind2 h
          refine qv_callV [.int a1] rfl rfl rfl (Nat.le_of_ble_eq_true rfl) g44 (th_X11_holds (by omega) e44) (tl_X11_holds e44) ?_
          refine qv_run 1 (σ := (71, [some (.ref a0), some (.int a1), some (.int a2)], [.int v44], H44)) rfl ?_
          obtain ⟨rfl, rfl⟩ := qv_pair h
          exact qv_reti rfl hR
        · replace h := qv_neg c39 h
          refine qv_br (c := a2 = 5) (a := (55, [some (.ref a0), some (.int a1), some (.int a2)], [], H)) (b := (63, [some (.ref a0), some (.int a1), some (.int a2)], [], H)) 3 rfl (fun c52 => ?_) (fun c52 => ?_)
          · replace h := qv_pos c52 h
            refine qv_run 2 (σ := (57, [some (.ref a0), some (.int a1), some (.int a2)], [.int a1, .ref a0], H)) rfl ?_
            obtain ⟨g57, h⟩ := qv_guard h
            obtain ⟨v57, e57, h⟩ := qv_bind h
            refine qv_callV [.int a1] rfl rfl rfl (Nat.le_of_ble_eq_true rfl) g57 (th_X11_takes (by omega) e57) rfl ?_
            refine qv_run 1 (σ := (71, [some (.ref a0), some (.int a1), some (.int a2)], [.int v57], H)) rfl ?_
            obtain ⟨rfl, rfl⟩ := qv_pair h
            exact qv_reti rfl hR
          · replace h := qv_neg c52 h
            refine qv_run 1 (σ := (64, [some (.ref a0), some (.int a1), some (.int a2)], [.ref a0], H)) rfl ?_
            obtain ⟨g64, h⟩ := qv_guard h
            obtain ⟨v64, e64, h⟩ := qv_bind h
            refine qv_callV [] rfl rfl rfl (Nat.le_of_ble_eq_true rfl) g64 (th_X11_gone (by omega) e64) rfl ?_
            refine qv_run 1 (σ := (68, [some (.ref a0), some (.int a1), some (.int a2)], [.int a1, .int v64], H)) rfl ?_
            obtain ⟨v68, e68, h⟩ := qv_bind h
            refine qv_call [.int v64, .int a1] rfl rfl rfl (Nat.le_of_ble_eq_true rfl) (th_X11_endsAt (by omega) e68) rfl ?_
            obtain ⟨rfl, rfl⟩ := qv_pair h
            exact qv_reti rfl hR
      · replace h := qv_neg c25 h
        refine qv_run 3 (σ := (31, [some (.ref a0), some (.int a1), some (.int a2)], [.int a2, .int a1, .ref a0], H)) rfl ?_
        obtain ⟨g31, h⟩ := qv_guard h
        obtain ⟨v31, e31, h⟩ := qv_bind h
        refine qv_callV [.int a1, .int a2] rfl rfl rfl (Nat.le_of_ble_eq_true rfl) g31 (th_X11_its (by omega) e31) rfl ?_
        refine qv_run 1 (σ := (71, [some (.ref a0), some (.int a1), some (.int a2)], [.int v31], H)) rfl ?_
        obtain ⟨rfl, rfl⟩ := qv_pair h
        exact qv_reti rfl hR
theorem tlb_X11_knotIs_0 {r : Int32} {H' : qx_H} (a0 : Nat) (a1 : Int32) (a2 : Int32) (H : qx_H) (h : fm_X11_knotIs a0 a1 a2 H = some (r, H')) : H'.length = H.length := by
  unfold fm_X11_knotIs at h
  by_cases c4 : (fm_X11_isKnot a1) = 0
  · replace h := qv_pos c4 h
    exact tlb_X11_knotIs_17 a0 H h
  · replace h := qv_neg c4 h
    by_cases c14 : (fm_X11_in a2 0 6) = 0
    · replace h := qv_pos c14 h
      exact tlb_X11_knotIs_17 a0 H h
    · replace h := qv_neg c14 h
      by_cases c25 : 4 ≤ a2
      · replace h := qv_pos c25 h
        by_cases c39 : a2 = 4
        · replace h := qv_pos c39 h
          obtain ⟨g44, h⟩ := qv_guard h
          obtain ⟨v44, H44, e44, h⟩ := qv_bind2 h
          have q_H44 := tl_X11_holds e44
          obtain ⟨rfl, rfl⟩ := qv_pair h
          omega
        · replace h := qv_neg c39 h
          by_cases c52 : a2 = 5
          · replace h := qv_pos c52 h
            obtain ⟨g57, h⟩ := qv_guard h
            obtain ⟨v57, e57, h⟩ := qv_bind h
            obtain ⟨rfl, rfl⟩ := qv_pair h
            rfl
          · replace h := qv_neg c52 h
            obtain ⟨g64, h⟩ := qv_guard h
            obtain ⟨v64, e64, h⟩ := qv_bind h
            obtain ⟨v68, e68, h⟩ := qv_bind h
            obtain ⟨rfl, rfl⟩ := qv_pair h
            rfl
      · replace h := qv_neg c25 h
        obtain ⟨g31, h⟩ := qv_guard h
        obtain ⟨v31, e31, h⟩ := qv_bind h
        obtain ⟨rfl, rfl⟩ := qv_pair h
        rfl
theorem th_X11_knotIs {st : xT} {d : Nat} (hd : 5 ≤ d) {a0 : Nat} {a1 : Int32} {a2 : Int32} {H : qx_H} {r : Int32} {H' : qx_H} (h : fm_X11_knotIs a0 a1 a2 H = some (r, H')) : xE st d 168 [.ref a0, .int a1, .int a2] H (some (.int r)) H' := by
  obtain ⟨d, rfl⟩ : ∃ d', d = d' + 1 := ⟨d - 1, by omega⟩
  exact xE_of (xe168 st) xl168 (Nat.le_of_ble_eq_true rfl) (ls := [some (.ref a0), some (.int a1), some (.int a2)]) rfl (tb_X11_knotIs_0 (by omega) ⟨rfl, rfl⟩ a0 a1 a2 H h)
theorem tl_X11_knotIs {a0 : Nat} {a1 : Int32} {a2 : Int32} {H : qx_H} {r : Int32} {H' : qx_H} (h : fm_X11_knotIs a0 a1 a2 H = some (r, H')) : H'.length = H.length := tlb_X11_knotIs_0 a0 a1 a2 H h
def fm_X11_isUnder_b19 (l0 : Int32) (l1 : Int32) : Int32 := if l1 = 2 then (if l0 = 5 then (1) else (0)) else (0)
def fm_X11_isUnder (a0 : Int32) (a1 : Int32) : Int32 := if a1 = 0 then (1) else (if a0 = a1 then (1) else (if a1 = 1 then (if a0 = 4 then (1) else (fm_X11_isUnder_b19 a0 a1)) else (fm_X11_isUnder_b19 a0 a1)))
theorem tb_X11_isUnder_19 {st : xT} {d : Nat} {R : Option Value → qx_H → Prop} (hd : 0 ≤ d) {r : Int32} {H : qx_H} (hR : R (some (.int r)) H) (l0 : Int32) (l1 : Int32) (h : fm_X11_isUnder_b19 l0 l1 = r) : qx_V (xE st d) R (xc169 st) (19, [some (.int l0), some (.int l1)], [], H) := by
  unfold fm_X11_isUnder_b19 at h
  refine qv_br (c := l1 = 2) (a := (24, [some (.int l0), some (.int l1)], [], H)) (b := (33, [some (.int l0), some (.int l1)], [], H)) 3 rfl (fun c21 => ?_) (fun c21 => ?_)
  · replace h := qv_pos c21 h
    refine qv_br (c := l0 = 5) (a := (29, [some (.int l0), some (.int l1)], [], H)) (b := (33, [some (.int l0), some (.int l1)], [], H)) 3 rfl (fun c26 => ?_) (fun c26 => ?_)
    · replace h := qv_pos c26 h
      refine qv_run 2 (σ := (34, [some (.int l0), some (.int l1)], [.int 1], H)) rfl ?_
      subst h
      exact qv_retz rfl (Or.inr rfl) hR
    · replace h := qv_neg c26 h
      refine qv_run 1 (σ := (34, [some (.int l0), some (.int l1)], [.int 0], H)) rfl ?_
      subst h
      exact qv_retz rfl (Or.inl rfl) hR
  · replace h := qv_neg c21 h
    refine qv_run 1 (σ := (34, [some (.int l0), some (.int l1)], [.int 0], H)) rfl ?_
    subst h
    exact qv_retz rfl (Or.inl rfl) hR
theorem tzb_X11_isUnder_19 {r : Int32} (l0 : Int32) (l1 : Int32) (h : fm_X11_isUnder_b19 l0 l1 = r) : r = 0 ∨ r = 1 := by
  unfold fm_X11_isUnder_b19 at h
  by_cases c21 : l1 = 2
  · replace h := qv_pos c21 h
    by_cases c26 : l0 = 5
    · replace h := qv_pos c26 h
      subst h
      exact Or.inr rfl
    · replace h := qv_neg c26 h
      subst h
      exact Or.inl rfl
  · replace h := qv_neg c21 h
    subst h
    exact Or.inl rfl
theorem tb_X11_isUnder_0 {st : xT} {d : Nat} {R : Option Value → qx_H → Prop} (hd : 0 ≤ d) {r : Int32} {H : qx_H} (hR : R (some (.int r)) H) (a0 : Int32) (a1 : Int32) (h : fm_X11_isUnder a0 a1 = r) : qx_V (xE st d) R (xc169 st) (0, [some (.int a0), some (.int a1)], [], H) := by
  unfold fm_X11_isUnder at h
  refine qv_br (c := a1 = 0) (a := (29, [some (.int a0), some (.int a1)], [], H)) (b := (4, [some (.int a0), some (.int a1)], [], H)) 2 rfl (fun c1 => ?_) (fun c1 => ?_)
  · replace h := qv_pos c1 h
    refine qv_run 2 (σ := (34, [some (.int a0), some (.int a1)], [.int 1], H)) rfl ?_
    subst h
    exact qv_retz rfl (Or.inr rfl) hR
  · replace h := qv_neg c1 h
    refine qv_br (c := a0 = a1) (a := (29, [some (.int a0), some (.int a1)], [], H)) (b := (9, [some (.int a0), some (.int a1)], [], H)) 3 rfl (fun c6 => ?_) (fun c6 => ?_)
    · replace h := qv_pos c6 h
      refine qv_run 2 (σ := (34, [some (.int a0), some (.int a1)], [.int 1], H)) rfl ?_
      subst h
      exact qv_retz rfl (Or.inr rfl) hR
    · replace h := qv_neg c6 h
      refine qv_br (c := a1 = 1) (a := (14, [some (.int a0), some (.int a1)], [], H)) (b := (19, [some (.int a0), some (.int a1)], [], H)) 3 rfl (fun c11 => ?_) (fun c11 => ?_)
      · replace h := qv_pos c11 h
        refine qv_br (c := a0 = 4) (a := (29, [some (.int a0), some (.int a1)], [], H)) (b := (19, [some (.int a0), some (.int a1)], [], H)) 3 rfl (fun c16 => ?_) (fun c16 => ?_)
        · replace h := qv_pos c16 h
          refine qv_run 2 (σ := (34, [some (.int a0), some (.int a1)], [.int 1], H)) rfl ?_
          subst h
          exact qv_retz rfl (Or.inr rfl) hR
        · replace h := qv_neg c16 h
          exact tb_X11_isUnder_19 hd hR a0 a1 h
      · replace h := qv_neg c11 h
        exact tb_X11_isUnder_19 hd hR a0 a1 h
theorem tzb_X11_isUnder_0 {r : Int32} (a0 : Int32) (a1 : Int32) (h : fm_X11_isUnder a0 a1 = r) : r = 0 ∨ r = 1 := by
  unfold fm_X11_isUnder at h
  by_cases c1 : a1 = 0
  · replace h := qv_pos c1 h
    subst h
    exact Or.inr rfl
  · replace h := qv_neg c1 h
    by_cases c6 : a0 = a1
    · replace h := qv_pos c6 h
      subst h
      exact Or.inr rfl
    · replace h := qv_neg c6 h
      by_cases c11 : a1 = 1
      · replace h := qv_pos c11 h
        by_cases c16 : a0 = 4
        · replace h := qv_pos c16 h
          subst h
          exact Or.inr rfl
        · replace h := qv_neg c16 h
          exact tzb_X11_isUnder_19 a0 a1 h
      · replace h := qv_neg c11 h
        exact tzb_X11_isUnder_19 a0 a1 h
theorem th_X11_isUnder {st : xT} {d : Nat} (hd : 1 ≤ d) {a0 : Int32} {a1 : Int32} {r : Int32} {H : qx_H} (h : fm_X11_isUnder a0 a1 = r) : xE st d 169 [.int a0, .int a1] H (some (.int r)) H := by
  obtain ⟨d, rfl⟩ : ∃ d', d = d' + 1 := ⟨d - 1, by omega⟩
  exact xE_of (xe169 st) xl169 (Nat.le_of_ble_eq_true rfl) (ls := [some (.int a0), some (.int a1)]) rfl (tb_X11_isUnder_0 (by omega) ⟨rfl, rfl⟩ a0 a1 h)
theorem tz_X11_isUnder {a0 : Int32} {a1 : Int32} {r : Int32} (h : fm_X11_isUnder a0 a1 = r) : r = 0 ∨ r = 1 := tzb_X11_isUnder_0 a0 a1 h
theorem fz_X11_isUnder {a0 : Int32} {a1 : Int32} : fm_X11_isUnder a0 a1 = 0 ∨ fm_X11_isUnder a0 a1 = 1 := tz_X11_isUnder rfl
def fm_X11_as_b17 (l0 : Nat) (H : qx_H) : Option (Int32 × qx_H) := if hp_is H l0 9 = true then (ob2 (fm_X11_error l0 1 H) fun v19 H19 => some (v19, H19)) else none
def fm_X11_as (a0 : Nat) (a1 : Int32) (a2 : Int32) (H : qx_H) : Option (Int32 × qx_H) := if (fm_X11_isKnot a1) = 0 then (fm_X11_as_b17 a0 H) else (if (fm_X11_in a2 0 6) = 0 then (fm_X11_as_b17 a0 H) else (if hp_is H a0 9 = true then ((fm_X11_its a0 a1 0 H).bind fun v26 => if (fm_X11_isUnder v26 a2) = 0 then (ob2 (fm_X11_error a0 5 H) fun v46 H46 => some (v46, H46)) else (ob2 (fm_X11_holds a0 a1 H) fun v38 H38 => some (v38, H38))) else none))
theorem tb_X11_as_17 {st : xT} {d : Nat} {R : Option Value → qx_H → Prop} (hd : 4 ≤ d) {r : Int32} {H' : qx_H} (hR : R (some (.int r)) H') (l0 : Nat) (z1 : Option Value) (hz1 : qx_ns z1 = true) (z2 : Option Value) (hz2 : qx_ns z2 = true) (H : qx_H) (h : fm_X11_as_b17 l0 H = some (r, H')) : qx_V (xE st d) R (xc170 st) (17, [some (.ref l0), z1, z2], [], H) := by
  unfold fm_X11_as_b17 at h
  refine qv_run 2 (σ := (19, [some (.ref l0), z1, z2], [.int 1, .ref l0], H)) rfl ?_
  obtain ⟨g19, h⟩ := qv_guard h
  obtain ⟨v19, H19, e19, h⟩ := qv_bind2 h
  refine qv_callV [.int 1] rfl rfl rfl (Nat.le_of_ble_eq_true rfl) g19 (th_X11_error (by omega) e19) (tl_X11_error e19) ?_
  obtain ⟨rfl, rfl⟩ := qv_pair h
  exact qv_reti rfl hR
theorem tlb_X11_as_17 {r : Int32} {H' : qx_H} (l0 : Nat) (H : qx_H) (h : fm_X11_as_b17 l0 H = some (r, H')) : H'.length = H.length := by
  unfold fm_X11_as_b17 at h
  obtain ⟨g19, h⟩ := qv_guard h
  obtain ⟨v19, H19, e19, h⟩ := qv_bind2 h
  have q_H19 := tl_X11_error e19
  obtain ⟨rfl, rfl⟩ := qv_pair h
  omega
theorem tb_X11_as_0 {st : xT} {d : Nat} {R : Option Value → qx_H → Prop} (hd : 4 ≤ d) {r : Int32} {H' : qx_H} (hR : R (some (.int r)) H') (a0 : Nat) (a1 : Int32) (a2 : Int32) (H : qx_H) (h : fm_X11_as a0 a1 a2 H = some (r, H')) : qx_V (xE st d) R (xc170 st) (0, [some (.ref a0), some (.int a1), some (.int a2)], [], H) := by
  unfold fm_X11_as at h
  refine qv_run 1 (σ := (1, [some (.ref a0), some (.int a1), some (.int a2)], [.int a1], H)) rfl ?_
  refine qv_call [.int a1] rfl rfl rfl (Nat.le_of_ble_eq_true rfl) (th_X11_isKnot (by omega) rfl) rfl ?_
  refine qv_br (c := (fm_X11_isKnot a1) = 0) (a := (17, [some (.ref a0), some (.int a1), some (.int a2)], [], H)) (b := (7, [some (.ref a0), some (.int a1), some (.int a2)], [], H)) 1 rfl (fun c4 => ?_) (fun c4 => ?_)
  · replace h := qv_pos c4 h
    exact tb_X11_as_17 hd hR a0 (some (.int a1)) rfl (some (.int a2)) rfl H h
  · replace h := qv_neg c4 h
    refine qv_run 3 (σ := (11, [some (.ref a0), some (.int a1), some (.int a2)], [.int 6, .int 0, .int a2], H)) rfl ?_
    refine qv_call [.int a2, .int 0, .int 6] rfl rfl rfl (Nat.le_of_ble_eq_true rfl) (th_X11_in (by omega) rfl) rfl ?_
    refine qv_br (c := (fm_X11_in a2 0 6) = 0) (a := (17, [some (.ref a0), some (.int a1), some (.int a2)], [], H)) (b := (23, [some (.ref a0), some (.int a1), some (.int a2)], [], H)) 1 rfl (fun c14 => ?_) (fun c14 => ?_)
    · replace h := qv_pos c14 h
      exact tb_X11_as_17 hd hR a0 (some (.int a1)) rfl (some (.int a2)) rfl H h
    · replace h := qv_neg c14 h
      refine qv_run 3 (σ := (26, [some (.ref a0), some (.int a1), some (.int a2)], [.int 0, .int a1, .ref a0], H)) rfl ?_
      obtain ⟨g26, h⟩ := qv_guard h
      obtain ⟨v26, e26, h⟩ := qv_bind h
      refine qv_callV [.int a1, .int 0] rfl rfl rfl (Nat.le_of_ble_eq_true rfl) g26 (th_X11_its (by omega) e26) rfl ?_
      refine qv_run 1 (σ := (30, [some (.ref a0), some (.int a1), some (.int a2)], [.int a2, .int v26], H)) rfl ?_
      refine qv_call [.int v26, .int a2] rfl rfl rfl (Nat.le_of_ble_eq_true rfl) (th_X11_isUnder (by omega) rfl) rfl ?_
      refine qv_br (c := (fm_X11_isUnder v26 a2) = 0) (a := (44, [some (.ref a0), some (.int a1), some (.int a2)], [], H)) (b := (36, [some (.ref a0), some (.int a1), some (.int a2)], [], H)) 1 rfl (fun c33 => ?_) (fun c33 => ?_)
      · replace h := qv_pos c33 h
        refine qv_run 2 (σ := (46, [some (.ref a0), some (.int a1), some (.int a2)], [.int 5, .ref a0], H)) rfl ?_
        obtain ⟨v46, H46, e46, h⟩ := qv_bind2 h
        refine qv_callV [.int 5] rfl rfl rfl (Nat.le_of_ble_eq_true rfl) g26 (th_X11_error (by omega) e46) (tl_X11_error e46) ?_
        obtain ⟨rfl, rfl⟩ := qv_pair h
        exact qv_reti rfl hR
      · replace h := qv_neg c33 h
        refine qv_run 2 (σ := (38, [some (.ref a0), some (.int a1), some (.int a2)], [.int a1, .ref a0], H)) rfl ?_
        obtain ⟨v38, H38, e38, h⟩ := qv_bind2 h
        refine qv_callV [.int a1] rfl rfl rfl (Nat.le_of_ble_eq_true rfl) g26 (th_X11_holds (by omega) e38) (tl_X11_holds e38) ?_
        refine qv_run 1 (σ := (49, [some (.ref a0), some (.int a1), some (.int a2)], [.int v38], H38)) rfl ?_
        obtain ⟨rfl, rfl⟩ := qv_pair h
        exact qv_reti rfl hR
theorem tlb_X11_as_0 {r : Int32} {H' : qx_H} (a0 : Nat) (a1 : Int32) (a2 : Int32) (H : qx_H) (h : fm_X11_as a0 a1 a2 H = some (r, H')) : H'.length = H.length := by
  unfold fm_X11_as at h
  by_cases c4 : (fm_X11_isKnot a1) = 0
  · replace h := qv_pos c4 h
    exact tlb_X11_as_17 a0 H h
  · replace h := qv_neg c4 h
    by_cases c14 : (fm_X11_in a2 0 6) = 0
    · replace h := qv_pos c14 h
      exact tlb_X11_as_17 a0 H h
    · replace h := qv_neg c14 h
      obtain ⟨g26, h⟩ := qv_guard h
      obtain ⟨v26, e26, h⟩ := qv_bind h
      by_cases c33 : (fm_X11_isUnder v26 a2) = 0
      · replace h := qv_pos c33 h
        obtain ⟨v46, H46, e46, h⟩ := qv_bind2 h
        have q_H46 := tl_X11_error e46
        obtain ⟨rfl, rfl⟩ := qv_pair h
        omega
      · replace h := qv_neg c33 h
        obtain ⟨v38, H38, e38, h⟩ := qv_bind2 h
        have q_H38 := tl_X11_holds e38
        obtain ⟨rfl, rfl⟩ := qv_pair h
        omega
theorem th_X11_as {st : xT} {d : Nat} (hd : 5 ≤ d) {a0 : Nat} {a1 : Int32} {a2 : Int32} {H : qx_H} {r : Int32} {H' : qx_H} (h : fm_X11_as a0 a1 a2 H = some (r, H')) : xE st d 170 [.ref a0, .int a1, .int a2] H (some (.int r)) H' := by
  obtain ⟨d, rfl⟩ : ∃ d', d = d' + 1 := ⟨d - 1, by omega⟩
  exact xE_of (xe170 st) xl170 (Nat.le_of_ble_eq_true rfl) (ls := [some (.ref a0), some (.int a1), some (.int a2)]) rfl (tb_X11_as_0 (by omega) ⟨rfl, rfl⟩ a0 a1 a2 H h)
theorem tl_X11_as {a0 : Nat} {a1 : Int32} {a2 : Int32} {H : qx_H} {r : Int32} {H' : qx_H} (h : fm_X11_as a0 a1 a2 H = some (r, H')) : H'.length = H.length := tlb_X11_as_0 a0 a1 a2 H h
def fm_X11_toldThread (a0 : Nat) (a1 : Int32) (a2 : Int32) (H : qx_H) : Option (Int32 × qx_H) := if 3 ≤ a2 then (if a2 = 3 then (if hp_is H a0 9 = true then (ob2 (fm_X11_strength a0 a1 H) fun v21 H21 => some (v21, H21)) else none) else (if a2 = 4 then (some ((fm_X11_lessOf a1), H)) else (some ((fm_X11_otherOf a1), H)))) else (if hp_is H a0 9 = true then ((fm_X11_of a0 a1 a2 H).bind fun v8 => some (v8, H)) else none)
theorem tb_X11_toldThread_0 {st : xT} {d : Nat} {R : Option Value → qx_H → Prop} (hd : 5 ≤ d) {r : Int32} {H' : qx_H} (hR : R (some (.int r)) H') (a0 : Nat) (a1 : Int32) (a2 : Int32) (H : qx_H) (h : fm_X11_toldThread a0 a1 a2 H = some (r, H')) : qx_V (xE st d) R (xc171 st) (0, [some (.ref a0), some (.int a1), some (.int a2)], [], H) := by
  unfold fm_X11_toldThread at h
  refine qv_br (c := 3 ≤ a2) (a := (14, [some (.ref a0), some (.int a1), some (.int a2)], [], H)) (b := (5, [some (.ref a0), some (.int a1), some (.int a2)], [], H)) 3 rfl (fun c2 => ?_) (fun c2 => ?_)
  · replace h := qv_pos c2 h
    refine qv_br (c := a2 = 3) (a := (19, [some (.ref a0), some (.int a1), some (.int a2)], [], H)) (b := (27, [some (.ref a0), some (.int a1), some (.int a2)], [], H)) 3 rfl (fun c16 => ?_) (fun c16 => ?_)
    · replace h := qv_pos c16 h
      refine qv_run 2 (σ := (21, [some (.ref a0), some (.int a1), some (.int a2)], [.int a1, .ref a0], H)) rfl ?_
      obtain ⟨g21, h⟩ := qv_guard h
      obtain ⟨v21, H21, e21, h⟩ := qv_bind2 h
      refine qv_callV [.int a1] rfl rfl rfl (Nat.le_of_ble_eq_true rfl) g21 (th_X11_strength (by omega) e21) (tl_X11_strength e21) ?_
      refine qv_run 1 (σ := (43, [some (.ref a0), some (.int a1), some (.int a2)], [.int v21], H21)) rfl ?_
      obtain ⟨rfl, rfl⟩ := qv_pair h
      exact qv_reti rfl hR
    · replace h := qv_neg c16 h
      refine qv_br (c := a2 = 4) (a := (32, [some (.ref a0), some (.int a1), some (.int a2)], [], H)) (b := (39, [some (.ref a0), some (.int a1), some (.int a2)], [], H)) 3 rfl (fun c29 => ?_) (fun c29 => ?_)
      · replace h := qv_pos c29 h
        refine qv_run 1 (σ := (33, [some (.ref a0), some (.int a1), some (.int a2)], [.int a1], H)) rfl ?_
        refine qv_call [.int a1] rfl rfl rfl (Nat.le_of_ble_eq_true rfl) (th_X11_lessOf (by omega) rfl) rfl ?_
        refine qv_run 1 (σ := (43, [some (.ref a0), some (.int a1), some (.int a2)], [.int (fm_X11_lessOf a1)], H)) rfl ?_
        obtain ⟨rfl, rfl⟩ := qv_pair h
        exact qv_reti rfl hR
      · replace h := qv_neg c29 h
        refine qv_run 1 (σ := (40, [some (.ref a0), some (.int a1), some (.int a2)], [.int a1], H)) rfl ?_
        refine qv_call [.int a1] rfl rfl rfl (Nat.le_of_ble_eq_true rfl) (th_X11_otherOf (by omega) rfl) rfl ?_
        obtain ⟨rfl, rfl⟩ := qv_pair h
        exact qv_reti rfl hR
  · replace h := qv_neg c2 h
    refine qv_run 3 (σ := (8, [some (.ref a0), some (.int a1), some (.int a2)], [.int a2, .int a1, .ref a0], H)) rfl ?_
    obtain ⟨g8, h⟩ := qv_guard h
    obtain ⟨v8, e8, h⟩ := qv_bind h
    refine qv_callV [.int a1, .int a2] rfl rfl rfl (Nat.le_of_ble_eq_true rfl) g8 (th_X11_of (by omega) e8) rfl ?_
    refine qv_run 1 (σ := (43, [some (.ref a0), some (.int a1), some (.int a2)], [.int v8], H)) rfl ?_
    obtain ⟨rfl, rfl⟩ := qv_pair h
    exact qv_reti rfl hR
theorem tlb_X11_toldThread_0 {r : Int32} {H' : qx_H} (a0 : Nat) (a1 : Int32) (a2 : Int32) (H : qx_H) (h : fm_X11_toldThread a0 a1 a2 H = some (r, H')) : H'.length = H.length := by
  unfold fm_X11_toldThread at h
  by_cases c2 : 3 ≤ a2
  · replace h := qv_pos c2 h
    by_cases c16 : a2 = 3
    · replace h := qv_pos c16 h
      obtain ⟨g21, h⟩ := qv_guard h
      obtain ⟨v21, H21, e21, h⟩ := qv_bind2 h
      have q_H21 := tl_X11_strength e21
      obtain ⟨rfl, rfl⟩ := qv_pair h
      omega
    · replace h := qv_neg c16 h
      by_cases c29 : a2 = 4
      · replace h := qv_pos c29 h
        obtain ⟨rfl, rfl⟩ := qv_pair h
        rfl
      · replace h := qv_neg c29 h
        obtain ⟨rfl, rfl⟩ := qv_pair h
        rfl
  · replace h := qv_neg c2 h
    obtain ⟨g8, h⟩ := qv_guard h
    obtain ⟨v8, e8, h⟩ := qv_bind h
    obtain ⟨rfl, rfl⟩ := qv_pair h
    rfl
theorem th_X11_toldThread {st : xT} {d : Nat} (hd : 6 ≤ d) {a0 : Nat} {a1 : Int32} {a2 : Int32} {H : qx_H} {r : Int32} {H' : qx_H} (h : fm_X11_toldThread a0 a1 a2 H = some (r, H')) : xE st d 171 [.ref a0, .int a1, .int a2] H (some (.int r)) H' := by
  obtain ⟨d, rfl⟩ : ∃ d', d = d' + 1 := ⟨d - 1, by omega⟩
  exact xE_of (xe171 st) xl171 (Nat.le_of_ble_eq_true rfl) (ls := [some (.ref a0), some (.int a1), some (.int a2)]) rfl (tb_X11_toldThread_0 (by omega) ⟨rfl, rfl⟩ a0 a1 a2 H h)
theorem tl_X11_toldThread {a0 : Nat} {a1 : Int32} {a2 : Int32} {H : qx_H} {r : Int32} {H' : qx_H} (h : fm_X11_toldThread a0 a1 a2 H = some (r, H')) : H'.length = H.length := tlb_X11_toldThread_0 a0 a1 a2 H h
