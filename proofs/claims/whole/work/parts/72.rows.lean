/-! ROWS CHANGED -/
def eqT (s s' : Nat → Int32) : Prop := ∀ j, 181 ≤ j → j < 431 → s' j = s j
theorem tkD_cg {W W' : Nat → Int32} : ∀ {n : Nat}, (∀ k, k < n → W' k = W k) → tkD W' n = tkD W n
  | 0, _ => rfl
  | n + 1, h => by
    unfold tkD
    rw [tkD_cg (fun k hk => h k (by omega)), h n (by omega)]
theorem tkOk_cg {u N : Nat} {W V W' V' : Nat → Int32} (h : tkOk u W V N) (hW : ∀ k, k < N → W' k = W k) (hV : ∀ k, k < N → V' k = V k) : tkOk u W' V' N := by
  refine ⟨h.1, fun k hk => ?_⟩
  have := h.2 k hk
  unfold tkT at *
  rw [hW k hk, hV k hk, tkD_cg fun j hj => hW j (by omega)]
  exact this
theorem eqT.ok {s s' : Nat → Int32} (h : eqT s s') {u : Nat} (hu : u < 2) (ho : txOk s u) : txOk s' u := by
  obtain ⟨N, h1, h2⟩ := ho
  have := h2.1
  exact ⟨N, by unfold txN; rw [h _ (by omega) (by omega)]; exact h1, tkOk_cg h2 (fun k hk => h _ (by omega) (by omega)) (fun k hk => h _ (by omega) (by omega))⟩
theorem eqT.law {m : xM2} {L u : Nat} {s s' : Nat → Int32} (he : eqT s s') (hu : u < 2) (h : lawR m L u s) : lawR m L u s' := by
  have e : txN s' u = txN s u := he _ (by omega) (by omega)
  refine ⟨by rw [e]; exact h.1, fun N h1 h2 k hk => ?_⟩
  rw [h.2 N (e ▸ h1) h2 k hk]
  unfold txW txV
  rw [he _ (by omega) (by omega), he _ (by omega) (by omega)]
theorem netR.cg {m : xM2} {o : Nat} {s s' : Nat → Int32} (h : netR m o s) (h0 : s' 0 = s 0) (he : ∀ j, 8 ≤ j → j < 431 → s' j = s j) : netR m o s' := by
  obtain ⟨a1, a2, a3, a4, a5, a6, a7, a8, a9, b1⟩ := h
  have eT : eqT s s' := fun j h1 h2 => he j (by omega) h2
  refine ⟨fun k hk => ?_, fun k hk => ?_, fun k hk => ?_, fun k hk => ?_, fun k hk => ?_, fun k hk => ?_, ?_, by rw [h0]; exact a8, eT.law (by decide) a9, eT.law (by decide) b1⟩
  · rw [he _ (by omega) (by omega)]; exact a1 k hk
  · rw [he _ (by omega) (by omega)]; exact a2 k hk
  · rw [he _ (by omega) (by omega)]; exact a3 k hk
  · rw [he _ (by omega) (by omega)]; exact a4 k hk
  · rw [he _ (by omega) (by omega)]; exact a5 k hk
  · rw [he _ (by omega) (by omega)]; exact a6 k hk
  · rw [a7]
    exact (goneS_eq fun t ht => he _ (by omega) (by omega)).symm
theorem netR.knot {m : xM2} {o k w : Nat} {s : Nat → Int32} {x : Int32} (h : netR m o s) (hk : k < 20) (hw : w < 4) : netR (sA m (o + 1 + w) (upd (m.1 (o + 1 + w)) k x)) o (upd s (8 + 4 * k + w) x) := by
  obtain ⟨a1, a2, a3, a4, a5, a6, a7, a8, a9, b1⟩ := h
  have he : eqT s (upd s (8 + 4 * k + w) x) := fun j h1 h2 => upd_n (by omega)
  have g : ∀ d, d < 4 → (∀ j, j < 20 → m.1 (o + 1 + d) j = s (8 + 4 * j + d)) → ∀ j, j < 20 → (sA m (o + 1 + w) (upd (m.1 (o + 1 + w)) k x)).1 (o + 1 + d) j = upd s (8 + 4 * k + w) x (8 + 4 * j + d) := by
    intro d hd q j hj
    by_cases e : d = w
    · subst e
      rw [sA_s]
      by_cases e2 : j = k
      · subst e2; rw [upd_s, upd_s]
      · rw [upd_n e2, upd_n (by omega)]; exact q j hj
    · rw [sA_n (by omega), upd_n (by omega)]; exact q j hj
  refine ⟨g 0 (by decide) a1, g 1 (by decide) a2, g 2 (by decide) a3, g 3 (by decide) a4, fun t ht => ?_, fun t ht => ?_, ?_, ?_, he.law (by decide) (a9.mv (sA_n (by omega)) rfl), he.law (by decide) (b1.mv (sA_n (by omega)) rfl)⟩
  · rw [sA_n (by omega), upd_n (by omega)]; exact a5 t ht
  · rw [sA_n (by omega), upd_n (by omega)]; exact a6 t ht
  · rw [sA_2, a7]
    exact (goneS_eq fun i hi => upd_n (by omega)).symm
  · rw [sA_2, a8, upd_n (by omega)]
theorem quayR.net {m m1 : xM2} {q : Nat} {s s' : Nat → Int32} (h : quayR m q s) (hs : scN (q + 1) m m1) (hn : netR m1 (q + 1) s') (he : ∀ j, 1 ≤ j → j < 8 ∨ 431 ≤ j → s' j = s j) : quayR m1 q s' := by
  obtain ⟨a1, a2, a3, a4, a5, a6, a7, a8⟩ := h
  have e1 : ∀ a, q + 15 ≤ a → m1.1 a = m.1 a := fun a ha => (hs a (by omega)).1
  have e2 := (hs q (by omega)).2
  refine ⟨hn, fun i hi => ?_, fun j hj => ?_, fun j hj => ?_, ?_, ?_, ?_, ?_⟩
  · rw [e1 _ (by omega), he _ (by omega) (by omega)]; exact a2 i hi
  · rw [e1 _ (by omega), he _ (by omega) (by omega)]; exact a3 j hj
  · rw [e1 _ (by omega), he _ (by omega) (by omega)]; exact a4 j hj
  · rw [e2, he _ (by omega) (by omega)]; exact a5
  · rw [e2, he _ (by omega) (by omega)]; exact a6
  · rw [e2, he _ (by omega) (by omega)]; exact a7
  · rw [e2, he _ (by omega) (by omega)]; exact a8
theorem quayR.fld {m : xM2} {q k j : Nat} {x : Int32} {s : Nat → Int32} (h : quayR m q s) (hkj : (k = 4 ∧ j = 2) ∨ (k = 5 ∧ j = 3) ∨ (k = 6 ∧ j = 1) ∨ (k = 7 ∧ j = 4) := by decide) : quayR (sF m q k x) q (upd s j x) := by
  obtain ⟨a1, a2, a3, a4, a5, a6, a7, a8⟩ := h
  refine ⟨(a1.mv (m' := sF m q k x) fun a h1 h2 => ⟨rfl, sF_n (by omega)⟩).cg (upd_n (by omega)) (fun i h1 h2 => upd_n (by omega)), fun i hi => ?_, fun i hi => ?_, fun i hi => ?_, ?_, ?_, ?_, ?_⟩
  · rw [sF_1, upd_n (by omega)]; exact a2 i hi
  · rw [sF_1, upd_n (by omega)]; exact a3 i hi
  · rw [sF_1, upd_n (by omega)]; exact a4 i hi
  all_goals
    rw [sF_s]
    rcases hkj with ⟨rfl, rfl⟩ | ⟨rfl, rfl⟩ | ⟨rfl, rfl⟩ | ⟨rfl, rfl⟩
    all_goals first
      | rw [upd_s, upd_s]
      | (rw [upd_n (by decide), upd_n (by decide)]; assumption)
theorem quayR.row {m : xM2} {q d b n i : Nat} {x : Int32} {s : Nat → Int32} (h : quayR m q s) (hd : (d = 15 ∧ b = 5 ∧ n = 3) ∨ (d = 16 ∧ b = 431 ∧ n = 60) ∨ (d = 17 ∧ b = 491 ∧ n = 24)) (hi : i < n) : quayR (sA m (q + d) (upd (m.1 (q + d)) i x)) q (upd s (b + i) x) := by
  obtain ⟨a1, a2, a3, a4, a5, a6, a7, a8⟩ := h
  have g : ∀ d' b' n', ((d' = 15 ∧ b' = 5 ∧ n' = 3) ∨ (d' = 16 ∧ b' = 431 ∧ n' = 60) ∨ (d' = 17 ∧ b' = 491 ∧ n' = 24)) → (∀ j, j < n' → m.1 (q + d') j = s (b' + j)) → ∀ j, j < n' → (sA m (q + d) (upd (m.1 (q + d)) i x)).1 (q + d') j = upd s (b + i) x (b' + j) := by
    intro d' b' n' hh hq j hj
    by_cases e : d' = d
    · have eb : b' = b := by omega
      subst e
      subst eb
      rw [sA_s]
      by_cases e2 : j = i
      · subst e2; rw [upd_s, upd_s]
      · rw [upd_n e2, upd_n (by omega)]; exact hq j hj
    · rw [sA_n (by omega), upd_n (by omega)]; exact hq j hj
  refine ⟨(a1.mv (m' := sA m (q + d) (upd (m.1 (q + d)) i x)) fun a h1 h2 => ⟨sA_n (by omega), rfl⟩).cg (upd_n (by omega)) (fun j h1 h2 => upd_n (by omega)), g 15 5 3 (by decide) a2, g 16 431 60 (by decide) a3, g 17 491 24 (by decide) a4, ?_, ?_, ?_, ?_⟩
  all_goals
    rw [sA_2, upd_n (by omega)]
    assumption
/-- a row's bounds when it is changed -/
theorem wf.knot {s : Nat → Int32} {k w : Nat} {x : Int32} (h : wf s) (hk : k < 20) (hw : w < 4) (h0 : w = 0 → ∃ c, c ≤ 6 ∧ x = nI c) (h3 : w = 3 → x = s 0) : wf (upd s (8 + 4 * k + w) x) := by
  obtain ⟨⟨t0, t1, ⟨d, d1, d2, d3⟩, w1, w2⟩, hk6, hw1, h2, h3', hsp⟩ := h
  have he : eqT s (upd s (8 + 4 * k + w) x) := fun j h1 h2 => upd_n (by omega)
  refine ⟨⟨he.ok (by decide) t0, he.ok (by decide) t1, ⟨d, d1, by rw [upd_n (by omega)]; exact d2, fun j hj => ?_⟩, fun t ht => ?_, fun t ht => ?_⟩, fun j hj => ?_, fun t ht => ?_, ?_, ?_, fun i hi => ?_⟩
  · by_cases e : j = k ∧ w = 3
    · obtain ⟨rfl, rfl⟩ := e
      rw [upd_s]
      exact ⟨d, Nat.le_refl _, (h3 rfl).trans d2⟩
    · rw [upd_n (by omega)]; exact d3 j hj
  · rw [upd_n (by omega)]; exact w1 t ht
  · rw [upd_n (by omega), upd_n (by omega)]; exact w2 t ht
  · by_cases e : j = k ∧ w = 0
    · obtain ⟨rfl, rfl⟩ := e
      rw [show 8 + 4 * j = 8 + 4 * j + 0 from rfl, upd_s]
      exact h0 rfl
    · rw [upd_n (by omega)]; exact hk6 j hj
  · rw [upd_n (by omega)]; exact hw1 t ht
  · rw [upd_n (by omega)]; exact h2
  · rw [upd_n (by omega)]; exact h3'
  · rw [upd_n (by omega)]; exact hsp i hi
theorem wf.low0 {s : Nat → Int32} {j : Nat} {x : Int32} (h : wf s) (hj : (1 ≤ j ∧ j < 8) ∨ 431 ≤ j) (h2 : ∃ c, c ≤ 60 ∧ upd s j x 2 = nI c) (h3 : ∃ c, c ≤ 24 ∧ upd s j x 3 = nI c) (h5 : ∀ i, i < 3 → ∃ v, 1 ≤ v ∧ v ≤ 30 ∧ upd s j x (5 + i) = nI v) : wf (upd s j x) := by
  obtain ⟨⟨t0, t1, ⟨d, d1, d2, d3⟩, w1, w2⟩, hk6, hw1, a2, a3, hsp⟩ := h
  have he : eqT s (upd s j x) := fun j h1 h2 => upd_n (by omega)
  exact ⟨⟨he.ok (by decide) t0, he.ok (by decide) t1, ⟨d, d1, by rw [upd_n (by omega)]; exact d2, fun k hk => by rw [upd_n (by omega)]; exact d3 k hk⟩, fun t ht => by rw [upd_n (by omega)]; exact w1 t ht, fun t ht => by rw [upd_n (by omega), upd_n (by omega)]; exact w2 t ht⟩, fun k hk => by rw [upd_n (by omega)]; exact hk6 k hk, fun t ht => by rw [upd_n (by omega)]; exact hw1 t ht, h2, h3, h5⟩
theorem wf.low {s : Nat → Int32} {j : Nat} {x : Int32} (h : wf s) (hj : j = 1 ∨ j = 4 ∨ 431 ≤ j) : wf (upd s j x) := by
  refine h.low0 (by omega) ?_ ?_ ?_
  · rw [upd_n (by omega)]; exact h.2.2.2.1
  · rw [upd_n (by omega)]; exact h.2.2.2.2.1
  · intro i hi
    rw [upd_n (by omega)]; exact h.2.2.2.2.2 i hi
theorem wf.taped {s : Nat → Int32} {c : Nat} (h : wf s) (hc : c ≤ 60) : wf (upd s 2 (nI c)) := by
  refine h.low0 (by omega) ⟨c, hc, upd_s⟩ ?_ ?_
  · rw [upd_n (by omega)]; exact h.2.2.2.2.1
  · intro i hi
    rw [upd_n (by omega)]; exact h.2.2.2.2.2 i hi
theorem wf.waits {s : Nat → Int32} {c : Nat} (h : wf s) (hc : c ≤ 24) : wf (upd s 3 (nI c)) := by
  refine h.low0 (by omega) ?_ ⟨c, hc, upd_s⟩ ?_
  · rw [upd_n (by omega)]; exact h.2.2.2.1
  · intro i hi
    rw [upd_n (by omega)]; exact h.2.2.2.2.2 i hi
theorem wf.speed {s : Nat → Int32} {k v : Nat} (h : wf s) (hk : k < 3) (h1 : 1 ≤ v) (h2 : v ≤ 30) : wf (upd s (5 + k) (nI v)) := by
  refine h.low0 (by omega) ?_ ?_ ?_
  · rw [upd_n (by omega)]; exact h.2.2.2.1
  · rw [upd_n (by omega)]; exact h.2.2.2.2.1
  · intro i hi
    by_cases e : i = k
    · subst e; rw [upd_s]; exact ⟨v, h1, h2, rfl⟩
    · rw [upd_n (by omega)]; exact h.2.2.2.2.2 i hi
theorem wf.worn {s : Nat → Int32} {t w : Nat} (h : wf s) (ht : t < 31) (hw : w ≤ 99) (hg : s (88 + 3 * t) = 0 → w = 0) : wf (upd s (88 + 3 * t + 1) (nI w)) := by
  obtain ⟨⟨t0, t1, ⟨d, d1, d2, d3⟩, w1, w2⟩, hk6, hw1, a2, a3, hsp⟩ := h
  have he : eqT s (upd s (88 + 3 * t + 1) (nI w)) := fun j h1 h2 => upd_n (by omega)
  refine ⟨⟨he.ok (by decide) t0, he.ok (by decide) t1, ⟨d, d1, by rw [upd_n (by omega)]; exact d2, fun k hk => by rw [upd_n (by omega)]; exact d3 k hk⟩, fun i hi => ?_, fun i hi => ?_⟩, fun k hk => by rw [upd_n (by omega)]; exact hk6 k hk, fun t ht => by rw [upd_n (by omega)]; exact hw1 t ht, by rw [upd_n (by omega)]; exact a2, by rw [upd_n (by omega)]; exact a3, fun i hi => by rw [upd_n (by omega)]; exact hsp i hi⟩
  · by_cases e : i = t
    · subst e; rw [upd_s]; exact ⟨w, hw, rfl⟩
    · rw [upd_n (by omega)]; exact w1 i hi
  · by_cases e : i = t
    · subst e
      rw [upd_s, upd_n (by omega)]
      exact fun q => by rw [hg q]; rfl
    · rw [upd_n (by omega), upd_n (by omega)]; exact w2 i hi
theorem wf.lose {s : Nat → Int32} {t : Nat} (h : wf s) (ht : t < 31) : wf (upd (upd s (88 + 3 * t + 0) 0) (88 + 3 * t + 1) 0) := by
  obtain ⟨⟨t0, t1, ⟨d, d1, d2, d3⟩, w1, w2⟩, hk6, hw1, a2, a3, hsp⟩ := h
  have he : eqT s (upd (upd s (88 + 3 * t + 0) 0) (88 + 3 * t + 1) 0) := fun j h1 h2 => by rw [upd_n (by omega), upd_n (by omega)]
  have lo : ∀ j, j < 88 → upd (upd s (88 + 3 * t + 0) 0) (88 + 3 * t + 1) 0 j = s j := fun j hj => by rw [upd_n (by omega), upd_n (by omega)]
  refine ⟨⟨he.ok (by decide) t0, he.ok (by decide) t1, ⟨d, d1, by rw [lo _ (by omega)]; exact d2, fun k hk => by rw [lo _ (by omega)]; exact d3 k hk⟩, fun i hi => ?_, fun i hi => ?_⟩, fun k hk => by rw [lo _ (by omega)]; exact hk6 k hk, fun i hi => ?_, by rw [lo _ (by omega)]; exact a2, by rw [lo _ (by omega)]; exact a3, fun i hi => by rw [lo _ (by omega)]; exact hsp i hi⟩
  · by_cases e : i = t
    · subst e; rw [upd_s]; exact ⟨0, by decide, rfl⟩
    · rw [upd_n (by omega), upd_n (by omega)]; exact w1 i hi
  · by_cases e : i = t
    · subst e
      rw [upd_s]
      exact fun _ => rfl
    · rw [upd_n (by omega), upd_n (by omega), upd_n (by omega), upd_n (by omega)]; exact w2 i hi
  · by_cases e : i = t
    · subst e
      rw [upd_n (by omega), show 88 + 3 * i = 88 + 3 * i + 0 from rfl, upd_s]
      exact Or.inl rfl
    · rw [upd_n (by omega), upd_n (by omega)]; exact hw1 i hi
theorem wf.renew {s : Nat → Int32} {t : Nat} {x : Int32} (h : wf s) (ht : t < 31) : wf (upd (upd (upd s (88 + 3 * t + 0) 1) (88 + 3 * t + 1) 0) (88 + 3 * t + 2) x) := by
  obtain ⟨⟨t0, t1, ⟨d, d1, d2, d3⟩, w1, w2⟩, hk6, hw1, a2, a3, hsp⟩ := h
  have he : eqT s (upd (upd (upd s (88 + 3 * t + 0) 1) (88 + 3 * t + 1) 0) (88 + 3 * t + 2) x) := fun j h1 h2 => by rw [upd_n (by omega), upd_n (by omega), upd_n (by omega)]
  have lo : ∀ j, j < 88 → upd (upd (upd s (88 + 3 * t + 0) 1) (88 + 3 * t + 1) 0) (88 + 3 * t + 2) x j = s j := fun j hj => by rw [upd_n (by omega), upd_n (by omega), upd_n (by omega)]
  refine ⟨⟨he.ok (by decide) t0, he.ok (by decide) t1, ⟨d, d1, by rw [lo _ (by omega)]; exact d2, fun k hk => by rw [lo _ (by omega)]; exact d3 k hk⟩, fun i hi => ?_, fun i hi => ?_⟩, fun k hk => by rw [lo _ (by omega)]; exact hk6 k hk, fun i hi => ?_, by rw [lo _ (by omega)]; exact a2, by rw [lo _ (by omega)]; exact a3, fun i hi => by rw [lo _ (by omega)]; exact hsp i hi⟩
  · by_cases e : i = t
    · subst e; rw [upd_n (by omega), upd_s]; exact ⟨0, by decide, rfl⟩
    · rw [upd_n (by omega), upd_n (by omega), upd_n (by omega)]; exact w1 i hi
  · by_cases e : i = t
    · subst e
      rw [upd_n (by omega), upd_n (by omega), show 88 + 3 * i = 88 + 3 * i + 0 from rfl, upd_s]
      exact fun q => absurd q (by decide)
    · rw [upd_n (by omega), upd_n (by omega), upd_n (by omega), upd_n (by omega), upd_n (by omega), upd_n (by omega)]; exact w2 i hi
  · by_cases e : i = t
    · subst e
      rw [upd_n (by omega), upd_n (by omega), show 88 + 3 * i = 88 + 3 * i + 0 from rfl, upd_s]
      exact Or.inr rfl
    · rw [upd_n (by omega), upd_n (by omega), upd_n (by omega)]; exact hw1 i hi
theorem dl_whole {s : Nat → Int32} (h : ∀ t, t < 31 → s (88 + 3 * t) = 0 ∨ s (88 + 3 * t) = 1) {i t : Nat} (ht : t < 31) : dl s i (88 + 3 * t) = 0 ∨ dl s i (88 + 3 * t) = 1 := by
  rw [show 88 + 3 * t = 88 + 3 * t + 0 from rfl, dl_at (by decide)]
  split
  · exact Or.inl rfl
  · rw [dw_at (by decide), if_neg (by omega)]
    exact h t ht
theorem dayN_at {s : Nat → Int32} {j : Nat} (hj : (1 ≤ j ∧ j < 88) ∨ 181 ≤ j) : ∀ n, dayN s n j = s j
  | 0 => rfl
  | n + 1 => by
    show dayS (dayN s n) j = s j
    unfold dayS
    rw [upd_n (by omega), dl_lo (by omega), dayN_at hj n]
theorem dayN_0 {s : Nat → Int32} {d : Nat} (h : s 0 = nI d) : ∀ n, dayN s n 0 = nI (d + n)
  | 0 => h
  | n + 1 => by
    show dayS (dayN s n) 0 = _
    unfold dayS
    rw [upd_s, dayN_0 h n, nI_1]
    rfl
theorem dayN_whole {s : Nat → Int32} (h : ∀ t, t < 31 → s (88 + 3 * t) = 0 ∨ s (88 + 3 * t) = 1) : ∀ n t, t < 31 → dayN s n (88 + 3 * t) = 0 ∨ dayN s n (88 + 3 * t) = 1
  | 0 => h
  | n + 1 => fun t ht => by
    show dayS (dayN s n) (88 + 3 * t) = 0 ∨ dayS (dayN s n) (88 + 3 * t) = 1
    unfold dayS
    rw [upd_n (by omega)]
    exact dl_whole (dayN_whole h n) ht
theorem wf.days {s : Nat → Int32} {d n : Nat} (h : wf s) (h0 : s 0 = nI d) (hd : d + n ≤ 9999) : wf (dayN s n) := by
  obtain ⟨hd0, hk6, hw1, a2, a3, hsp⟩ := h
  have e := dayN_ok hd0 n
  obtain ⟨t0, t1, ⟨d', d1, d2, d3⟩, w1, w2⟩ := e
  refine ⟨⟨t0, t1, ⟨d + n, hd, dayN_0 h0 n, fun k hk => ?_⟩, w1, w2⟩, fun k hk => by rw [dayN_at (by omega)]; exact hk6 k hk, dayN_whole hw1 n, by rw [dayN_at (by omega)]; exact a2, by rw [dayN_at (by omega)]; exact a3, fun i hi => by rw [dayN_at (by omega)]; exact hsp i hi⟩
  obtain ⟨-, -, ⟨d4, c1, c2, c3⟩, -, -⟩ := hd0
  obtain ⟨e, e1, e2⟩ := c3 k hk
  have : d4 = d := by
    have := c2.symm.trans h0
    exact (nI_eq (by omega) (by omega)).mp this
  exact ⟨e, by omega, by rw [dayN_at (by omega)]; exact e2⟩
