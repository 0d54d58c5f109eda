/-! CUTS -/
def scA (b : Nat) (m m' : xM2) : Prop := m'.2 = m.2 ∧ ∀ a, a ≠ b → m'.1 a = m.1 a
theorem scA.rf {b : Nat} {m : xM2} : scA b m m := ⟨rfl, fun _ _ => rfl⟩
theorem scA.tr {b : Nat} {m m1 m2 : xM2} (h : scA b m m1) (g : scA b m1 m2) : scA b m m2 := ⟨g.1.trans h.1, fun a ha => (g.2 a ha).trans (h.2 a ha)⟩
theorem scA.set {b : Nat} {m : xM2} {f : Nat → Int32} : scA b m (sA m b f) := ⟨rfl, fun _ ha => sA_n ha⟩
theorem scA.R {b : Nat} {m m' : xM2} (h : scA b m m') (hb : 89 ≤ b ∧ b ≠ 91 ∧ b ≠ 93 ∧ b ≠ 100 ∧ b ≠ 101 ∧ b ≠ 102 ∧ b ≠ 103 := by decide) : kpR m m' := ⟨fun a ha => ⟨h.2 a (by omega), by rw [h.1]⟩, h.2 _ (by omega), h.2 _ (by omega), h.2 _ (by omega), h.2 _ (by omega), h.2 _ (by omega), h.2 _ (by omega), by rw [h.1], by rw [h.1]⟩
theorem scA.C {b : Nat} {m m' : xM2} (h : scA b m m') (hb : b < 19 ∨ (37 ≤ b ∧ b < 77) := by decide) : kpC m m' := ⟨fun a ha => ⟨h.2 a (by omega), by rw [h.1]⟩, by rw [h.1]⟩
theorem bt_add {x : Int32} {t u : Nat} (ht : t < 31) (hu : u < 32) : bt (x ||| ji_shl 1 (nI t)) u = (bt x u || decide (u = t)) := by rw [b_or, bt_shl1 (by omega) hu]
theorem lo_add {x : Int32} {t : Nat} (hl : lo 31 x) (ht : t < 31) : lo 31 (x ||| ji_shl 1 (nI t)) := fun i hi h => by rw [bt_add ht hi, hl i hi h]; simp; omega
theorem xor_0 (y : Int32) : y ^^^ 0 = y := b_ext fun i _ => by rw [b_xor, b_0, Bool.xor_false]
theorem odd_add {x : Int32} {t : Nat} (ht : t < 31) (hx : bt x t = false) : ∀ n, n ≤ 31 → oddE (x ||| ji_shl 1 (nI t)) n = if t < n then oddE x n ^^^ fm_X0_endsOf (nI t) else oddE x n
  | 0, _ => by rw [if_neg (by omega)]; rfl
  | n + 1, hn => by
    have ih := odd_add ht hx n (by omega)
    rw [oddE, oddE, ih, bt_add ht (by omega)]
    by_cases e : n = t
    · subst e
      rw [if_neg (show ¬ n < n by omega), if_pos (show n < n + 1 by omega), hx]
      simp [xor_0]
    · by_cases q : t < n
      · rw [if_pos q, if_pos (show t < n + 1 by omega)]
        apply b_ext
        intro i _
        simp only [b_xor, e, decide_false, Bool.or_false]
        cases bt (oddE x n) i <;> cases bt (fm_X0_endsOf (nI t)) i <;> simp
      · rw [if_neg q, if_neg (show ¬ t < n + 1 by omega)]
        simp [e]
def chW (p k : Nat) (f : Nat → Nat) (b : Nat) (m m' : xM2) : Prop := scA b m m' ∧ (∀ i, i < p → m'.1 b i = m.1 b i) ∧ ∀ i, p ≤ i → i < p + k → m'.1 b i = nI (f i)
def chN (p : Nat) (b : Nat) (m m' : xM2) : Prop := scA b m m' ∧ ∀ i, i < p → m'.1 b i = m.1 b i
def chJ (p k : Nat) (C R : qx_H → Option (Int32 × qx_H)) : Prop :=
  (∃ f : Nat → Nat, (∀ m : xM2, ∃ m', C (mk m) = some (1, mk m') ∧ chW p k f 71 m m') ∧ ∀ m : xM2, ∃ m', R (mk m) = some (1, mk m') ∧ chW p k f 97 m m') ∨
  ((∀ m : xM2, ∃ m', C (mk m) = some (0, mk m') ∧ chN p 71 m m') ∧ ∀ m : xM2, ∃ m', R (mk m) = some (0, mk m') ∧ chN p 97 m m')
theorem len71 (m : xM2) : hp_len (mk m) 71 = some 3 := rfl
theorem cut_all : ∀ (k p fc fr : Nat) (x : Int32) (t0 : Nat), p + k ≤ 3 → k < fc → k < fr → lo 31 x → t0 ≤ 31 → chJ p k (fm_X4_choose fc 71 (nI p) (nI (p + k)) (nI t0) x (oddE x 31)) (fm_X11_cutsTo fr 89 x (nI t0) (nI p) (nI (p + k))) := by
  intro k
  induction k with
  | zero =>
    intro p fc fr x t0 hp h1 h2 hl ht
    obtain ⟨fc, rfl⟩ : ∃ n, fc = n + 1 := ⟨fc - 1, by omega⟩
    obtain ⟨fr, rfl⟩ : ∃ n, fr = n + 1 := ⟨fr - 1, by omega⟩
    have cC : ∀ m : xM2, fm_X4_choose (fc + 1) 71 (nI p) (nI (p + 0)) (nI t0) x (oddE x 31) (mk m) = (fm_X4_isOneRunBy x (oddE x 31) (mk m)).bind fun v => some (v, mk m) := fun m => by
      show fm_X4_choose (fc + 1) 71 (nI p) (nI p) (nI t0) x (oddE x 31) (mk m) = _
      rw [fm_X4_choose, fm_X4_choose_e, if_pos (Int32.le_refl _), fm_X4_choose_b11]
    have cR : ∀ m : xM2, fm_X11_cutsTo (fr + 1) 89 x (nI t0) (nI p) (nI (p + 0)) (mk m) = (fm_X11_isOneRun x (mk m)).bind fun v => some (v, mk m) := fun m => by
      show fm_X11_cutsTo (fr + 1) 89 x (nI t0) (nI p) (nI p) (mk m) = _
      rw [fm_X11_cutsTo, fm_X11_cutsTo_e, if_pos rfl]
    by_cases o : one x
    · refine Or.inl ⟨fun _ => 0, fun m => ⟨m, ?_, scA.rf, fun _ _ => rfl, fun i a b => absurd b (by omega)⟩, fun m => ⟨m, ?_, scA.rf, fun _ _ => rfl, fun i a b => absurd b (by omega)⟩⟩
      · rcases one_by hl (mk m) with ⟨_, q⟩ | ⟨o', _⟩
        · rw [cC, q, Option.bind_some]
        · exact absurd o o'
      · rcases one_r hl (mk m) with ⟨_, q⟩ | ⟨o', _⟩
        · rw [cR, q, Option.bind_some]
        · exact absurd o o'
    · refine Or.inr ⟨fun m => ⟨m, ?_, scA.rf, fun _ _ => rfl⟩, fun m => ⟨m, ?_, scA.rf, fun _ _ => rfl⟩⟩
      · rcases one_by hl (mk m) with ⟨o', _⟩ | ⟨_, q⟩
        · exact absurd o' o
        · rw [cC, q, Option.bind_some]
      · rcases one_r hl (mk m) with ⟨o', _⟩ | ⟨_, q⟩
        · exact absurd o' o
        · rw [cR, q, Option.bind_some]
  | succ k ih =>
    intro p fc fr x t0 hp h1 h2 hl ht
    obtain ⟨fc, rfl⟩ : ∃ n, fc = n + 1 := ⟨fc - 1, by omega⟩
    obtain ⟨fr, rfl⟩ : ∃ n, fr = n + 1 := ⟨fr - 1, by omega⟩
    have key : ∀ (j t n n' : Nat), t + j = 31 → j < n → j < n' → chJ p (k + 1) (fm_X4_choose_b22 (fm_X4_choose fc) n 71 (nI p) (nI (p + (k + 1))) x (oddE x 31) (nI t)) (fm_X11_cutsTo_b14 (fm_X11_cutsTo fr) n' 89 x (nI p) (nI (p + (k + 1))) (nI t)) := by
      intro j
      induction j with
      | zero =>
        intro t n n' hj hn hn'
        obtain ⟨n, rfl⟩ : ∃ z, n = z + 1 := ⟨n - 1, by omega⟩
        obtain ⟨n', rfl⟩ : ∃ z, n' = z + 1 := ⟨n' - 1, by omega⟩
        have : t = 31 := by omega
        subst this
        refine Or.inr ⟨fun m => ⟨m, ?_, scA.rf, fun _ _ => rfl⟩, fun m => ⟨m, ?_, scA.rf, fun _ _ => rfl⟩⟩
        · rw [fm_X4_choose_b22, if_pos le31]
        · rw [fm_X11_cutsTo_b14, if_pos le31]
      | succ j ihj =>
        intro t n n' hj hn hn'
        obtain ⟨n, rfl⟩ : ∃ z, n = z + 1 := ⟨n - 1, by omega⟩
        obtain ⟨n', rfl⟩ : ∃ z, n' = z + 1 := ⟨n' - 1, by omega⟩
        have t31 : t < 31 := by omega
        have nxt := ihj (t + 1) n n' (by omega) (by omega) (by omega)
        cases e : bt x t
        · have sub := ih (p + 1) fc fr (x ||| ji_shl 1 (nI t)) (t + 1) (by omega) (by omega) (by omega) (lo_add hl t31) (by omega)
          rw [odd_add t31 e 31 (by decide), if_pos t31, show p + 1 + k = p + (k + 1) by omega] at sub
          have cC : ∀ m : xM2, fm_X4_choose_b22 (fm_X4_choose fc) (n + 1) 71 (nI p) (nI (p + (k + 1))) x (oddE x 31) (nI t) (mk m) = ob2 (fm_X4_choose fc 71 (nI (p + 1)) (nI (p + (k + 1))) (nI (t + 1)) (x ||| ji_shl 1 (nI t)) (oddE x 31 ^^^ fm_X0_endsOf (nI t)) (mk m)) fun v63 H63 => if v63 = 0 then fm_X4_choose_b76 (fm_X4_choose fc) (fm_X4_choose_b22 (fm_X4_choose fc) n) 71 (nI p) (nI (p + (k + 1))) x (oddE x 31) (nI t) H63 else (hp_ast H63 71 (nI p) (nI t)).bind fun H73 => some (1, H73) := fun m => by
            rw [fm_X4_choose_b22, if_neg (n31 t31), if_pos ((bt_in0 (by omega) x).mpr e), nI_1, nI_1]
          have cR : ∀ m : xM2, fm_X11_cutsTo_b14 (fm_X11_cutsTo fr) (n' + 1) 89 x (nI p) (nI (p + (k + 1))) (nI t) (mk m) = ob2 (fm_X11_cutsTo fr 89 (x ||| ji_shl 1 (nI t)) (nI (t + 1)) (nI (p + 1)) (nI (p + (k + 1))) (mk (sA m 97 (upd (m.1 97) p (nI t))))) fun v54 H54 => if v54 = 0 then fm_X11_cutsTo_b62 (fm_X11_cutsTo fr) (fm_X11_cutsTo_b14 (fm_X11_cutsTo fr) n') 89 x (nI p) (nI (p + (k + 1))) (nI t) H54 else some (1, H54) := fun m => by
            rw [fm_X11_cutsTo_b14, if_neg (n31 t31), isIn_eq (by omega), e, if_pos (by decide), gR_89_12, Option.bind_some, as_97 m (show p < 3 by omega), Option.bind_some, if_pos (his_89 _), nI_1, nI_1]
          rcases sub with ⟨f, s1, s2⟩ | ⟨s1, s2⟩
          · refine Or.inl ⟨fun i => if i = p then t else f i, fun m => ?_, fun m => ?_⟩
            · obtain ⟨m', a, b, c, d⟩ := s1 m
              refine ⟨sA m' 71 (upd (m'.1 71) p (nI t)), ?_, b.tr scA.set, fun i hi => ?_, fun i h1 h2 => ?_⟩
              · rw [cC, a, ob2_some, if_neg one_ne, as_71 m' (show p < 3 by omega), Option.bind_some]
              · rw [sA_s, upd_n (by omega)]; exact c i (by omega)
              · rw [sA_s]
                by_cases q : i = p
                · rw [q, upd_s]
                  show nI t = nI (if p = p then t else f p)
                  rw [if_pos rfl]
                · rw [upd_n q]
                  show m'.1 71 i = nI (if i = p then t else f i)
                  rw [if_neg q]; exact d i (by omega) (by omega)
            · obtain ⟨m', a, b, c, d⟩ := s2 (sA m 97 (upd (m.1 97) p (nI t)))
              refine ⟨m', ?_, scA.set.tr b, fun i hi => ?_, fun i h1 h2 => ?_⟩
              · rw [cR, a, ob2_some, if_neg one_ne]
              · rw [c i (by omega), sA_s, upd_n (by omega)]
              · by_cases q : i = p
                · rw [q, c p (by omega), sA_s, upd_s]
                  show nI t = nI (if p = p then t else f p)
                  rw [if_pos rfl]
                · show m'.1 97 i = nI (if i = p then t else f i)
                  rw [if_neg q]; exact d i (by omega) (by omega)
          · rcases nxt with ⟨f, n1, n2⟩ | ⟨n1, n2⟩
            · refine Or.inl ⟨f, fun m => ?_, fun m => ?_⟩
              · obtain ⟨m', a, b, c⟩ := s1 m
                obtain ⟨m2, a2, b2, c2, d2⟩ := n1 m'
                exact ⟨m2, by rw [cC, a, ob2_some, if_pos rfl, fm_X4_choose_b76, nI_1, a2], b.tr b2, fun i hi => (c2 i hi).trans (c i (by omega)), d2⟩
              · obtain ⟨m', a, b, c⟩ := s2 (sA m 97 (upd (m.1 97) p (nI t)))
                obtain ⟨m2, a2, b2, c2, d2⟩ := n2 m'
                exact ⟨m2, by rw [cR, a, ob2_some, if_pos rfl, fm_X11_cutsTo_b62, nI_1, a2], (scA.set.tr b).tr b2, fun i hi => (c2 i hi).trans ((c i (by omega)).trans (by rw [sA_s, upd_n (by omega)])), d2⟩
            · refine Or.inr ⟨fun m => ?_, fun m => ?_⟩
              · obtain ⟨m', a, b, c⟩ := s1 m
                obtain ⟨m2, a2, b2, c2⟩ := n1 m'
                exact ⟨m2, by rw [cC, a, ob2_some, if_pos rfl, fm_X4_choose_b76, nI_1, a2], b.tr b2, fun i hi => (c2 i hi).trans (c i (by omega))⟩
              · obtain ⟨m', a, b, c⟩ := s2 (sA m 97 (upd (m.1 97) p (nI t)))
                obtain ⟨m2, a2, b2, c2⟩ := n2 m'
                exact ⟨m2, by rw [cR, a, ob2_some, if_pos rfl, fm_X11_cutsTo_b62, nI_1, a2], (scA.set.tr b).tr b2, fun i hi => (c2 i hi).trans ((c i (by omega)).trans (by rw [sA_s, upd_n (by omega)]))⟩
        · have cC : ∀ m : xM2, fm_X4_choose_b22 (fm_X4_choose fc) (n + 1) 71 (nI p) (nI (p + (k + 1))) x (oddE x 31) (nI t) (mk m) = fm_X4_choose_b22 (fm_X4_choose fc) n 71 (nI p) (nI (p + (k + 1))) x (oddE x 31) (nI (t + 1)) (mk m) := fun m => by
            rw [fm_X4_choose_b22, if_neg (n31 t31), if_neg (fun q => by rw [bt_in0 (by omega), e] at q; cases q), fm_X4_choose_b76, nI_1]
          have cR : ∀ m : xM2, fm_X11_cutsTo_b14 (fm_X11_cutsTo fr) (n' + 1) 89 x (nI p) (nI (p + (k + 1))) (nI t) (mk m) = fm_X11_cutsTo_b14 (fm_X11_cutsTo fr) n' 89 x (nI p) (nI (p + (k + 1))) (nI (t + 1)) (mk m) := fun m => by
            rw [fm_X11_cutsTo_b14, if_neg (n31 t31), isIn_eq (by omega), e, if_neg (by decide), fm_X11_cutsTo_b62, nI_1]
          rcases nxt with ⟨f, n1, n2⟩ | ⟨n1, n2⟩
          · exact Or.inl ⟨f, fun m => by rw [cC]; exact n1 m, fun m => by rw [cR]; exact n2 m⟩
          · exact Or.inr ⟨fun m => by rw [cC]; exact n1 m, fun m => by rw [cR]; exact n2 m⟩
    have top := key (31 - t0) t0 5000 5000 (by omega) (by omega) (by omega)
    have cC : ∀ m : xM2, fm_X4_choose (fc + 1) 71 (nI p) (nI (p + (k + 1))) (nI t0) x (oddE x 31) (mk m) = fm_X4_choose_b22 (fm_X4_choose fc) 5000 71 (nI p) (nI (p + (k + 1))) x (oddE x 31) (nI t0) (mk m) := fun m => by
      have l3 : nI p < 3 := nI_lt (b := 3) (by omega) (by decide)
      rw [fm_X4_choose, fm_X4_choose_e, if_neg (nI_ge (by omega) (by omega)), len71, Option.bind_some, if_pos l3]
    have cR : ∀ m : xM2, fm_X11_cutsTo (fr + 1) 89 x (nI t0) (nI p) (nI (p + (k + 1))) (mk m) = fm_X11_cutsTo_b14 (fm_X11_cutsTo fr) 5000 89 x (nI p) (nI (p + (k + 1))) (nI t0) (mk m) := fun m => by
      rw [fm_X11_cutsTo, fm_X11_cutsTo_e, if_neg (fun q => by have := (nI_eq (by omega) (by omega)).mp q; omega)]
    rcases top with ⟨f, n1, n2⟩ | ⟨n1, n2⟩
    · exact Or.inl ⟨f, fun m => by rw [cC]; exact n1 m, fun m => by rw [cR]; exact n2 m⟩
    · exact Or.inr ⟨fun m => by rw [cC]; exact n1 m, fun m => by rw [cR]; exact n2 m⟩
theorem cuts_l {x a : Int32} (hl : lo 31 x) : ∀ (d n fc fr : Nat), n + d = 4 → d < fc → d + 1 < fr →
    (∃ (N : Nat) (f : Nat → Nat), N < 4 ∧ (∀ m : xM2, ∃ m', fm_X4_fewestCuts_b13 fc 70 x (oddE x 31) (nI n) (mk m) = some (nI N, mk m') ∧ scA 71 m m' ∧ ∀ i, i < N → m'.1 71 i = nI (f i)) ∧ ∀ m : xM2, ∃ m', fm_X11_cuts_b33 fr 89 a x (nI n) 0 (mk m) = fm_X11_cuts_b69 89 a x (nI N) 1 (mk m') ∧ scA 97 m m' ∧ ∀ i, i < N → m'.1 97 i = nI (f i)) ∨
    ((∀ m : xM2, ∃ m', fm_X4_fewestCuts_b13 fc 70 x (oddE x 31) (nI n) (mk m) = some (-1, mk m') ∧ scA 71 m m') ∧ ∀ m : xM2, ∃ m', fm_X11_cuts_b33 fr 89 a x (nI n) 0 (mk m) = fm_X11_cuts_b69 89 a x (nI 4) 0 (mk m') ∧ scA 97 m m') := by
  intro d
  induction d with
  | zero =>
    intro n fc fr hn h1 h2
    obtain ⟨fc, rfl⟩ : ∃ z, fc = z + 1 := ⟨fc - 1, by omega⟩
    obtain ⟨fr, rfl⟩ : ∃ z, fr = z + 1 := ⟨fr - 1, by omega⟩
    have : n = 4 := by omega
    subst this
    refine Or.inr ⟨fun m => ⟨m, ?_, scA.rf⟩, fun m => ⟨m, ?_, scA.rf⟩⟩
    · rw [fm_X4_fewestCuts_b13, if_pos (by decide)]
    · rw [fm_X11_cuts_b33, if_pos rfl, if_pos (by decide)]
  | succ d ih =>
    intro n fc fr hn h1 h2
    obtain ⟨fc, rfl⟩ : ∃ z, fc = z + 1 := ⟨fc - 1, by omega⟩
    obtain ⟨fr, rfl⟩ : ∃ z, fr = z + 1 := ⟨fr - 1, by omega⟩
    have cC : ∀ m : xM2, fm_X4_fewestCuts_b13 (fc + 1) 70 x (oddE x 31) (nI n) (mk m) = ob2 (fm_X4_choose 8 71 0 (nI n) 0 x (oddE x 31) (mk m)) fun v27 H27 => if v27 = 0 then fm_X4_fewestCuts_b13 fc 70 x (oddE x 31) (nI (n + 1)) H27 else some (nI n, H27) := fun m => by
      have l3 : ¬ (3 : Int32) < nI n := nI_nlt (a := 3) (by omega) (by decide)
      rw [fm_X4_fewestCuts_b13, if_neg l3, gR_70_0, Option.bind_some, nI_1]
    have cR : ∀ m : xM2, fm_X11_cuts_b33 (fr + 1) 89 a x (nI n) 0 (mk m) = ob2 (fm_X11_cutsTo 8 89 x 0 0 (nI n) (mk m)) fun v48 H48 => fm_X11_cuts_b33 fr 89 a x (nI n + (if v48 = 0 then 1 else 0)) v48 H48 := fun m => by
      have l4 : ¬ (4 : Int32) ≤ nI n := nI_ge (b := 4) (by omega) (by decide)
      rw [fm_X11_cuts_b33, if_pos rfl, if_neg l4, if_pos (his_89 m)]
    have top := cut_all n 0 8 8 x 0 (by omega) (by omega) (by omega) hl (by omega)
    rw [Nat.zero_add, show nI 0 = 0 from rfl] at top
    have nxt := ih (n + 1) fc fr (by omega) (by omega) (by omega)
    rcases top with ⟨f, t1, t2⟩ | ⟨t1, t2⟩
    · refine Or.inl ⟨n, f, by omega, fun m => ?_, fun m => ?_⟩
      · obtain ⟨m', b1, b2, -, b4⟩ := t1 m
        exact ⟨m', by rw [cC, b1, ob2_some, if_neg one_ne], b2, fun i hi => b4 i (by omega) (by omega)⟩
      · obtain ⟨m', b1, b2, -, b4⟩ := t2 m
        obtain ⟨fr, rfl⟩ : ∃ z, fr = z + 1 := ⟨fr - 1, by omega⟩
        refine ⟨m', ?_, b2, fun i hi => b4 i (by omega) (by omega)⟩
        rw [cR, b1, ob2_some, if_neg one_ne, show nI n + 0 = nI n from nI_add n 0, fm_X11_cuts_b33, if_neg one_ne]
    · rcases nxt with ⟨N, f, n1, n2, n3⟩ | ⟨n2, n3⟩
      · refine Or.inl ⟨N, f, n1, fun m => ?_, fun m => ?_⟩
        · obtain ⟨m', b1, b2, -⟩ := t1 m
          obtain ⟨m2, c1, c2, c3⟩ := n2 m'
          exact ⟨m2, by rw [cC, b1, ob2_some, if_pos rfl, c1], b2.tr c2, c3⟩
        · obtain ⟨m', b1, b2, -⟩ := t2 m
          obtain ⟨m2, c1, c2, c3⟩ := n3 m'
          exact ⟨m2, by rw [cR, b1, ob2_some, if_pos rfl, nI_1, c1], b2.tr c2, c3⟩
      · refine Or.inr ⟨fun m => ?_, fun m => ?_⟩
        · obtain ⟨m', b1, b2, -⟩ := t1 m
          obtain ⟨m2, c1, c2⟩ := n2 m'
          exact ⟨m2, by rw [cC, b1, ob2_some, if_pos rfl, c1], b2.tr c2⟩
        · obtain ⟨m', b1, b2, -⟩ := t2 m
          obtain ⟨m2, c1, c2⟩ := n3 m'
          exact ⟨m2, by rw [cR, b1, ob2_some, if_pos rfl, nI_1, c1], b2.tr c2⟩
theorem p_cuts {m : xM2} (h : Rel m) (a : Int32) : pr m (fm_X10_cuts 0 a) (fm_X11_cuts 89 a) := by
  have g9 := h.1.g9
  by_cases hin : -1 ≤ a ∧ a ≤ 2
  · have ea : fm_X11_in a (-1) 2 = 1 := by rw [in_eq, if_pos hin]
    obtain ⟨x, ex⟩ : ∃ x, x = goneS (m.1 90) := ⟨_, rfl⟩
    have hl : lo 31 x := by rw [ex]; exact lo_gone _
    have pre : ∀ r, fm_X4_fewestCuts 70 x (mk m) = r → fm_X10_cuts 0 a (mk m) = ob2 r fun v30 H30 => if v30 = (-1) then (fm_X10_cuts_b44 0 H30) else (if a < v30 then (if 0 ≤ a then ((hp_gR H30 0 8 5).bind fun v60 => (hp_gR H30 v60 2 0).bind fun v63 => (hp_ald H30 v63 a).bind fun v67 => some (v67, H30)) else (some (v30, H30))) else (fm_X10_cuts_b44 0 H30)) := fun r hr => by
      unfold fm_X10_cuts
      rw [within_in, ea, if_neg one_ne, gR_0_5, Option.bind_some, gR_0_0, Option.bind_some, gR_1_0, Option.bind_some, gI_2_9, Option.bind_some, g9, ← ex, if_pos (his_70 m), hr]
    have preR : ∀ m' : xM2, m'.1 90 = m.1 90 → fm_X11_cuts 89 a (mk m') = fm_X11_cuts_b33 5000 89 a x 0 (if x = 0 then 1 else 0) (mk m') := fun m' e => by
      unfold fm_X11_cuts
      rw [ea, if_neg one_ne, if_pos (his_89 m'), gone_ok, Option.bind_some, e, ← ex]
    have b44 : ∀ m : xM2, fm_X10_cuts_b44 0 (mk m) = fm_X10_refuse 0 (-1000000002) (mk m) := fun m => by
      rw [fm_X10_cuts_b44, if_pos (his_0 m), ob2_eta]
    have b83 : ∀ m : xM2, fm_X11_cuts_b83 89 (mk m) = fm_X11_error 89 2 (mk m) := fun m => by
      rw [fm_X11_cuts_b83, if_pos (his_89 m), ob2_eta]
    by_cases x0 : x = 0
    · refine h.e2 ?_ fun m' e => ?_
      · rw [pre (some (-1, mk m)) (by unfold fm_X4_fewestCuts; rw [if_pos x0]), ob2_some, if_pos rfl, b44]
      · rw [preR m' e.at, if_pos x0]
        show fm_X11_cuts_b33 (4999 + 1) 89 a x 0 1 (mk m') = _
        rw [fm_X11_cuts_b33, if_neg one_ne, fm_X11_cuts_b69, if_pos x0, b83]
    · have fc : ∀ m : xM2, fm_X4_fewestCuts 70 x (mk m) = fm_X4_fewestCuts_b13 5000 70 x (oddE x 31) 0 (mk m) := fun m => by
        unfold fm_X4_fewestCuts
        rw [if_neg x0, odd_ok, Option.bind_some]
      have L := cuts_l (a := a) hl 4 0 5000 5000 (by omega) (by omega) (by omega)
      rw [show nI 0 = 0 from rfl] at L
      rcases L with ⟨N, f, hN, c1, c2⟩ | ⟨c1, c2⟩
      · obtain ⟨m1, d1, d2, d3⟩ := c1 m
        have q1 : quayR m1 1 (m.1 90) := h.1.mv fun b h1 h2 => ⟨d2.2 b (by omega), by rw [d2.1]⟩
        have e90 : m1.1 90 = m.1 90 := d2.2 90 (by decide)
        have neN : ¬ nI N = -1 := fun e => by
          have := nI_pos' (show N < 2 ^ 31 by omega)
          rw [e] at this
          exact absurd this (by decide)
        by_cases lt : a < nI N
        · obtain ⟨m2, f1, f2, f3⟩ := c2 m1
          rcases m1_or hin.1 with ha | ⟨k, hk31, rfl⟩
          · refine h.see (v := nI N) (m1 := m1) (m2 := m2) ?_ ?_ d2.C q1 f2.R (f2.2 90 (by decide))
            · rw [pre _ (fc m), d1, ob2_some, if_neg neN, if_pos lt, if_neg (by rw [ha]; decide)]
            · rw [preR m1 e90, if_neg x0, f1, fm_X11_cuts_b69, if_neg x0, if_neg one_ne, if_pos lt, if_pos ha]
          · have kN : k < N := (nI_ltI hk31 (by omega)).mp lt
            have nk : ¬ nI k = -1 := fun e => by
              have := nI_pos' hk31
              rw [e] at this
              exact absurd this (by decide)
            refine h.see (v := nI (f k)) (m1 := m1) (m2 := m2) ?_ ?_ d2.C q1 f2.R (f2.2 90 (by decide))
            · rw [pre _ (fc m), d1, ob2_some, if_neg neN, if_pos lt, if_pos (nI_pos' hk31), gR_0_5, Option.bind_some, gR_70_0, Option.bind_some, al_71 m1 (show k < 3 by omega), Option.bind_some, d3 k kN]
            · rw [preR m1 e90, if_neg x0, f1, fm_X11_cuts_b69, if_neg x0, if_neg one_ne, if_pos lt, if_neg nk, gR_89_12, Option.bind_some, al_97 m2 (show k < 3 by omega), Option.bind_some, f3 k kN]
        · have r1 : Rel m1 := h.step d2.C kpR.rf q1 e90 h.2.1
          refine r1.errs (k := 2) (by decide) (by decide) ?_ fun m' e => ?_
          · rw [show (-1000000000 - nI 2 : Int32) = -1000000002 by decide, pre _ (fc m), d1, ob2_some, if_neg neN, if_neg lt, b44]
          · obtain ⟨m2, f1, f2, f3⟩ := c2 m'
            refine ⟨m2, f2.R, f2.2 90 (by decide), ?_⟩
            rw [preR m' (e.at.trans e90), if_neg x0, f1, fm_X11_cuts_b69, if_neg x0, if_neg one_ne, if_neg lt, b83]
            rfl
      · obtain ⟨m1, d1, d2⟩ := c1 m
        have q1 : quayR m1 1 (m.1 90) := h.1.mv fun b h1 h2 => ⟨d2.2 b (by omega), by rw [d2.1]⟩
        have e90 : m1.1 90 = m.1 90 := d2.2 90 (by decide)
        have r1 : Rel m1 := h.step d2.C kpR.rf q1 e90 h.2.1
        refine r1.errs (k := 2) (by decide) (by decide) ?_ fun m' e => ?_
        · rw [show (-1000000000 - nI 2 : Int32) = -1000000002 by decide, pre _ (fc m), d1, ob2_some, if_pos rfl, b44]
        · obtain ⟨m2, f1, f2⟩ := c2 m'
          refine ⟨m2, f2.R, f2.2 90 (by decide), ?_⟩
          rw [preR m' (e.at.trans e90), if_neg x0, f1, fm_X11_cuts_b69, if_neg x0, if_pos rfl, b83]
          rfl
  · have ea : fm_X11_in a (-1) 2 = 0 := by rw [in_eq, if_neg hin]
    refine h.e1 ?_ fun m' e => ?_ <;> simp only [fm_X10_cuts, fm_X11_cuts, below2, below3, below4, below5, below6, below7, below20, below31, below70, within_in, fm_X11_isKnot, fm_X11_isThread, fm_X11_isHand, fm_X11_isSheet, his_0, his_89, Option.bind_some, ob2_some, if_true, if_false, reduceIte, ob2_eta, one_ne, ea]
