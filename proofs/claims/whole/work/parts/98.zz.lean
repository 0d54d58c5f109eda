/-! A TEXT READ, BOTH SIDES -/
theorem inSS_at {u : Nat} {f g : Nat → Int32} : ∀ (S : List (Int32 × Int32)), inSS f S → inS g (itS u S) → ∀ k, k < S.length → g k = itm u (f (2 * k)) (f (2 * k + 1))
  | [], _, _, k, hk => absurd hk (Nat.not_lt_zero k)
  | p :: r, h, hg, k, hk => by
    have hk' : k < r.length + 1 := hk
    by_cases e : k = r.length
    · subst e
      have := hg.1
      rw [show List.map (fun p => itm u p.1 p.2) r = itS u r from rfl, itS_len] at this
      rw [this, h.1, h.2.1]
    · exact inSS_at r h.2.2 hg.2 k (by omega)
theorem tk_of {u : Nat} {f W V : Nat → Int32} : ∀ (S : List (Int32 × Int32)), inSS f S → vS u S → (∀ k, k < S.length → W k = f (2 * k) ∧ V k = f (2 * k + 1)) → tkD W S.length = dS S ∧ ∀ k, k < S.length → tkT u W V k
  | [], _, _, _ => ⟨rfl, fun k hk => absurd hk (Nat.not_lt_zero k)⟩
  | (w, v) :: r, h, hv, hW => by
    have ll : ((w, v) :: r).length = r.length + 1 := rfl
    obtain ⟨a, b⟩ := tk_of r h.2.2 hv.2 (fun k hk => hW k (by rw [ll]; omega))
    obtain ⟨w1, v1⟩ := hW r.length (by rw [ll]; omega)
    have ew : W r.length = w := w1.trans h.1
    have ev : V r.length = v := v1.trans h.2.1
    constructor
    · rw [ll, tkD, ew, a]
      rfl
    · intro k hk
      rw [ll] at hk
      by_cases e : k = r.length
      · subst e
        unfold tkT
        rw [ew, ev, a]
        exact hv.1
      · exact b k (by omega)
section TX
variable {n u : Nat} {T : Nat → Int32}
/-- how the reader's run ends, class and reference -/
theorem text_ends {m0 r0 m1 r1 : xM2} (hn : n ≤ 60) (hu : u < 2) (hT : m0.1 17 = T) (h2 : r0.1 90 2 = nI n) (hT2 : ∀ j, j < 60 → r0.1 90 (431 + j) = T j) (h8 : r0.2 89 8 = nI u) (hc : cs m0 m1 [] [] 0 true) (hr : rs r0 r1 [] 0 0) :
    (∃ p m' r' S' op' out' stk' cop' w' g, p ≤ n ∧ CR n u 5000 0 m1 = some (nI p, mk m') ∧ fm_X11_whole (fm_X11_one 8) 89 (mk r1) = some (g, mk r') ∧ (g = 0 ∨ (g = 1 ∧ p ≠ n)) ∧ rs r0 r' S' op' p ∧ cs m0 m' out' stk' cop' w') ∨
    (∃ m' r' S', CR n u 5000 0 m1 = some (-1, mk m') ∧ fm_X11_whole (fm_X11_one 8) 89 (mk r1) = some (1, mk r') ∧ rs r0 r' S' 0 n ∧ cs m0 m' (itS u S') [] 0 false ∧ vS u S' ∧ S'.length ≤ 60) := by
  have p6 : PX m0 r0 n u T 0 6 (fun H => fm_X11_one 8 89 H) := by
    intro at3 op3 S3 σ3 m3 mr3 f3 h3c h3r h3a h3l h3ob h3o h3lo h3nb h3v h3f
    rcases po hn hu hT h2 hT2 h8 8 0 at3 op3 S3 σ3 m3 mr3 f3 h3c h3r h3a (by omega) h3o (by omega) h3nb h3v h3f with ⟨mr', m', f', at2, S', e1, e2, e3, e4, e5, e6, e7, e8, e9, e10⟩ | e
    · refine Or.inl ⟨mr', m', f', at2, S', [], itS u S', e1, e2, e3, e4, e5, e6, e7, rfl, fun c hcm => absurd hcm (by simp), by omega, e9, e10, Or.inl ?_⟩
      have := (rk_eq (lk n T at2)).2
      omega
    · exact Or.inr e
  have pw := px_whole hn hT h2 hT2 (px_both hn hT h2 hT2 (px_compared hn hT h2 hT2 (px_sum hn hT h2 hT2 (px_product hn hT h2 hT2 p6))))
  rcases pw 0 0 [] [] m1 r1 5000 hc hr (Nat.zero_le _) (Nat.le_refl _) (Nat.le_refl _) (by decide) trivial trivial trivial (by omega) with ⟨mr', m', f', at2, S', P, x, e1, e2, e3, e4, e5, e6, e7, e8, e9, e10, e11, e12, e13⟩ | ⟨mr', m', p, S', op', out', stk', cop', w', e1, e2, e3, e4, e5⟩
  · obtain ⟨f', rfl⟩ : ∃ z, f' = z + 1 := ⟨f' - 1, by omega⟩
    have e10' : 0 + S'.length ≤ at2 := e10
    have fl := flush_len P x
    rw [e8, itS_len] at fl
    rw [List.append_nil] at e7
    by_cases a2n : at2 < n
    · left
      have el2 : lk n T at2 = T at2 := if_pos a2n
      rw [el2] at e13
      by_cases t41 : T at2 = 41
      · obtain ⟨m2, d1, d2⟩ := cr_shut_no (n := n) (u := u) (f := f') e7 hT hn a2n t41 e9 (by omega)
        exact ⟨at2, m2, mr', S', 0, _, _, _, _, 1, e3, e5.trans d1, e1, Or.inr ⟨rfl, by omega⟩, e2, d2⟩
      · rcases e13 with z | ⟨z1, -, P1, qq, P2, z3, z4, z5⟩
        · exact ⟨at2, m', mr', S', 0, _, _, _, _, 1, e3, e5.trans (cr_other e7 hT hn a2n t41 (by omega)), e1, Or.inr ⟨rfl, by omega⟩, e2, e7⟩
        · rw [z3] at e7
          have lP : P.length = P1.length + (P2.length + 1) := by rw [z3]; simp
          obtain ⟨m2, d1, d2⟩ := (cr_cmp (n := n) (u := u) (f := f') e7 hT hn a2n z1 z5 (show rk qq < 4 by omega) (by omega) (by simp; omega)).2 (fun w => by have : rk qq < 3 := w; omega)
          exact ⟨at2, m2, mr', S', 0, _, _, _, _, 1, e3, e5.trans d1, e1, Or.inr ⟨rfl, by omega⟩, e2, d2⟩
    · right
      have : at2 = n := by omega
      subst this
      obtain ⟨m2, d1, d2⟩ := cr_done (n := at2) (u := u) (f := f') e7 (by omega)
      rw [e8] at d2
      exact ⟨m2, mr', S', e5.trans d1, e1, e2, d2, e11, by omega⟩
  · exact Or.inl ⟨p, m', mr', S', op', out', stk', cop', w', 0, e3, e4, e1, Or.inl rfl, e2, e5⟩
end TX
theorem mk_law {a b : xM2} (h : mk a = mk b) : a.1 67 = b.1 67 ∧ a.2 66 2 = b.2 66 2 := by
  have h1 := mA_67 a
  rw [h, mA_67 b] at h1
  have h2 := mO_66 a
  rw [h, mO_66 b] at h2
  simp only [Option.some.injEq, Sum.inl.injEq, Sum.inr.injEq, Prod.mk.injEq, List.cons.injEq, Value.int.injEq, true_and, and_true] at h1 h2
  exact ⟨h1.symm, h2.symm⟩
theorem text_copy {N u : Nat} {s : Nat → Int32} (hu : u < 2) (hN : N ≤ 60) : ∀ (d k f : Nat), k + d = 2 * N → d < f → ∀ m : xM2, m.2 89 7 = nI N → m.1 90 = mvF s (m.1 94) (182 + 125 * u) k → ∃ m', fm_X11_text_b102 f 89 (nI (181 + 125 * u)) (nI k) (mk m) = some (1, mk m') ∧ kpR m m' ∧ m'.1 90 = mvF s (m.1 94) (182 + 125 * u) (2 * N) := by
  intro d
  induction d with
  | zero =>
    intro k f hk hf m h7 hm
    obtain ⟨f, rfl⟩ : ∃ z, f = z + 1 := ⟨f - 1, by omega⟩
    have : k = 2 * N := by omega
    subst this
    exact ⟨m, by rw [fm_X11_text_b102, gI_89_7, Option.bind_some, h7, show (2 : Int32) * nI N = nI (2 * N) from pk_mul 2 N, if_pos (Int32.le_refl _)], kpR.rf, hm⟩
  | succ d ih =>
    intro k f hk hf m h7 hm
    obtain ⟨f, rfl⟩ : ∃ z, f = z + 1 := ⟨f - 1, by omega⟩
    obtain ⟨m', a1, a2, a3⟩ := ih (k + 1) f (by omega) (by omega) (sA m 90 (upd (m.1 90) (182 + 125 * u + k) (m.1 94 k))) h7 (by rw [sA_s, sA_n (by decide), hm, mvF_s])
    refine ⟨m', ?_, kpR.tr kpR.A a2, by rw [a3, sA_n (by decide)]⟩
    rw [fm_X11_text_b102, gI_89_7, Option.bind_some, h7, show (2 : Int32) * nI N = nI (2 * N) from pk_mul 2 N, if_neg (nI_ge (by omega) (by omega)), gR_89_0, Option.bind_some, gR_89_9, Option.bind_some, al_94 m (show k < 124 by omega), Option.bind_some, nI_1, nI_add, show 181 + 125 * u + 1 + k = 182 + 125 * u + k by omega, as_90 m (show 182 + 125 * u + k < 515 by omega), Option.bind_some, nI_1]
    exact a1
theorem p_text {m : xM2} (h : Rel m) (a : Int32) : pr m (fm_X10_text 0 a) (fm_X11_text 89 a) := by
  rcases inC a (lo := 0) (hi := 1) 0 1 with ⟨u, -, hu', rfl, ea⟩ | ea
  · have hu : u < 2 := by omega
    obtain ⟨hq, hw, -⟩ := id h
    obtain ⟨n, hn, en⟩ := hw.2.2.2.1
    have v4 : m.2 1 4 = nI n := hq.2.2.2.2.1.trans en
    have al2 : ∀ m : xM2, hp_ald (mk m) 90 2 = some (m.1 90 2) := fun m => al_90 m (i := 2) (by decide)
    have as2 : ∀ (m : xM2) x, hp_ast (mk m) 90 2 x = some (mk (sA m 90 (upd (m.1 90) 2 x))) := fun m x => as_90 m (i := 2) (by decide)
    obtain ⟨m1, e1⟩ : ∃ m1, m1 = sF (sF (sF (sF m 66 2 0) 65 2 0) 65 3 0) 65 4 1 := ⟨_, rfl⟩
    have c1 : cs m m1 [] [] 0 true := by
      rw [e1]
      exact ⟨⟨fun _ _ _ => rfl, fun o o1 o2 => by rw [sF_n o1, sF_n o1, sF_n o1, sF_n o2]⟩, by simp only [sF_s]; rfl, trivial, by simp only [sF_s]; rfl, by simp only [sF_s]; rfl, by rw [sF_n (by decide), sF_n (by decide), sF_n (by decide), sF_s, upd_s]; rfl, trivial⟩
    have hT : ∀ j, j < 60 → m.1 90 (431 + j) = m.1 17 j := fun j hj => (hq.2.2.1 j hj).symm
    have rd : ∀ r, CR n u 5000 0 m1 = r → fm_X10_text 0 (nI u) (mk m) = ob2 r fun v34 H34 => (hp_gR H34 0 8 0).bind fun v39 => (hp_put H34 v39 4 4 (.int 0)).bind fun H43 => if v34 = (-1) then ((hp_gR H43 0 8 0).bind fun v57 => (hp_gR H43 v57 4 0).bind fun v60 => if hp_is H43 v60 3 = true then ((fm_X5_lawOf v60 (nI u) H43).bind fun v64 => (hp_gR H43 0 8 4).bind fun v68 => (hp_gR H43 v68 6 0).bind fun v71 => if hp_is H43 v64 1 = true then ((fm_X3_become v64 v71 H43).bind fun H74 => some (1, H74)) else none) else none) else (some ((-10) - v34, H43)) := fun r hr => by
      have rr : fm_X8_read 65 17 (nI n) (nI u) (mk m) = r := by
        rw [← hr, fm_X8_read, gR_65_0, Option.bind_some, if_pos (his_66 m), fm_X3_forget, mP_66_2, Option.bind_some, Option.bind_some, mP_65_2, Option.bind_some, mP_65_3, Option.bind_some, mP_65_4, Option.bind_some, e1]
        rfl
      unfold fm_X10_text
      rw [below2, ea, if_neg one_ne, gR_0_4, Option.bind_some, gR_0_0, Option.bind_some, gR_1_2, Option.bind_some, Option.bind_some, gI_1_4, Option.bind_some, v4, if_pos (his_65 m), rr]
    have run : ∀ mr : xM2, mr.1 90 = m.1 90 → rs (sF (sF (sF (sF mr 89 8 (nI u)) 89 5 0) 89 6 0) 89 7 0) (sF (sF (sF (sF mr 89 8 (nI u)) 89 5 0) 89 6 0) 89 7 0) [] 0 0 := fun mr _ => ⟨⟨fun _ _ => rfl, fun _ _ => rfl⟩, by simp only [sF_s]; rfl, by simp only [sF_s]; rfl, by simp only [sF_s]; rfl, trivial, rfl, rfl, rfl⟩
    have ends : ∀ mr : xM2, mr.1 90 = m.1 90 → _ := fun mr hmr => text_ends (n := n) (u := u) (T := m.1 17) (m0 := m) (m1 := m1) (r0 := sF (sF (sF (sF mr 89 8 (nI u)) 89 5 0) 89 6 0) 89 7 0) (r1 := sF (sF (sF (sF mr 89 8 (nI u)) 89 5 0) 89 6 0) 89 7 0) hn hu rfl (show mr.1 90 2 = nI n by rw [hmr]; exact en) (fun j hj => by show mr.1 90 (431 + j) = _; rw [hmr]; exact hT j hj) (by simp only [sF_s]; rfl) c1 (run mr hmr)
    have rpre : ∀ mr : xM2, mr.1 90 = m.1 90 → ∀ g r', fm_X11_whole (fm_X11_one 8) 89 (mk (sF (sF (sF (sF mr 89 8 (nI u)) 89 5 0) 89 6 0) 89 7 0)) = some (g, mk r') → r'.1 90 = m.1 90 → fm_X11_text 89 (nI u) (mk mr) = if g = 0 then some (-10 - r'.2 89 5, mk (sA r' 90 (upd (m.1 90) 2 0))) else if ((if r'.2 89 5 = nI n then 1 else 0) : Int32) = 0 then some (-10 - r'.2 89 5, mk (sA r' 90 (upd (m.1 90) 2 0))) else fm_X11_text_b102 5000 89 (nI (181 + 125 * u)) 0 (mk (sA r' 90 (upd (upd (m.1 90) 2 0) (181 + 125 * u) (r'.2 89 7)))) := fun mr hmr g r' hg h90 => by
      unfold fm_X11_text
      rw [ea, if_neg one_ne, mP_89_8, Option.bind_some, mP_89_5, Option.bind_some, mP_89_6, Option.bind_some, mP_89_7, Option.bind_some, if_pos (his_89 _), hg, ob2_some]
      by_cases g0 : g = 0
      · rw [if_pos g0, if_pos g0, fm_X11_text_b59, fm_X11_text_b60, gR_89_0, Option.bind_some, as2, Option.bind_some, if_pos rfl, gI_89_5, Option.bind_some, h90]
        rfl
      · rw [if_neg g0, if_neg g0, gI_89_5, Option.bind_some, gR_89_0, Option.bind_some, al2, Option.bind_some, Option.bind_some, as2, Option.bind_some, h90, en]
        by_cases q : ((if r'.2 89 5 = nI n then 1 else 0) : Int32) = 0
        · rw [if_pos q, if_pos q, gI_89_5, Option.bind_some]
          rfl
        · rw [if_neg q, if_neg q, gR_89_0, Option.bind_some, gI_89_7, Option.bind_some, ixT, as_90 _ (show 181 + 125 * u < 515 by omega), Option.bind_some, sA_s, sA_sA]
          rfl
    have kc : ∀ m' out stk cop w, cs m m' out stk cop w → kpC m m' ∧ quayR m' 1 (m.1 90) ∧ m'.1 90 = m.1 90 := fun m' out stk cop w hc => ⟨⟨fun c hcc => ⟨hc.1.1 c (by omega) (by omega), hc.1.2 c (by omega) (by omega)⟩, by rw [hc.1.2 0 (by decide) (by decide)]⟩, hq.mv fun c h1 h2 => ⟨hc.1.1 c (by omega) (by omega), hc.1.2 c (by omega) (by omega)⟩, hc.1.1 90 (by decide) (by decide)⟩
    have kr : ∀ mr r' S op at', rs (sF (sF (sF (sF mr 89 8 (nI u)) 89 5 0) 89 6 0) 89 7 0) r' S op at' → kpR mr r' ∧ r'.1 90 = mr.1 90 := fun mr r' S op at' hr => by
      obtain ⟨⟨f1, f2⟩, -, -, -, -, -, g3, g16⟩ := hr
      refine ⟨⟨fun c hcc => ⟨f1 c (by omega), (f2 c (by omega)).trans ?_⟩, f1 91 (by decide), f1 93 (by decide), f1 100 (by decide), f1 101 (by decide), f1 102 (by decide), f1 103 (by decide), ?_, ?_⟩, f1 90 (by decide)⟩
      · rw [sF_n (by omega), sF_n (by omega), sF_n (by omega), sF_n (by omega)]
      · rw [g3]; simp only [sF_s]; rfl
      · rw [g16]; simp only [sF_s]; rfl
    rcases ends m rfl with ⟨p, m', r', S', op', out', stk', cop', w', g, hp, a1, a2, a3, a4, a5⟩ | ⟨m', r', S', a1, a2, a3, a4, a5, a6⟩
    · -- a fault
      obtain ⟨k1, k2, k3⟩ := kc m' _ _ _ _ a5
      have q1 := k2.fld (k := 4) (j := 2) (x := 0)
      obtain ⟨mC, eC⟩ : ∃ mC, mC = sF m' 1 4 0 := ⟨_, rfl⟩
      have hC : fm_X10_text 0 (nI u) (mk m) = some (-10 - nI p, mk mC) := by
        rw [rd _ a1, ob2_some, gR_0_0, Option.bind_some, mP_1_4, Option.bind_some, if_neg (ne_m1 (by omega)), eC]
      have e90 : mC.1 90 = m.1 90 := by rw [eC]; exact k3
      rcases ends mC e90 with ⟨p2, m2, r2, S2, op2, out2, stk2, cop2, w2, g2, hp2, b1, b2, b3, b4, b5⟩ | ⟨m2, r2, S2, b1, b2, b3, b4, b5, b6⟩
      · rw [a1] at b1
        simp only [Option.some.injEq, Prod.mk.injEq] at b1
        have pp : p = p2 := (nI_eq (by omega) (by omega)).mp b1.1
        subst pp
        obtain ⟨r1, r3⟩ := kr mC r2 S2 op2 p b4
        have r90 : r2.1 90 = m.1 90 := r3.trans e90
        have at5 : r2.2 89 5 = nI p := b4.2.1
        refine h.ok (v := -10 - nI p) (m1 := mC) (m2 := sA r2 90 (upd (m.1 90) 2 0)) hC ?_ (by rw [eC]; exact kpC.tr k1 kpC.F) (kpR.tr r1 kpR.A) (by rw [eC]; exact q1) sA_s (hw.taped (c := 0) (by decide))
        rw [rpre mC e90 g2 r2 b2 r90, at5]
        rcases b3 with z | ⟨z1, z2⟩
        · rw [if_pos z]
        · have np : ¬ nI p = nI n := fun z => z2 ((nI_eq (by omega) (by omega)).mp z)
          rw [z1, if_neg one_ne, if_neg np, if_pos rfl]
      · rw [a1] at b1
        simp only [Option.some.injEq, Prod.mk.injEq] at b1
        exact absurd b1.1 (ne_m1 (by omega))
    · -- read
      obtain ⟨k1, k2, k3⟩ := kc m' _ _ _ _ a4
      have q1 := k2.fld (k := 4) (j := 2) (x := 0)
      obtain ⟨mL, l1, l2, l3, l4, l5⟩ := lawBecome (m := sF m' 1 4 0) (L := 10 + 3 * u) (L' := 66) (lw10 hu) (by unfold isLaw; omega)
      have hC : fm_X10_text 0 (nI u) (mk m) = some (1, mk mL) := by
        rw [rd _ a1, ob2_some, gR_0_0, Option.bind_some, mP_1_4, Option.bind_some, if_pos rfl, gR_0_0, Option.bind_some, gR_1_0, Option.bind_some, if_pos (his_2 _), lawOf_ok hu, Option.bind_some, gR_0_4, Option.bind_some, gR_65_0, Option.bind_some, if_pos (lwH (lw10 hu) _), l1, Option.bind_some]
      have e90 : mL.1 90 = m.1 90 := (l2 90 (by omega)).trans k3
      rcases ends mL e90 with ⟨p2, m2, r2, S2, op2, out2, stk2, cop2, w2, g2, hp2, b1, b2, b3, b4, b5⟩ | ⟨m2, r2, S2, b1, b2, b3, b4, b5, b6⟩
      · rw [a1] at b1
        simp only [Option.some.injEq, Prod.mk.injEq] at b1
        exact absurd b1.1.symm (ne_m1 (by omega))
      · rw [a1] at b1
        simp only [Option.some.injEq, Prod.mk.injEq] at b1
        obtain ⟨g67, g66⟩ := mk_law b1.2
        obtain ⟨r1, r3⟩ := kr mL r2 S2 0 n b3
        have r90 : r2.1 90 = m.1 90 := r3.trans e90
        have at5 : r2.2 89 5 = nI n := b3.2.1
        have st7 : r2.2 89 7 = nI S2.length := b3.2.2.2.1
        have in94 : inSS (r2.1 94) S2 := b3.2.2.2.2.1
        have in67 : inS (m'.1 67) (itS u S2) := by rw [g67]; exact b4.2.2.2.2.2.2
        have ln67 : m'.2 66 2 = nI S2.length := by rw [g66, b4.2.2.2.2.2.1, itS_len]
        obtain ⟨sB, eB⟩ : ∃ sB, sB = upd (upd (m.1 90) 2 0) (181 + 125 * u) (nI S2.length) := ⟨_, rfl⟩
        obtain ⟨r4, t1, t2, t3⟩ := text_copy (s := sB) hu b6 (2 * S2.length) 0 5000 (by omega) (by omega) (sA r2 90 sB) st7 (by rw [sA_s, mvF_0])
        rw [sA_n (show 94 ≠ 90 by decide)] at t3
        have fin : ∀ j, mvF sB (r2.1 94) (182 + 125 * u) (2 * S2.length) j = if 182 + 125 * u ≤ j ∧ j < 182 + 125 * u + 2 * S2.length then r2.1 94 (j - (182 + 125 * u)) else sB j := fun _ => rfl
        have out_ : ∀ j, j < 181 + 125 * u ∨ 306 + 125 * u ≤ j → mvF sB (r2.1 94) (182 + 125 * u) (2 * S2.length) j = upd (m.1 90) 2 0 j := fun j hj => by
          rw [fin, if_neg (by omega), eB, upd_n (by omega)]
        have txn : txN (mvF sB (r2.1 94) (182 + 125 * u) (2 * S2.length)) u = nI S2.length := by
          unfold txN
          rw [fin, if_neg (by omega), eB, upd_s]
        have txw : ∀ k, k < S2.length → txW (mvF sB (r2.1 94) (182 + 125 * u) (2 * S2.length)) u k = r2.1 94 (2 * k) ∧ txV (mvF sB (r2.1 94) (182 + 125 * u) (2 * S2.length)) u k = r2.1 94 (2 * k + 1) := fun k hk => by
          unfold txW txV
          rw [fin, fin, if_pos (by omega), if_pos (by omega), show 182 + 125 * u + 2 * k - (182 + 125 * u) = 2 * k by omega, show 183 + 125 * u + 2 * k - (182 + 125 * u) = 2 * k + 1 by omega]
          exact ⟨rfl, rfl⟩
        have tok : txOk (mvF sB (r2.1 94) (182 + 125 * u) (2 * S2.length)) u := ⟨S2.length, txn, b6, (tk_of S2 in94 b5 txw).2⟩
        have wf2 : wf (mvF sB (r2.1 94) (182 + 125 * u) (2 * S2.length)) := (hw.taped (c := 0) (by decide)).text hu tok (fun j hj => out_ j (by omega))
        have lr : lawR mL (10 + 3 * u) u (mvF sB (r2.1 94) (182 + 125 * u) (2 * S2.length)) := by
          refine ⟨?_, fun N n1 n2 k hk => ?_⟩
          · rw [l5, txn, sF_n (by decide)]; exact ln67
          · have eN : N = S2.length := ((nI_eq (by omega) (by omega)).mp (txn.symm.trans n1)).symm
            subst eN
            obtain ⟨w1, w2⟩ := txw k hk
            rw [show 10 + 3 * u + 1 = (10 + 3 * u) + 1 from rfl, l3 k (by omega), w1, w2]
            exact inSS_at S2 in94 in67 k hk
        have smL : ∀ c, c ≠ 10 + 3 * u → c ≠ 11 + 3 * u → same (sF m' 1 4 0) mL c := fun c h1 h2 => ⟨l2 c (by omega), l4 c h1⟩
        have nR : netR mL 2 (mvF sB (r2.1 94) (182 + 125 * u) (2 * S2.length)) := q1.1.text hu lr smL (fun j hj => out_ j hj)
        have qL : quayR mL 1 (mvF sB (r2.1 94) (182 + 125 * u) (2 * S2.length)) := q1.net (fun c hcc => smL c (by omega) (by omega)) nR (fun j h1 h2 => out_ j (by omega))
        refine h.ok (v := 1) (m1 := mL) (m2 := r4) hC ?_ (kpC.tr k1 (kpC.tr kpC.F ⟨fun c hcc => smL c (by omega) (by omega), by rw [l4 0 (by omega)]⟩)) (kpR.tr r1 (kpR.tr kpR.A t2)) qL t3 wf2
        rw [rpre mL e90 1 r2 b2 r90, if_neg one_ne, at5, if_pos rfl, if_neg one_ne, st7, ← eB]
        exact t1
  · refine h.e1 ?_ fun m' e => ?_ <;> simp only [fm_X10_text, fm_X11_text, below2, below3, below4, below5, below6, below7, below20, below31, below70, within_in, fm_X11_isKnot, fm_X11_isThread, fm_X11_isHand, fm_X11_isSheet, his_0, his_89, Option.bind_some, ob2_some, if_true, if_false, reduceIte, ob2_eta, one_ne, ea]
