section PO
variable {m0 r0 : xM2} {n u : Nat} {T : Nat → Int32}
/-- digits, both sides -/
theorem num_l {at' : Nat} {S : List (Int32 × Int32)} {op : Nat} {out stk : List Int32} {cop : Nat} {want : Bool} {m : xM2} {rc : Nat → qx_H → Option (Int32 × qx_H)} (hn : n ≤ 60) (hT : m0.1 17 = T) (h2 : r0.1 90 2 = nI n) (hT2 : ∀ j, j < 60 → r0.1 90 (431 + j) = T j) (hc : cs m0 m out stk cop want) :
    ∀ (d k v f f' : Nat) (mr : xM2), k + d = 4 → d < f → d < f' → v < 10 ^ k → at' + k ≤ n → rs r0 mr S op (at' + k) → (k = 0 → at' < n ∧ fm_X11_in (T at') 48 57 = 1) →
      ∃ K V mr', 1 ≤ K ∧ K ≤ 4 ∧ at' + K ≤ n ∧ V < 10000 ∧ fm_X8_takeValue_b67 f 65 17 (nI n) (nI at') (nI k) (nI v) (mk m) = fm_X8_takeValue_b116 65 (nI K) (nI V) (mk m) ∧ fm_X11_one_b46 rc f' 89 (nI v) (nI k) (mk mr) = fm_X11_one_b94 rc 89 (nI V) (mk mr') ∧ rs r0 mr' S op (at' + K) := by
  intro d
  induction d with
  | zero =>
    intro k v f f' mr hk hf hf' hv ha hr h0
    obtain ⟨f, rfl⟩ : ∃ z, f = z + 1 := ⟨f - 1, by omega⟩
    obtain ⟨f', rfl⟩ : ∃ z, f' = z + 1 := ⟨f' - 1, by omega⟩
    have : k = 4 := by omega
    subst this
    refine ⟨4, v, mr, by decide, by decide, ha, hv, ?_, ?_, hr⟩
    · rw [fm_X8_takeValue_b67, if_pos (by decide)]
    · rw [fm_X11_one_b46, if_pos (by decide)]
  | succ d ih =>
    intro k v f f' mr hk hf hf' hv ha hr h0
    obtain ⟨f, rfl⟩ : ∃ z, f = z + 1 := ⟨f - 1, by omega⟩
    obtain ⟨f', rfl⟩ : ∃ z, f' = z + 1 := ⟨f' - 1, by omega⟩
    have k4 : k < 4 := by omega
    have g4 : ¬ (4 : Int32) ≤ nI k := nI_ge (b := 4) k4 (by decide)
    have p4 : 10 ^ k ≤ 1000 := by
      have : k = 0 ∨ k = 1 ∨ k = 2 ∨ k = 3 := by omega
      rcases this with rfl | rfl | rfl | rfl <;> decide
    by_cases dig : at' + k < n ∧ fm_X11_in (T (at' + k)) 48 57 = 1
    · obtain ⟨an, dd⟩ := dig
      obtain ⟨t, t1, t2, t3⟩ : ∃ t, 48 ≤ t ∧ t ≤ 57 ∧ T (at' + k) = nI t := by
        rcases inC (T (at' + k)) (lo := 48) (hi := 57) 48 57 with ⟨t, t1, t2, t3, -⟩ | q
        · exact ⟨t, t1, t2, t3⟩
        · rw [q] at dd; exact absurd dd (by decide)
      have el : lk n T (at' + k) = T (at' + k) := if_pos an
      have rs1 := r_at hr (at' + (k + 1))
      have vv : (10 : Int32) * nI v + nI t - 48 = nI (10 * v + (t - 48)) := by
        rw [show (10 : Int32) * nI v = nI (10 * v) from pk_mul 10 v, nI_add, show (48 : Int32) = nI 48 from rfl, pk_sub (by omega), show 10 * v + t - 48 = 10 * v + (t - 48) by omega]
      obtain ⟨K, V, mr', k1, k2, k3, k4', k5, k6, k7⟩ := ih (k + 1) (10 * v + (t - 48)) f f' _ (by omega) (by omega) (by omega) (by rw [Nat.pow_succ]; omega) (by omega) rs1 (fun q => absurd q (by omega))
      refine ⟨K, V, mr', k1, k2, k3, k4', ?_, ?_, k7⟩
      · rw [fm_X8_takeValue_b67, if_neg g4, nI_add, if_neg (nI_ge an (by omega)), tape_at hc hT (by omega), Option.bind_some]
        show (if fm_X11_in (T (at' + k)) 48 57 = 0 then _ else _) = _
        rw [dd, if_neg one_ne, Option.bind_some, t3, vv, nI_1]
        exact k5
      · rw [fm_X11_one_b46, if_neg g4, if_pos (his_89 mr), look_ok hr hn ha h2 hT2, Option.bind_some, el, dd, if_neg one_ne, Option.bind_some, gI_89_5, Option.bind_some, hr.2.1, nI_1, mP_89_5, Option.bind_some, t3, vv, nI_1]
        exact k6
    · have k0 : k ≠ 0 := fun q => by
        obtain ⟨a, b⟩ := h0 q
        subst q
        exact dig ⟨a, b⟩
      refine ⟨k, v, mr, by omega, by omega, ha, by omega, ?_, ?_, hr⟩
      · rw [fm_X8_takeValue_b67, if_neg g4, nI_add]
        by_cases an : at' + k < n
        · have d0 : fm_X11_in (T (at' + k)) 48 57 = 0 := by
            rcases inC (T (at' + k)) (lo := 48) (hi := 57) 48 57 with ⟨t, t1, t2, t3, t4⟩ | q
            · exact absurd ⟨an, t4⟩ dig
            · exact q
          rw [if_neg (nI_ge an (by omega)), tape_at hc hT (by omega), Option.bind_some]
          show (if fm_X11_in (T (at' + k)) 48 57 = 0 then _ else _) = _
          rw [d0, if_pos rfl]
        · rw [if_pos (nI_le (by omega) (by omega))]
      · have d0 : fm_X11_in (lk n T (at' + k)) 48 57 = 0 := by
          unfold lk
          by_cases an : at' + k < n
          · rw [if_pos an]
            rcases inC (T (at' + k)) (lo := 48) (hi := 57) 48 57 with ⟨t, t1, t2, t3, t4⟩ | q
            · exact absurd ⟨an, t4⟩ dig
            · exact q
          · rw [if_neg an]; decide
        rw [fm_X11_one_b46, if_neg g4, if_pos (his_89 mr), look_ok hr hn ha h2 hT2, Option.bind_some, d0, if_pos rfl]
theorem tv_at {m : xM2} {out stk : List Int32} {cop at' : Nat} {want : Bool} (hc : cs m0 m out stk cop want) (hT : m0.1 17 = T) (ha : at' < 60) (h33 : T at' ≠ 33) (h40 : T at' ≠ 40) : fm_X8_takeValue 65 17 (nI n) (nI at') (nI u) (mk m) = if fm_X8_nameOf (T at') (nI u) = 0 then fm_X8_takeValue_b67 5000 65 17 (nI n) (nI at') 0 (fm_X8_nameOf (T at') (nI u)) (mk m) else fm_X8_takeValue_b116 65 1 (fm_X8_nameOf (T at') (nI u)) (mk m) := by
  rw [fm_X8_takeValue, tape_at hc hT ha, Option.bind_some, if_neg h33, if_neg h40]
theorem itm_num (v : Int32) : itm u 0 v = v := rfl
theorem vS_val {S : List (Int32 × Int32)} {w v : Int32} (h : vS u S) (hw : (w = 0 ∧ 0 ≤ v ∧ v ≤ 9999) ∨ (w = 1 ∧ isNm u v)) : vS u ((w, v) :: S) ∧ dS ((w, v) :: S) = dS S + 1 := by
  refine ⟨⟨?_, h⟩, ?_⟩
  · rcases hw with q | q
    · exact Or.inl q
    · exact Or.inr (Or.inl q)
  · show (if w = 0 ∨ w = 1 then dS S + 1 else if w = 2 then dS S else dS S - 1) = _
    rw [if_pos (hw.imp (fun q => q.1) (fun q => q.1))]
theorem po (hn : n ≤ 60) (hu : u < 2) (hT : m0.1 17 = T) (h2 : r0.1 90 2 = nI n) (hT2 : ∀ j, j < 60 → r0.1 90 (431 + j) = T j) (h8 : r0.2 89 8 = nI u) :
    ∀ (g j at' op : Nat) (S : List (Int32 × Int32)) (σ : List Int32) (m mr : xM2) (f : Nat), cs m0 m (itS u S) (List.replicate j 33 ++ σ) (op + j) true → rs r0 mr S (op + j) at' → at' ≤ n → j + σ.length + S.length ≤ at' → op + j ≤ 5 → 6 ≤ g + (op + j) → nb σ → vS u S → n - at' < f →
      (∃ mr' m' f' at2 S', fm_X11_one g 89 (mk mr) = some (1, mk mr') ∧ rs r0 mr' S' (op + j) at2 ∧ at2 ≤ n ∧ at' < at2 ∧ CR n u f at' m = CR n u f' at2 m' ∧ n - at2 < f' ∧ cs m0 m' (List.replicate j (-33) ++ itS u S') σ op false ∧ j + σ.length + S'.length ≤ at2 ∧ vS u S' ∧ dS S' = dS S + 1) ∨
      bad m0 r0 n u f at' m mr (fun H => fm_X11_one g 89 H) := by
  intro g
  induction g with
  | zero => intro j at' op S σ m mr f _ _ _ _ h1 h2 _ _ _; omega
  | succ g ih =>
    intro j at' op S σ m mr f hc hr ha hl ho hg hnb hv hff
    obtain ⟨f, rfl⟩ : ∃ z, f = z + 1 := ⟨f - 1, by omega⟩
    have lo := look_ok hr hn ha h2 hT2
    have nmr := isName_ok (mr := mr) hu (hr.2.2.2.2.2.1.trans h8) (lk n T at')
    have opn : fm_X11_opens 89 (mk mr) = if op + j = 5 then some (0, mk mr) else some (1, mk (sF (sF mr 89 6 (nI (op + j + 1))) 89 5 (nI (at' + 1)))) := by
      rw [fm_X11_opens, gI_89_6, Option.bind_some, hr.2.2.1]
      by_cases q : op + j = 5
      · rw [if_pos q, q, if_pos (show nI 5 = 5 from rfl)]
      · have n5 : ¬ nI (op + j) = 5 := fun z => q ((nI_eq (b := 5) (by omega) (by decide)).mp z)
        rw [if_neg q, if_neg n5, Option.bind_some, nI_1, mP_89_6, Option.bind_some, gI_89_5, Option.bind_some, sF_s, upd_n (by decide), hr.2.1, nI_1, mP_89_5, Option.bind_some]
    have one_at : fm_X11_one (g + 1) 89 (mk mr) = fm_X11_one_e (fm_X11_one g) 89 (mk mr) := rfl
    by_cases an : at' < n
    · have el : lk n T at' = T at' := if_pos an
      rw [el] at lo nmr
      have l60 : (List.replicate j (33 : Int32) ++ σ).length = j + σ.length := by simp
      rcases nm_dec hu (T at') with ⟨q1, q2, q3, q4, q5, q6, q7⟩ | ⟨q1, q2⟩
      · -- a name
        have tv : fm_X8_takeValue 65 17 (nI n) (nI at') (nI u) (mk m) = fm_X8_takeValue_b116 65 (nI 1) (nmC u (T at')) (mk m) := by
          rw [tv_at hc hT (by omega) q4 q5, q2, if_neg q3]
          rfl
        obtain ⟨m', c1, c2⟩ := cr_item (f := f) hc hn an (nb_of hnb) (k := 1) (by decide) (by decide) (by rw [itS_len]; omega) (by omega) ho tv
        obtain ⟨mr', s1, s2⟩ := r_step (r_at hr (at' + 1)) (by omega) 1 (T at')
        have vv := vS_val hv (w := 1) (v := T at') (Or.inr ⟨rfl, q1⟩)
        refine Or.inl ⟨mr', m', f, at' + 1, (1, T at') :: S, ?_, s2, an, by omega, c1, by omega, c2, by show j + σ.length + (S.length + 1) ≤ at' + 1; omega, vv.1, vv.2⟩
        rw [one_at, fm_X11_one_e, if_pos (his_89 mr), lo, Option.bind_some, nmr.1 q1, Option.bind_some, if_neg one_ne, gI_89_5, Option.bind_some, hr.2.1, nI_1, mP_89_5, Option.bind_some, if_pos (his_89 _), s1, Option.bind_some]
      · have pre : fm_X11_one (g + 1) 89 (mk mr) = if (fm_X11_in (T at') 48 57) = 0 then (if T at' = 33 then (ob2 (fm_X11_opens 89 (mk mr)) fun v109 H109 => if v109 = 0 then (some (0, H109)) else (if hp_is H109 89 9 = true then (ob2 (fm_X11_one g 89 H109) fun v116 H116 => if v116 = 0 then (some (0, H116)) else ((hp_gI H116 89 9 6).bind fun v126 => (hp_put H116 89 9 6 (.int (v126 - 1))).bind fun H131 => if hp_is H131 89 9 = true then ((fm_X11_step1 89 2 0 H131).bind fun H137 => some (1, H137)) else none)) else none)) else (if T at' = 40 then (ob2 (fm_X11_opens 89 (mk mr)) fun v149 H149 => if v149 = 0 then (some (0, H149)) else (if hp_is H149 89 9 = true then (ob2 (fm_X11_whole (fm_X11_one g) 89 H149) fun v156 H156 => if v156 = 0 then (some (0, H156)) else (if hp_is H156 89 9 = true then ((fm_X11_look 89 H156).bind fun v163 => if v163 = 41 then ((hp_gI H156 89 9 5).bind fun v175 => (hp_put H156 89 9 5 (.int (v175 + 1))).bind fun H180 => (hp_gI H180 89 9 6).bind fun v185 => (hp_put H180 89 9 6 (.int (v185 - 1))).bind fun H190 => some (1, H190)) else (some (0, H156))) else none)) else none)) else (some (0, mk mr)))) else (fm_X11_one_b46 (fm_X11_one g) 5000 89 0 0 (mk mr)) := by
          rw [one_at, fm_X11_one_e, if_pos (his_89 mr), lo, Option.bind_some, nmr.2 q1, Option.bind_some, if_pos rfl]
        rcases inC (T at') (lo := 48) (hi := 57) 48 57 with ⟨t, t1, t2, t3, t4⟩ | dg0
        · -- a number
          have n33 : T at' ≠ 33 := fun z => by rw [z] at t4; exact absurd t4 (by decide)
          have n40 : T at' ≠ 40 := fun z => by rw [z] at t4; exact absurd t4 (by decide)
          obtain ⟨K, V, mr1, k1, k2, k3, k4, k5, k6, k7⟩ := num_l (rc := fm_X11_one g) (at' := at') hn hT h2 hT2 hc 4 0 0 5000 5000 mr (by decide) (by decide) (by decide) (by decide) (by omega) hr (fun _ => ⟨an, t4⟩)
          rw [show nI 0 = 0 from rfl] at k5 k6
          have tv : fm_X8_takeValue 65 17 (nI n) (nI at') (nI u) (mk m) = fm_X8_takeValue_b116 65 (nI K) (nI V) (mk m) := by
            rw [tv_at hc hT (by omega) n33 n40, q2, if_pos rfl]
            exact k5
          obtain ⟨m', c1, c2⟩ := cr_item (f := f) hc hn an (nb_of hnb) (k := K) k1 k2 (by rw [itS_len]; omega) (by omega) ho tv
          obtain ⟨mr', s1, s2⟩ := r_step k7 (by omega) 0 (nI V)
          have vv := vS_val hv (w := 0) (v := nI V) (Or.inl ⟨rfl, nI_pos' (by omega), nI_le (b := 9999) (by omega) (by decide)⟩)
          refine Or.inl ⟨mr', m', f, at' + K, (0, nI V) :: S, ?_, s2, k3, by omega, c1, by omega, c2, by show j + σ.length + (S.length + 1) ≤ at' + K; omega, vv.1, vv.2⟩
          rw [pre, t4, if_neg one_ne, k6, fm_X11_one_b94, if_pos (his_89 mr1), s1, Option.bind_some]
        · rw [dg0, if_pos rfl] at pre
          by_cases e33 : T at' = 33
          · -- not
            rw [if_pos e33, opn] at pre
            by_cases q : op + j = 5
            · rw [if_pos q, ob2_some, if_pos rfl] at pre
              rw [q] at hc hr
              exact Or.inr ⟨mr, m, at', S, 5, _, _, 5, true, pre, hr, ha, cr_open_no hc hT hn an (Or.inl e33), hc⟩
            · rw [if_neg q, ob2_some, if_neg one_ne, if_pos (his_89 _)] at pre
              obtain ⟨m1, c1, c2⟩ := cr_open_sign (n := n) (u := u) (f := f) hc hT hn an (Or.inl e33) (by omega) (by omega)
              rw [e33] at c2
              have r1 := r_at (r_op hr (op + j + 1)) (at' + 1)
              rcases ih (j + 1) (at' + 1) op S σ m1 _ f c2 r1 an (by omega) (by omega) (by omega) hnb hv (by omega) with ⟨mr', m', f', at2, S', e1, e2, e3, e4, e5, e6, e7, e8, e9, e10⟩ | ⟨mr', m', p, S', op', out', stk', cop', w', e1, e2, e3, e4, e5⟩
              · have e2o : mr'.2 89 6 = nI (op + j + 1) := e2.2.2.1
                obtain ⟨mr2, s1, s2⟩ := r_step (r_op e2 (op + j)) (by omega) 2 0
                have lists : List.replicate (j + 1) (-33 : Int32) ++ itS u S' = List.replicate j (-33) ++ itS u ((2, 0) :: S') := by
                  rw [List.replicate_succ']
                  show _ = List.replicate j (-33 : Int32) ++ (itm u 2 0 :: itS u S')
                  have : itm u 2 0 = -33 := rfl
                  rw [this]
                  simp
                rw [lists] at e7
                have dd : dS ((2, 0) :: S') = dS S' := by
                  show (if (2 : Int32) = 0 ∨ (2 : Int32) = 1 then dS S' + 1 else if (2 : Int32) = 2 then dS S' else dS S' - 1) = _
                  rw [if_neg (by decide), if_pos rfl]
                refine Or.inl ⟨mr2, m', f', at2, (2, 0) :: S', ?_, s2, e3, by omega, c1.trans e5, e6, e7, by show j + σ.length + (S'.length + 1) ≤ at2; omega, ⟨Or.inr (Or.inr (Or.inl ⟨rfl, by show 1 ≤ dS S'; omega⟩)), e9⟩, by rw [dd]; exact e10⟩
                rw [pre, e1, ob2_some, if_neg one_ne, gI_89_6, Option.bind_some, e2o, nI_pred, mP_89_6, Option.bind_some, if_pos (his_89 _), s1, Option.bind_some]
              · have e1' : fm_X11_one g 89 (mk (sF (sF mr 89 6 (nI (op + j + 1))) 89 5 (nI (at' + 1)))) = some (0, mk mr') := e1
                refine Or.inr ⟨mr', m', p, S', op', out', stk', cop', w', ?_, e2, e3, c1.trans e4, e5⟩
                show fm_X11_one (g + 1) 89 (mk mr) = _
                rw [pre, e1', ob2_some, if_pos rfl]
          · rw [if_neg e33] at pre
            by_cases e40 : T at' = 40
            · -- a bracket
              rw [if_pos e40, opn] at pre
              by_cases q : op + j = 5
              · rw [if_pos q, ob2_some, if_pos rfl] at pre
                rw [q] at hc hr
                exact Or.inr ⟨mr, m, at', S, 5, _, _, 5, true, pre, hr, ha, cr_open_no hc hT hn an (Or.inr e40), hc⟩
              · rw [if_neg q, ob2_some, if_neg one_ne, if_pos (his_89 _)] at pre
                obtain ⟨m1, c1, c2⟩ := cr_open_sign (n := n) (u := u) (f := f) hc hT hn an (Or.inr e40) (by omega) (by omega)
                rw [e40] at c2
                have r1 := r_at (r_op hr (op + j + 1)) (at' + 1)
                have p6 : PX m0 r0 n u T (6 - g) 6 (fun H => fm_X11_one g 89 H) := by
                  intro at3 op3 S3 σ3 m3 mr3 f3 h3c h3r h3a h3l h3ob h3o h3lo h3nb h3v h3f
                  rcases ih 0 at3 op3 S3 σ3 m3 mr3 f3 h3c h3r h3a (by omega) h3o (by omega) h3nb h3v h3f with ⟨mr', m', f', at2, S', e1, e2, e3, e4, e5, e6, e7, e8, e9, e10⟩ | e
                  · refine Or.inl ⟨mr', m', f', at2, S', [], itS u S', e1, e2, e3, e4, e5, e6, e7, rfl, fun c hcm => absurd hcm (by simp), by omega, e9, e10, Or.inl ?_⟩
                    have := (rk_eq (lk n T at2)).2
                    omega
                  · exact Or.inr e
                have pw := px_whole hn hT h2 hT2 (px_both hn hT h2 hT2 (px_compared hn hT h2 hT2 (px_sum hn hT h2 hT2 (px_product hn hT h2 hT2 p6))))
                rcases pw (at' + 1) (op + j + 1) S (40 :: (List.replicate j 33 ++ σ)) m1 _ f c2 r1 an (by show (List.replicate j (33 : Int32) ++ σ).length + 1 + S.length ≤ at' + 1; omega) (by omega) (by omega) (show rk 40 < 1 by decide) (show (40 : Int32) ≠ 33 by decide) hv (by omega) with ⟨mr', m', f', at2, S', P, x, e1, e2, e3, e4, e5, e6, e7, e8, e9, e10, e11, e12, e13⟩ | ⟨mr', m', p, S', op', out', stk', cop', w', e1, e2, e3, e4, e5⟩
                · have e1' : fm_X11_whole (fm_X11_one g) 89 (mk (sF (sF mr 89 6 (nI (op + j + 1))) 89 5 (nI (at' + 1)))) = some (1, mk mr') := e1
                  rw [e1', ob2_some, if_neg one_ne, if_pos (his_89 mr'), look_ok e2 hn e3 h2 hT2, Option.bind_some] at pre
                  have e10' : (List.replicate j (33 : Int32) ++ σ).length + 1 + S'.length ≤ at2 := e10
                  have fl := flush_len P x
                  rw [e8, itS_len] at fl
                  obtain ⟨f', rfl⟩ : ∃ z, f' = z + 1 := ⟨f' - 1, by omega⟩
                  by_cases e41 : lk n T at2 = 41
                  · have a2n : at2 < n := by
                      unfold lk at e41
                      by_cases z : at2 < n
                      · exact z
                      · rw [if_neg z] at e41; exact absurd e41 (by decide)
                    have t41 : T at2 = 41 := by rw [← e41]; exact (if_pos a2n).symm
                    obtain ⟨m2, d1, d2⟩ := cr_shut (n := n) (u := u) (f := f') e7 hT hn a2n t41 e9 (nb_of hnb) (by omega) (by omega) (by omega)
                    rw [e8] at d2
                    rw [if_pos e41, gI_89_5, Option.bind_some, e2.2.1, nI_1, mP_89_5, Option.bind_some, gI_89_6, Option.bind_some, sF_s, upd_n (by decide), e2.2.2.1, nI_pred, mP_89_6, Option.bind_some] at pre
                    exact Or.inl ⟨_, m2, f', at2 + 1, S', pre, r_op (r_at e2 (at2 + 1)) (op + j), a2n, by omega, c1.trans (e5.trans d1), by omega, d2, by omega, e11, e12⟩
                  · rw [if_neg e41] at pre
                    by_cases a2n : at2 < n
                    · have el2 : lk n T at2 = T at2 := if_pos a2n
                      rw [el2] at e13 e41
                      rcases e13 with z | ⟨z1, -, P1, qq, P2, z3, z4, z5⟩
                      · exact Or.inr ⟨mr', m', at2, S', _, _, _, _, _, pre, e2, e3, c1.trans (e5.trans (cr_other e7 hT hn a2n e41 (by omega))), e7⟩
                      · rw [z3, List.append_assoc] at e7
                        have e7' : cs m0 m' x (P1 ++ (qq :: (P2 ++ 40 :: (List.replicate j 33 ++ σ)))) (op + j + 1) false := e7
                        have lP : P.length = P1.length + (P2.length + 1) := by rw [z3]; simp
                        obtain ⟨m2, d1, d2⟩ := (cr_cmp (n := n) (u := u) (f := f') e7' hT hn a2n z1 z5 (show rk qq < 4 by omega) (by omega) (by simp only [List.length_append, List.length_cons, List.length_replicate] at e10' ⊢; omega)).2 (fun w => by have : rk qq < 3 := w; omega)
                        exact Or.inr ⟨mr', m2, at2, S', _, _, _, _, _, pre, e2, e3, c1.trans (e5.trans d1), d2⟩
                    · have : at2 = n := by omega
                      subst this
                      exact Or.inr ⟨mr', m', at2, S', _, _, _, _, _, pre, e2, e3, c1.trans (e5.trans (cr_open e7 (by omega))), e7⟩
                · have e1' : fm_X11_whole (fm_X11_one g) 89 (mk (sF (sF mr 89 6 (nI (op + j + 1))) 89 5 (nI (at' + 1)))) = some (0, mk mr') := e1
                  rw [e1', ob2_some, if_pos rfl] at pre
                  exact Or.inr ⟨mr', m', p, S', op', out', stk', cop', w', pre, e2, e3, c1.trans e4, e5⟩
            · -- no value
              rw [if_neg e40] at pre
              have tv : fm_X8_takeValue 65 17 (nI n) (nI at') (nI u) (mk m) = fm_X8_takeValue_b116 65 0 0 (mk m) := by
                rw [tv_at hc hT (by omega) e33 e40, q2, if_pos rfl]
                show fm_X8_takeValue_b67 (4999 + 1) 65 17 (nI n) (nI at') (nI 0) 0 (mk m) = _
                rw [fm_X8_takeValue_b67, if_neg (by decide), nI_add, if_neg (nI_ge (by omega) (by omega)), Nat.add_zero, tape_at hc hT (by omega), Option.bind_some]
                show (if fm_X11_in (T at') 48 57 = 0 then _ else _) = _
                rw [dg0, if_pos rfl]
                rfl
              exact Or.inr ⟨mr, m, at', S, _, _, _, _, _, pre, hr, ha, cr_bad hc hn an tv, hc⟩
    · have : at' = n := by omega
      subst this
      have el : lk at' T at' = -1 := if_neg (by omega)
      rw [el] at lo nmr
      have nn : ¬ isNm u (-1) := by
        have : u = 0 ∨ u = 1 := by omega
        rcases this with rfl | rfl
        · intro q
          rcases (show (-1 : Int32) = 109 ∨ (-1 : Int32) = 100 ∨ (-1 : Int32) = 104 from q) with z | z | z <;> exact absurd z (by decide)
        · intro q
          rcases (show (-1 : Int32) = 116 ∨ (-1 : Int32) = 119 ∨ (-1 : Int32) = 97 from q) with z | z | z <;> exact absurd z (by decide)
      refine Or.inr ⟨mr, m, at', S, _, _, _, _, _, ?_, hr, ha, cr_end hc, hc⟩
      show fm_X11_one (g + 1) 89 (mk mr) = _
      rw [one_at, fm_X11_one_e, if_pos (his_89 mr), lo, Option.bind_some, nmr.2 nn, Option.bind_some, if_pos rfl, if_pos (by decide), if_neg (by decide), if_neg (by decide)]
end PO
