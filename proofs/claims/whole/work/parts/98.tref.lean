/-! TEXTS READ: THE REFERENCE -/
def inSS (f : Nat → Int32) : List (Int32 × Int32) → Prop
  | [] => True
  | p :: r => f (2 * r.length) = p.1 ∧ f (2 * r.length + 1) = p.2 ∧ inSS f r
theorem inSS_upd {f : Nat → Int32} {k : Nat} {x : Int32} : ∀ {r : List (Int32 × Int32)}, inSS f r → 2 * r.length ≤ k → inSS (upd f k x) r
  | [], _, _ => trivial
  | p :: r, h, hk => by
    have hk' : 2 * (r.length + 1) ≤ k := hk
    exact ⟨by rw [upd_n (by omega)]; exact h.1, by rw [upd_n (by omega)]; exact h.2.1, inSS_upd h.2.2 (by omega)⟩
def rs (r0 mr : xM2) (S : List (Int32 × Int32)) (op at' : Nat) : Prop :=
  ((∀ a, a ≠ 94 → mr.1 a = r0.1 a) ∧ ∀ o, o ≠ 89 → mr.2 o = r0.2 o) ∧ mr.2 89 5 = nI at' ∧ mr.2 89 6 = nI op ∧ mr.2 89 7 = nI S.length ∧ inSS (mr.1 94) S ∧ mr.2 89 8 = r0.2 89 8 ∧ mr.2 89 3 = r0.2 89 3 ∧ mr.2 89 16 = r0.2 89 16
section RR
variable {r0 mr : xM2} {S : List (Int32 × Int32)} {op at' n u : Nat} {T : Nat → Int32}
theorem r_step (h : rs r0 mr S op at') (hl : S.length < 62) (w v : Int32) : ∃ mr', fm_X11_step1 89 w v (mk mr) = some (mk mr') ∧ rs r0 mr' ((w, v) :: S) op at' := by
  obtain ⟨⟨f1, f2⟩, h1, h2, h3, h4, h5, h6, h7⟩ := h
  have e2 : (2 : Int32) * nI S.length = nI (2 * S.length) := pk_mul 2 _
  refine ⟨sF (sA (sA mr 94 (upd (mr.1 94) (2 * S.length) w)) 94 (upd (upd (mr.1 94) (2 * S.length) w) (2 * S.length + 1) v)) 89 7 (nI (S.length + 1)), ?_, ⟨fun a ha => (sA_n ha).trans ((sA_n ha).trans (f1 a ha)), fun o ho => (sF_n ho).trans (f2 o ho)⟩, ?_, ?_, ?_, ⟨?_, ?_, ?_⟩, ?_, ?_, ?_⟩
  · unfold fm_X11_step1
    rw [gR_89_9, Option.bind_some, gI_89_7, Option.bind_some, h3, e2, as_94 mr (show 2 * S.length < 124 by omega), Option.bind_some, gR_89_9, Option.bind_some, gI_89_7, Option.bind_some, sA_2, h3, e2, nI_1, as_94 _ (show 2 * S.length + 1 < 124 by omega), Option.bind_some, gI_89_7, Option.bind_some, sA_2, sA_2, h3, nI_1, mP_89_7, Option.bind_some, sA_s]
  · rw [sF_s, upd_n (by decide)]; exact h1
  · rw [sF_s, upd_n (by decide)]; exact h2
  · rw [sF_s, upd_s]; rfl
  · rw [sF_1, sA_s, upd_n (by omega), upd_s]
  · rw [sF_1, sA_s, upd_s]
  · rw [sF_1, sA_s]; exact inSS_upd (inSS_upd h4 (Nat.le_refl _)) (by omega)
  · rw [sF_s, upd_n (by decide)]; exact h5
  · rw [sF_s, upd_n (by decide)]; exact h6
  · rw [sF_s, upd_n (by decide)]; exact h7
theorem r_at (h : rs r0 mr S op at') (b : Nat) : rs r0 (sF mr 89 5 (nI b)) S op b := by
  obtain ⟨⟨f1, f2⟩, h1, h2, h3, h4, h5, h6, h7⟩ := h
  exact ⟨⟨f1, fun o ho => (sF_n ho).trans (f2 o ho)⟩, by rw [sF_s, upd_s], by rw [sF_s, upd_n (by decide)]; exact h2, by rw [sF_s, upd_n (by decide)]; exact h3, h4, by rw [sF_s, upd_n (by decide)]; exact h5, by rw [sF_s, upd_n (by decide)]; exact h6, by rw [sF_s, upd_n (by decide)]; exact h7⟩
theorem r_op (h : rs r0 mr S op at') (b : Nat) : rs r0 (sF mr 89 6 (nI b)) S b at' := by
  obtain ⟨⟨f1, f2⟩, h1, h2, h3, h4, h5, h6, h7⟩ := h
  exact ⟨⟨f1, fun o ho => (sF_n ho).trans (f2 o ho)⟩, by rw [sF_s, upd_n (by decide)]; exact h1, by rw [sF_s, upd_s], by rw [sF_s, upd_n (by decide)]; exact h3, h4, by rw [sF_s, upd_n (by decide)]; exact h5, by rw [sF_s, upd_n (by decide)]; exact h6, by rw [sF_s, upd_n (by decide)]; exact h7⟩
def lk (n : Nat) (T : Nat → Int32) (a : Nat) : Int32 := if a < n then T a else -1
theorem look_ok (h : rs r0 mr S op at') (hn : n ≤ 60) (ha : at' ≤ n) (h2 : r0.1 90 2 = nI n) (hT : ∀ j, j < 60 → r0.1 90 (431 + j) = T j) : fm_X11_look 89 (mk mr) = some (lk n T at') := by
  have al2 : hp_ald (mk mr) 90 2 = some (mr.1 90 2) := al_90 mr (i := 2) (by decide)
  have e90 : mr.1 90 = r0.1 90 := h.1.1 90 (by decide)
  unfold fm_X11_look lk
  rw [gI_89_5, Option.bind_some, gR_89_0, Option.bind_some, al2, Option.bind_some, e90, h2, h.2.1]
  by_cases q : at' < n
  · rw [if_neg (nI_ge q (by omega)), Option.bind_some, Option.bind_some, show (431 : Int32) + nI at' = nI (431 + at') from nI_add 431 _, al_90 mr (show 431 + at' < 515 by omega), Option.bind_some, e90, hT at' (by omega), if_pos q]
  · rw [if_pos (nI_le (by omega) (by omega)), if_neg q]
end RR
def itS (u : Nat) (S : List (Int32 × Int32)) : List Int32 := S.map fun p => itm u p.1 p.2
theorem itS_len (u : Nat) (S : List (Int32 × Int32)) : (itS u S).length = S.length := by unfold itS; simp
def dS : List (Int32 × Int32) → Nat
  | [] => 0
  | p :: r => if p.1 = 0 ∨ p.1 = 1 then dS r + 1 else if p.1 = 2 then dS r else dS r - 1
def vS (u : Nat) : List (Int32 × Int32) → Prop
  | [] => True
  | p :: r => ((p.1 = 0 ∧ 0 ≤ p.2 ∧ p.2 ≤ 9999) ∨ (p.1 = 1 ∧ isNm u p.2) ∨ (p.1 = 2 ∧ 1 ≤ dS r) ∨ (p.1 = 3 ∧ isSg p.2 ∧ 2 ≤ dS r)) ∧ vS u r
def nb : List Int32 → Prop
  | [] => True
  | c :: _ => c ≠ 33
theorem nb_of {stk : List Int32} (h : nb stk) : ∀ c r, stk = c :: r → c ≠ 33 := fun c r e => by rw [e] at h; exact h
def fol (r : Nat) (P : List Int32) (c : Int32) : Prop := rk c < r ∨ (rk c = 3 ∧ r ≤ 3 ∧ ∃ P1 q P2, P = P1 ++ q :: P2 ∧ rk q = 3 ∧ ∀ d, d ∈ P1 → 4 ≤ rk d)
/-- the fault, both sides -/
def bad (m0 r0 : xM2) (n u f at' : Nat) (m mr : xM2) (R : qx_H → Option (Int32 × qx_H)) : Prop :=
  ∃ mr' m' p S' op' out' stk' cop' w', R (mk mr) = some (0, mk mr') ∧ rs r0 mr' S' op' p ∧ p ≤ n ∧ CR n u f at' m = some (nI p, mk m') ∧ cs m0 m' out' stk' cop' w'
def PX (m0 r0 : xM2) (n u : Nat) (T : Nat → Int32) (ob r : Nat) (R : qx_H → Option (Int32 × qx_H)) : Prop :=
  ∀ (at' op : Nat) (S : List (Int32 × Int32)) (σ : List Int32) (m mr : xM2) (f : Nat), cs m0 m (itS u S) σ op true → rs r0 mr S op at' → at' ≤ n → σ.length + S.length ≤ at' → ob ≤ op → op ≤ 5 → low r σ → nb σ → vS u S → n - at' < f →
    (∃ mr' m' f' at2 S' P x, R (mk mr) = some (1, mk mr') ∧ rs r0 mr' S' op at2 ∧ at2 ≤ n ∧ at' < at2 ∧ CR n u f at' m = CR n u f' at2 m' ∧ n - at2 < f' ∧ cs m0 m' x (P ++ σ) op false ∧ flush P x = itS u S' ∧ (∀ c, c ∈ P → r ≤ rk c) ∧ σ.length + S'.length ≤ at2 ∧ vS u S' ∧ dS S' = dS S + 1 ∧ fol r P (lk n T at2)) ∨
    bad m0 r0 n u f at' m mr R
section BN
variable {m0 r0 : xM2} {n u ob r : Nat} {T : Nat → Int32} {Ro R : qx_H → Option (Int32 × qx_H)} {loop : Nat → Nat → qx_H → Option (Int32 × qx_H)}
theorem lk_rk {a : Nat} (h : 1 ≤ rk (lk n T a)) : a < n ∧ lk n T a = T a := by
  unfold lk at h ⊢
  by_cases q : a < n
  · exact ⟨q, if_pos q⟩
  · rw [if_neg q] at h
    exact absurd h (by decide)
theorem rk_sg {c : Int32} (h : 1 ≤ rk c) : isSg c := by
  unfold rk fm_X8_rankOf at h
  unfold isSg
  by_cases a1 : c = 37; · exact Or.inl a1
  by_cases a2 : c = 38; · exact Or.inr (Or.inl a2)
  by_cases a3 : c = 42; · exact Or.inr (Or.inr (Or.inl a3))
  by_cases a4 : c = 43; · exact Or.inr (Or.inr (Or.inr (Or.inl a4)))
  by_cases a5 : c = 45; · exact Or.inr (Or.inr (Or.inr (Or.inr (Or.inl a5))))
  by_cases a6 : c = 47; · exact Or.inr (Or.inr (Or.inr (Or.inr (Or.inr (Or.inl a6)))))
  by_cases a7 : c = 60; · exact Or.inr (Or.inr (Or.inr (Or.inr (Or.inr (Or.inr (Or.inl a7))))))
  by_cases a8 : c = 61; · exact Or.inr (Or.inr (Or.inr (Or.inr (Or.inr (Or.inr (Or.inr (Or.inl a8)))))))
  by_cases a9 : c = 62; · exact Or.inr (Or.inr (Or.inr (Or.inr (Or.inr (Or.inr (Or.inr (Or.inr (Or.inl a9))))))))
  by_cases b1 : c = 124; · exact Or.inr (Or.inr (Or.inr (Or.inr (Or.inr (Or.inr (Or.inr (Or.inr (Or.inr b1))))))))
  rw [if_neg a1, if_neg a2, if_neg a3, if_neg a4, if_neg a5, if_neg a6, if_neg a7, if_neg a8, if_neg a9, if_neg b1] at h
  exact absurd h (by decide)
theorem rk_nb {c : Int32} (h : 1 ≤ rk c) : c ≠ 33 := fun q => by rw [q] at h; exact absurd h (by decide)
theorem dS_op {S : List (Int32 × Int32)} {c : Int32} : dS ((3, c) :: S) = dS S - 1 := by
  show (if (3 : Int32) = 0 ∨ (3 : Int32) = 1 then dS S + 1 else if (3 : Int32) = 2 then dS S else dS S - 1) = _
  rw [if_neg (by decide), if_neg (by decide)]
theorem rk_m1 : rk (-1) = 0 := by decide
/-- signs of one rank, one after the other -/
theorem bin_loop (hn : n ≤ 60) (hT : m0.1 17 = T) (hr1 : 1 ≤ r) (hr5 : r ≤ 5) (hr3 : r ≠ 3) (ho : PX m0 r0 n u T ob (r + 1) Ro)
    (h0 : ∀ k mr S op at', rs r0 mr S op at' → at' ≤ n → rk (lk n T at') ≠ r → loop (k + 1) 89 (mk mr) = some (1, mk mr))
    (h1 : ∀ k mr S op at' a, rs r0 mr S op at' → at' ≤ n → rk (lk n T at') = r → Ro (mk (sF mr 89 5 (nI (at' + 1)))) = some (0, mk a) → loop (k + 1) 89 (mk mr) = some (0, mk a))
    (h2 : ∀ k mr S op at' a b, rs r0 mr S op at' → at' ≤ n → rk (lk n T at') = r → Ro (mk (sF mr 89 5 (nI (at' + 1)))) = some (1, mk a) → fm_X11_step1 89 3 (lk n T at') (mk a) = some (mk b) → loop (k + 1) 89 (mk mr) = loop k 89 (mk b)) :
    ∀ (d at' op k : Nat) (S : List (Int32 × Int32)) (σ P x : List Int32) (m mr : xM2) (f : Nat), n - at' ≤ d → d < k → cs m0 m x (P ++ σ) op false → flush P x = itS u S → (∀ c, c ∈ P → r ≤ rk c) → fol (r + 1) P (lk n T at') → rs r0 mr S op at' → at' ≤ n → σ.length + S.length ≤ at' → ob ≤ op → op ≤ 5 → low r σ → nb σ → vS u S → 1 ≤ dS S → n - at' < f →
      (∃ mr' m' f' at2 S' P' x', loop k 89 (mk mr) = some (1, mk mr') ∧ rs r0 mr' S' op at2 ∧ at2 ≤ n ∧ at' ≤ at2 ∧ CR n u f at' m = CR n u f' at2 m' ∧ n - at2 < f' ∧ cs m0 m' x' (P' ++ σ) op false ∧ flush P' x' = itS u S' ∧ (∀ c, c ∈ P' → r ≤ rk c) ∧ σ.length + S'.length ≤ at2 ∧ vS u S' ∧ dS S' = dS S ∧ fol r P' (lk n T at2)) ∨ bad m0 r0 n u f at' m mr (fun H => loop k 89 H) := by
  intro d
  induction d with
  | zero =>
    intro at' op k S σ P x m mr f hd hk hc hf hP hfo hrs ha hl hob hop hlo hnb hv hds hff
    obtain ⟨k, rfl⟩ : ∃ z, k = z + 1 := ⟨k - 1, by omega⟩
    have e : lk n T at' = -1 := if_neg (by omega)
    have ne : rk (lk n T at') ≠ r := by rw [e, rk_m1]; omega
    exact Or.inl ⟨mr, m, f, at', S, P, x, h0 k mr S op at' hrs ha ne, hrs, ha, Nat.le_refl _, rfl, hff, hc, hf, hP, hl, hv, rfl, Or.inl (by rw [e, rk_m1]; omega)⟩
  | succ d ih =>
    intro at' op k S σ P x m mr f hd hk hc hf hP hfo hrs ha hl hob hop hlo hnb hv hds hff
    obtain ⟨k, rfl⟩ : ∃ z, k = z + 1 := ⟨k - 1, by omega⟩
    by_cases ne : rk (lk n T at') = r
    · obtain ⟨an, eT⟩ := lk_rk (n := n) (T := T) (a := at') (by omega)
      obtain ⟨f, rfl⟩ : ∃ z, f = z + 1 := ⟨f - 1, by omega⟩
      have fl := flush_len P x
      rw [hf, itS_len] at fl
      have rT : rk (T at') = r := by rw [← eT]; exact ne
      obtain ⟨m1, c1, c2⟩ := cr_sign (u := u) (f := f) hc hT hn an rT hr1 hr3 hP hlo (by omega) (by rw [List.length_append]; omega)
      rw [hf] at c2
      have rs1 := r_at hrs (at' + 1)
      rcases ho (at' + 1) op S (T at' :: σ) m1 (sF mr 89 5 (nI (at' + 1))) f c2 rs1 an (by show σ.length + 1 + S.length ≤ at' + 1; omega) hob hop (by show rk (T at') < r + 1; omega) (rk_nb (by omega)) hv (by omega) with ⟨mr', m', f', at2, S', P', x', e1, e2, e3, e4, e5, e6, e7, e8, e9, e10, e11, e12, e13⟩ | ⟨mr', m', p, S', op', out', stk', cop', w', e1, e2, e3, e4, e5⟩
      · have e10' : σ.length + 1 + S'.length ≤ at2 := e10
        obtain ⟨b, b1, b2⟩ := r_step e2 (by omega) 3 (lk n T at')
        have st := h2 k mr S op at' mr' b hrs ha ne e1 b1
        have dd : dS ((3, lk n T at') :: S') = dS S := by
          rw [dS_op, e12]; omega
        have vv : vS u ((3, lk n T at') :: S') := ⟨Or.inr (Or.inr (Or.inr ⟨rfl, rk_sg (show 1 ≤ rk (lk n T at') by omega), by show 2 ≤ dS S'; omega⟩)), e11⟩
        have ff : flush (P' ++ [T at']) x' = itS u ((3, lk n T at') :: S') := by
          rw [flush_app, e8]
          show -T at' :: itS u S' = itm u 3 (lk n T at') :: itS u S'
          rw [eT]
          rfl
        have cc : cs m0 m' x' ((P' ++ [T at']) ++ σ) op false := by rw [List.append_assoc]; exact e7
        rcases ih at2 op k ((3, lk n T at') :: S') σ (P' ++ [T at']) x' m' b f' (by omega) (by omega) cc ff (fun c hcm => by
            rcases List.mem_append.mp hcm with q | q
            · have := e9 c q; omega
            · rw [List.mem_singleton.mp q, rT]; exact Nat.le_refl _) (by
            rcases e13 with q | ⟨q1, q2, P1, z, P2, q3, q4, q5⟩
            · exact Or.inl q
            · exact Or.inr ⟨q1, q2, P1, z, P2 ++ [T at'], by rw [q3]; simp, q4, q5⟩) b2 e3 (by show σ.length + (S'.length + 1) ≤ at2; omega) hob hop hlo hnb vv (by omega) e6 with ⟨mr2, m2, f2, at3, S3, P3, x3, g1, g2, g3, g4, g5, g6, g7, g8, g9, g10, g11, g12, g13⟩ | ⟨mr2, m2, p, S3, op3, out3, stk3, cop3, w3, g1, g2, g3, g4, g5⟩
        · exact Or.inl ⟨mr2, m2, f2, at3, S3, P3, x3, st.trans g1, g2, g3, by omega, c1.trans (e5.trans g5), g6, g7, g8, g9, g10, g11, by rw [g12, dd], g13⟩
        · exact Or.inr ⟨mr2, m2, p, S3, op3, out3, stk3, cop3, w3, st.trans g1, g2, g3, c1.trans (e5.trans g4), g5⟩
      · exact Or.inr ⟨mr', m', p, S', op', out', stk', cop', w', h1 k mr S op at' mr' hrs ha ne e1, e2, e3, c1.trans e4, e5⟩
    · refine Or.inl ⟨mr, m, f, at', S, P, x, h0 k mr S op at' hrs ha ne, hrs, ha, Nat.le_refl _, rfl, hff, hc, hf, hP, hl, hv, rfl, ?_⟩
      rcases hfo with q | ⟨q1, q2, q3⟩
      · exact Or.inl (by omega)
      · exact Or.inr ⟨q1, by omega, q3⟩
theorem bin_px (hn : n ≤ 60) (hT : m0.1 17 = T) (hr1 : 1 ≤ r) (hr5 : r ≤ 5) (hr3 : r ≠ 3) (ho : PX m0 r0 n u T ob (r + 1) Ro)
    (h0 : ∀ k mr S op at', rs r0 mr S op at' → at' ≤ n → rk (lk n T at') ≠ r → loop (k + 1) 89 (mk mr) = some (1, mk mr))
    (h1 : ∀ k mr S op at' a, rs r0 mr S op at' → at' ≤ n → rk (lk n T at') = r → Ro (mk (sF mr 89 5 (nI (at' + 1)))) = some (0, mk a) → loop (k + 1) 89 (mk mr) = some (0, mk a))
    (h2 : ∀ k mr S op at' a b, rs r0 mr S op at' → at' ≤ n → rk (lk n T at') = r → Ro (mk (sF mr 89 5 (nI (at' + 1)))) = some (1, mk a) → fm_X11_step1 89 3 (lk n T at') (mk a) = some (mk b) → loop (k + 1) 89 (mk mr) = loop k 89 (mk b))
    (hR0 : ∀ mr a, Ro (mk mr) = some (0, mk a) → R (mk mr) = some (0, mk a)) (hR1 : ∀ mr a, Ro (mk mr) = some (1, mk a) → R (mk mr) = loop 5000 89 (mk a)) : PX m0 r0 n u T ob r R := by
  intro at' op S σ m mr f hc hrs ha hl hob hop hlo hnb hv hff
  have hlo' : low (r + 1) σ := by
    cases σ with
    | nil => trivial
    | cons c q => have : rk c < r := hlo; show rk c < r + 1; omega
  rcases ho at' op S σ m mr f hc hrs ha hl hob hop hlo' hnb hv hff with ⟨mr', m', f', at2, S', P', x', e1, e2, e3, e4, e5, e6, e7, e8, e9, e10, e11, e12, e13⟩ | ⟨mr', m', p, S', op', out', stk', cop', w', e1, e2, e3, e4, e5⟩
  · rcases bin_loop hn hT hr1 hr5 hr3 ho h0 h1 h2 (n - at2) at2 op 5000 S' σ P' x' m' mr' f' (Nat.le_refl _) (by omega) e7 e8 (fun c hcm => by have := e9 c hcm; omega) e13 e2 e3 e10 hob hop hlo hnb e11 (by omega) e6 with ⟨mr2, m2, f2, at3, S3, P3, x3, g1, g2, g3, g4, g5, g6, g7, g8, g9, g10, g11, g12, g13⟩ | ⟨mr2, m2, p, S3, op3, out3, stk3, cop3, w3, g1, g2, g3, g4, g5⟩
    · exact Or.inl ⟨mr2, m2, f2, at3, S3, P3, x3, (hR1 mr mr' e1).trans g1, g2, g3, by omega, e5.trans g5, g6, g7, g8, g9, g10, g11, by omega, g13⟩
    · exact Or.inr ⟨mr2, m2, p, S3, op3, out3, stk3, cop3, w3, (hR1 mr mr' e1).trans g1, g2, g3, e5.trans g4, g5⟩
  · exact Or.inr ⟨mr', m', p, S', op', out', stk', cop', w', hR0 mr mr' e1, e2, e3, e4, e5⟩
/-- one comparison at most -/
theorem cmp_px (hn : n ≤ 60) (hT : m0.1 17 = T) (ho : PX m0 r0 n u T ob 4 Ro)
    (h0 : ∀ mr a S op at', Ro (mk mr) = some (1, mk a) → rs r0 a S op at' → at' ≤ n → rk (lk n T at') ≠ 3 → R (mk mr) = some (1, mk a))
    (hR0 : ∀ mr a, Ro (mk mr) = some (0, mk a) → R (mk mr) = some (0, mk a))
    (h1 : ∀ mr a b S op at', Ro (mk mr) = some (1, mk a) → rs r0 a S op at' → at' ≤ n → rk (lk n T at') = 3 → Ro (mk (sF a 89 5 (nI (at' + 1)))) = some (0, mk b) → R (mk mr) = some (0, mk b))
    (h2 : ∀ mr a b c S op at', Ro (mk mr) = some (1, mk a) → rs r0 a S op at' → at' ≤ n → rk (lk n T at') = 3 → Ro (mk (sF a 89 5 (nI (at' + 1)))) = some (1, mk b) → fm_X11_step1 89 3 (lk n T at') (mk b) = some (mk c) → R (mk mr) = some (1, mk c)) : PX m0 r0 n u T ob 3 R := by
  intro at' op S σ m mr f hc hrs ha hl hob hop hlo hnb hv hff
  have hlo' : low 4 σ := by
    cases σ with
    | nil => trivial
    | cons c q => have : rk c < 3 := hlo; show rk c < 4; omega
  rcases ho at' op S σ m mr f hc hrs ha hl hob hop hlo' hnb hv hff with ⟨a, m1, f1, at2, S1, P, x, e1, e2, e3, e4, e5, e6, e7, e8, e9, e10, e11, e12, e13⟩ | ⟨mr', m', p, S', op', out', stk', cop', w', e1, e2, e3, e4, e5⟩
  · have f4 : rk (lk n T at2) < 4 := by
      rcases e13 with q | ⟨-, q, -⟩
      · exact q
      · omega
    by_cases ne : rk (lk n T at2) = 3
    · obtain ⟨an, eT⟩ := lk_rk (n := n) (T := T) (a := at2) (by omega)
      obtain ⟨f1, rfl⟩ : ∃ z, f1 = z + 1 := ⟨f1 - 1, by omega⟩
      have fl := flush_len P x
      rw [e8, itS_len] at fl
      have rT : rk (T at2) = 3 := by rw [← eT]; exact ne
      obtain ⟨m2, c1, c2⟩ := (cr_cmp (u := u) (f := f1) e7 hT hn an rT e9 hlo' (by omega) (by rw [List.length_append]; omega)).1 hlo
      rw [e8] at c2
      rcases ho (at2 + 1) op S1 (T at2 :: σ) m2 (sF a 89 5 (nI (at2 + 1))) f1 c2 (r_at e2 (at2 + 1)) an (by show σ.length + 1 + S1.length ≤ at2 + 1; omega) hob hop (by show rk (T at2) < 4; omega) (rk_nb (by omega)) e11 (by omega) with ⟨b, m3, f3, at3, S3, P3, x3, g1, g2, g3, g4, g5, g6, g7, g8, g9, g10, g11, g12, g13⟩ | ⟨mr', m', p, S', op', out', stk', cop', w', g1, g2, g3, g4, g5⟩
      · have g10' : σ.length + 1 + S3.length ≤ at3 := g10
        obtain ⟨z, z1, z2⟩ := r_step g2 (by omega) 3 (lk n T at2)
        refine Or.inl ⟨z, m3, f3, at3, (3, lk n T at2) :: S3, P3 ++ [T at2], x3, h2 mr a b z S1 op at2 e1 e2 e3 ne g1 z1, z2, g3, by omega, e5.trans (c1.trans g5), g6, by rw [List.append_assoc]; exact g7, ?_, fun c hcm => ?_, by show σ.length + (S3.length + 1) ≤ at3; omega, ⟨Or.inr (Or.inr (Or.inr ⟨rfl, rk_sg (show 1 ≤ rk (lk n T at2) by omega), by show 2 ≤ dS S3; omega⟩)), g11⟩, ?_, ?_⟩
        · rw [flush_app, g8]
          show -T at2 :: itS u S3 = itm u 3 (lk n T at2) :: itS u S3
          rw [eT]
          rfl
        · rcases List.mem_append.mp hcm with q | q
          · have := g9 c q; omega
          · rw [List.mem_singleton.mp q, rT]; exact Nat.le_refl _
        · rw [dS_op]; omega
        · have f5 : rk (lk n T at3) < 4 := by
            rcases g13 with q | ⟨-, q, -⟩
            · exact q
            · omega
          by_cases q3 : rk (lk n T at3) = 3
          · exact Or.inr ⟨q3, Nat.le_refl _, P3, T at2, [], rfl, rT, g9⟩
          · exact Or.inl (by omega)
      · exact Or.inr ⟨mr', m', p, S', op', out', stk', cop', w', h1 mr a mr' S1 op at2 e1 e2 e3 ne g1, g2, g3, e5.trans (c1.trans g4), g5⟩
    · exact Or.inl ⟨a, m1, f1, at2, S1, P, x, h0 mr a S1 op at2 e1 e2 e3 ne, e2, e3, e4, e5, e6, e7, e8, fun c hcm => by have := e9 c hcm; omega, e10, e11, e12, Or.inl (by omega)⟩
  · exact Or.inr ⟨mr', m', p, S', op', out', stk', cop', w', hR0 mr mr' e1, e2, e3, e4, e5⟩
end BN
