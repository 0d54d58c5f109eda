/-! VOICES -/
def xb_list : List Int32 := [10, 11, 12, 13, 20, 0, 0, 21, 0, 30, 0, 0, 0, 0, 40, 0, 50, 0, 51, 0, 0, 60, 0, 0, 70, 71, 0, 0]
def xb_st (L : Nat) (xs : Nat → Int32) : xT := fun w => if w = 0 then some (28, fun i => xb_list.getD i 0) else if w = 1 then some (L, xs) else none
section VO
variable {L : Nat} {xs : Nat → Int32}
theorem sp_0_0 {f : Nat} {x d : Int32} {m : xM2} : fm_X9_speak (xb_st L xs) (f + 1) 77 0 0 x d (mk m) = ob2 (fm_X9_bodySays (xb_st L xs) (fm_X9_speak (xb_st L xs) f) 77 10 (-1) x d (mk m)) fun v67 H67 => some (v67, H67) := rfl
theorem sp_0_1 {f : Nat} {x d : Int32} {m : xM2} : fm_X9_speak (xb_st L xs) (f + 1) 77 0 1 x d (mk m) = ob2 (fm_X9_bodySays (xb_st L xs) (fm_X9_speak (xb_st L xs) f) 77 11 (-1) x d (mk m)) fun v67 H67 => some (v67, H67) := rfl
theorem sp_0_2 {f : Nat} {x d : Int32} {m : xM2} : fm_X9_speak (xb_st L xs) (f + 1) 77 0 2 x d (mk m) = ob2 (fm_X9_bodySays (xb_st L xs) (fm_X9_speak (xb_st L xs) f) 77 12 (-1) x d (mk m)) fun v67 H67 => some (v67, H67) := rfl
theorem sp_0_3 {f : Nat} {x d : Int32} {m : xM2} : fm_X9_speak (xb_st L xs) (f + 1) 77 0 3 x d (mk m) = ob2 (fm_X9_bodySays (xb_st L xs) (fm_X9_speak (xb_st L xs) f) 77 13 (-1) x d (mk m)) fun v67 H67 => some (v67, H67) := rfl
theorem sp_1_0 {f : Nat} {x d : Int32} {m : xM2} : fm_X9_speak (xb_st L xs) (f + 1) 77 1 0 x d (mk m) = ob2 (fm_X9_bodySays (xb_st L xs) (fm_X9_speak (xb_st L xs) f) 77 20 0 x d (mk m)) fun v67 H67 => some (v67, H67) := rfl
theorem sp_1_1 {f : Nat} {x d : Int32} {m : xM2} : fm_X9_speak (xb_st L xs) (f + 1) 77 1 1 x d (mk m) = ob2 (fm_X9_bodySays (xb_st L xs) (fm_X9_speak (xb_st L xs) f) 77 11 (-1) x d (mk m)) fun v67 H67 => some (v67, H67) := rfl
theorem sp_1_2 {f : Nat} {x d : Int32} {m : xM2} : fm_X9_speak (xb_st L xs) (f + 1) 77 1 2 x d (mk m) = ob2 (fm_X9_bodySays (xb_st L xs) (fm_X9_speak (xb_st L xs) f) 77 12 (-1) x d (mk m)) fun v67 H67 => some (v67, H67) := rfl
theorem sp_1_3 {f : Nat} {x d : Int32} {m : xM2} : fm_X9_speak (xb_st L xs) (f + 1) 77 1 3 x d (mk m) = ob2 (fm_X9_bodySays (xb_st L xs) (fm_X9_speak (xb_st L xs) f) 77 21 0 x d (mk m)) fun v67 H67 => some (v67, H67) := rfl
theorem sp_2_0 {f : Nat} {x d : Int32} {m : xM2} : fm_X9_speak (xb_st L xs) (f + 1) 77 2 0 x d (mk m) = ob2 (fm_X9_bodySays (xb_st L xs) (fm_X9_speak (xb_st L xs) f) 77 10 (-1) x d (mk m)) fun v67 H67 => some (v67, H67) := rfl
theorem sp_2_1 {f : Nat} {x d : Int32} {m : xM2} : fm_X9_speak (xb_st L xs) (f + 1) 77 2 1 x d (mk m) = ob2 (fm_X9_bodySays (xb_st L xs) (fm_X9_speak (xb_st L xs) f) 77 30 0 x d (mk m)) fun v67 H67 => some (v67, H67) := rfl
theorem sp_2_2 {f : Nat} {x d : Int32} {m : xM2} : fm_X9_speak (xb_st L xs) (f + 1) 77 2 2 x d (mk m) = ob2 (fm_X9_bodySays (xb_st L xs) (fm_X9_speak (xb_st L xs) f) 77 12 (-1) x d (mk m)) fun v67 H67 => some (v67, H67) := rfl
theorem sp_2_3 {f : Nat} {x d : Int32} {m : xM2} : fm_X9_speak (xb_st L xs) (f + 1) 77 2 3 x d (mk m) = ob2 (fm_X9_bodySays (xb_st L xs) (fm_X9_speak (xb_st L xs) f) 77 13 (-1) x d (mk m)) fun v67 H67 => some (v67, H67) := rfl
theorem sp_3_0 {f : Nat} {x d : Int32} {m : xM2} : fm_X9_speak (xb_st L xs) (f + 1) 77 3 0 x d (mk m) = ob2 (fm_X9_bodySays (xb_st L xs) (fm_X9_speak (xb_st L xs) f) 77 10 (-1) x d (mk m)) fun v67 H67 => some (v67, H67) := rfl
theorem sp_3_1 {f : Nat} {x d : Int32} {m : xM2} : fm_X9_speak (xb_st L xs) (f + 1) 77 3 1 x d (mk m) = ob2 (fm_X9_bodySays (xb_st L xs) (fm_X9_speak (xb_st L xs) f) 77 11 (-1) x d (mk m)) fun v67 H67 => some (v67, H67) := rfl
theorem sp_3_2 {f : Nat} {x d : Int32} {m : xM2} : fm_X9_speak (xb_st L xs) (f + 1) 77 3 2 x d (mk m) = ob2 (fm_X9_bodySays (xb_st L xs) (fm_X9_speak (xb_st L xs) f) 77 40 0 x d (mk m)) fun v67 H67 => some (v67, H67) := rfl
theorem sp_3_3 {f : Nat} {x d : Int32} {m : xM2} : fm_X9_speak (xb_st L xs) (f + 1) 77 3 3 x d (mk m) = ob2 (fm_X9_bodySays (xb_st L xs) (fm_X9_speak (xb_st L xs) f) 77 13 (-1) x d (mk m)) fun v67 H67 => some (v67, H67) := rfl
theorem sp_4_0 {f : Nat} {x d : Int32} {m : xM2} : fm_X9_speak (xb_st L xs) (f + 1) 77 4 0 x d (mk m) = ob2 (fm_X9_bodySays (xb_st L xs) (fm_X9_speak (xb_st L xs) f) 77 50 1 x d (mk m)) fun v67 H67 => some (v67, H67) := rfl
theorem sp_4_1 {f : Nat} {x d : Int32} {m : xM2} : fm_X9_speak (xb_st L xs) (f + 1) 77 4 1 x d (mk m) = ob2 (fm_X9_bodySays (xb_st L xs) (fm_X9_speak (xb_st L xs) f) 77 11 (-1) x d (mk m)) fun v67 H67 => some (v67, H67) := rfl
theorem sp_4_2 {f : Nat} {x d : Int32} {m : xM2} : fm_X9_speak (xb_st L xs) (f + 1) 77 4 2 x d (mk m) = ob2 (fm_X9_bodySays (xb_st L xs) (fm_X9_speak (xb_st L xs) f) 77 51 1 x d (mk m)) fun v67 H67 => some (v67, H67) := rfl
theorem sp_4_3 {f : Nat} {x d : Int32} {m : xM2} : fm_X9_speak (xb_st L xs) (f + 1) 77 4 3 x d (mk m) = ob2 (fm_X9_bodySays (xb_st L xs) (fm_X9_speak (xb_st L xs) f) 77 21 0 x d (mk m)) fun v67 H67 => some (v67, H67) := rfl
theorem sp_5_0 {f : Nat} {x d : Int32} {m : xM2} : fm_X9_speak (xb_st L xs) (f + 1) 77 5 0 x d (mk m) = ob2 (fm_X9_bodySays (xb_st L xs) (fm_X9_speak (xb_st L xs) f) 77 10 (-1) x d (mk m)) fun v67 H67 => some (v67, H67) := rfl
theorem sp_5_1 {f : Nat} {x d : Int32} {m : xM2} : fm_X9_speak (xb_st L xs) (f + 1) 77 5 1 x d (mk m) = ob2 (fm_X9_bodySays (xb_st L xs) (fm_X9_speak (xb_st L xs) f) 77 60 2 x d (mk m)) fun v67 H67 => some (v67, H67) := rfl
theorem sp_5_2 {f : Nat} {x d : Int32} {m : xM2} : fm_X9_speak (xb_st L xs) (f + 1) 77 5 2 x d (mk m) = ob2 (fm_X9_bodySays (xb_st L xs) (fm_X9_speak (xb_st L xs) f) 77 12 (-1) x d (mk m)) fun v67 H67 => some (v67, H67) := rfl
theorem sp_5_3 {f : Nat} {x d : Int32} {m : xM2} : fm_X9_speak (xb_st L xs) (f + 1) 77 5 3 x d (mk m) = ob2 (fm_X9_bodySays (xb_st L xs) (fm_X9_speak (xb_st L xs) f) 77 13 (-1) x d (mk m)) fun v67 H67 => some (v67, H67) := rfl
theorem sp_6_0 {f : Nat} {x d : Int32} {m : xM2} : fm_X9_speak (xb_st L xs) (f + 1) 77 6 0 x d (mk m) = ob2 (fm_X9_bodySays (xb_st L xs) (fm_X9_speak (xb_st L xs) f) 77 70 0 x d (mk m)) fun v67 H67 => some (v67, H67) := rfl
theorem sp_6_1 {f : Nat} {x d : Int32} {m : xM2} : fm_X9_speak (xb_st L xs) (f + 1) 77 6 1 x d (mk m) = ob2 (fm_X9_bodySays (xb_st L xs) (fm_X9_speak (xb_st L xs) f) 77 71 0 x d (mk m)) fun v67 H67 => some (v67, H67) := rfl
theorem sp_6_2 {f : Nat} {x d : Int32} {m : xM2} : fm_X9_speak (xb_st L xs) (f + 1) 77 6 2 x d (mk m) = ob2 (fm_X9_bodySays (xb_st L xs) (fm_X9_speak (xb_st L xs) f) 77 12 (-1) x d (mk m)) fun v67 H67 => some (v67, H67) := rfl
theorem sp_6_3 {f : Nat} {x d : Int32} {m : xM2} : fm_X9_speak (xb_st L xs) (f + 1) 77 6 3 x d (mk m) = ob2 (fm_X9_bodySays (xb_st L xs) (fm_X9_speak (xb_st L xs) f) 77 13 (-1) x d (mk m)) fun v67 H67 => some (v67, H67) := rfl
end VO
section VB
variable {st : xT} {rc : Nat → Int32 → Int32 → Int32 → Int32 → qx_H → Option (Int32 × qx_H)} {a x d : Int32} {m : xM2}
theorem b38_10 : fm_X9_bodySays_b38 st rc 77 10 a x d (mk m) = some (x + m.2 77 5, mk m) := rfl
theorem b38_11 : fm_X9_bodySays_b38 st rc 77 11 a x d (mk m) = ob2 (rc 77 (m.2 77 3) 0 x (d + 1) (mk m)) fun v168 H168 => some (v168 * 2, H168) := rfl
theorem b38_12 : fm_X9_bodySays_b38 st rc 77 12 a x d (mk m) = ob2 (rc 77 (m.2 77 3) 1 x (d + 1) (mk m)) fun v183 H183 => (hp_gI H183 77 7 4).bind fun v187 => some (v183 - v187, H183) := rfl
theorem b38_20 : fm_X9_bodySays_b38 st rc 77 20 a x d (mk m) = ob2 (rc 77 a 0 x (d + 1) (mk m)) fun v241 H241 => some (v241 - 8, H241) := rfl
theorem b38_21 : fm_X9_bodySays_b38 st rc 77 21 a x d (mk m) = ob2 (rc 77 a 3 x (d + 1) (mk m)) fun v254 H254 => (hp_gI H254 77 7 2).bind fun v260 => if v260 = 0 then ((hp_gI H254 77 7 3).bind fun v274 => if hp_is H254 77 7 = true then (ob2 (rc 77 v274 1 1 (d + 1) H254) fun v281 H281 => some (v254 + v281, H281)) else none) else (some (0, H254)) := rfl
theorem b38_30 : fm_X9_bodySays_b38 st rc 77 30 a x d (mk m) = ob2 (rc 77 a 1 x (d + 1) (mk m)) fun v293 H293 => some (0 - v293, H293) := rfl
theorem b38_40 : fm_X9_bodySays_b38 st rc 77 40 a x d (mk m) = ob2 (rc 77 a 2 (x / 2) (d + 1) (mk m)) fun v306 H306 => some (v306, H306) := rfl
theorem b38_50 : fm_X9_bodySays_b38 st rc 77 50 a x d (mk m) = ob2 (rc 77 a 0 x (d + 1) (mk m)) fun v316 H316 => some (v316 * 3, H316) := rfl
theorem b38_51 : fm_X9_bodySays_b38 st rc 77 51 a x d (mk m) = ob2 (rc 77 a 2 x (d + 1) (mk m)) fun v328 H328 => (hp_gI H328 77 7 5).bind fun v332 => some (v328 ^^^ v332, H328) := rfl
theorem b38_60 : fm_X9_bodySays_b38 st rc 77 60 a x d (mk m) = ob2 (rc 77 a 1 (x + 1) (d + 1) (mk m)) fun v345 H345 => some (v345, H345) := rfl
theorem b38_70 : fm_X9_bodySays_b38 st rc 77 70 a x d (mk m) = some (4, mk m) := rfl
theorem b38_71 : fm_X9_bodySays_b38 st rc 77 71 a x d (mk m) = ob2 (rc 77 a 1 x (d + 1) (mk m)) fun v357 H357 => (hp_gI H357 77 7 4).bind fun v361 => some (v357 + v361, H357) := rfl
theorem b38_13 : fm_X9_bodySays_b38 st rc 77 13 a x d (mk m) = if m.2 77 4 = m.2 77 5 then some (0, mk (sF m 77 2 1)) else some (x / (m.2 77 4 - m.2 77 5), mk (sF m 77 2 0)) := by
  have z1 : ((if m.2 77 4 = m.2 77 5 then 1 else 0) : Int32) = 0 ∨ ((if m.2 77 4 = m.2 77 5 then 1 else 0) : Int32) = 1 := by
    split
    · exact Or.inr rfl
    · exact Or.inl rfl
  have e : fm_X9_bodySays_b38 st rc 77 13 a x d (mk m) = (hp_gI (mk m) 77 7 4).bind fun v194 => (hp_gI (mk m) 77 7 5).bind fun v198 => if ((if v194 = v198 then 1 else 0) : Int32) = 0 ∨ ((if v194 = v198 then 1 else 0) : Int32) = 1 then ((hp_put (mk m) 77 7 2 (.int (if v194 = v198 then 1 else 0))).bind fun H209 => (hp_gI H209 77 7 2).bind fun v213 => if v213 = 0 then ((hp_gI H209 77 7 4).bind fun v225 => (hp_gI H209 77 7 5).bind fun v229 => if ¬ (v225 - v229) = 0 then (some (x / (v225 - v229), H209)) else none) else (some (0, H209))) else none := rfl
  rw [e, gI_77_4, Option.bind_some, gI_77_5, Option.bind_some, if_pos z1, mP_77_2, Option.bind_some, gI_77_2, Option.bind_some, sF_s, upd_s]
  by_cases q : m.2 77 4 = m.2 77 5
  · rw [if_pos q, if_neg one_ne, if_pos q]
  · have nz : ¬ m.2 77 4 - m.2 77 5 = 0 := fun z => q (by
      have := congrArg (fun y => y + m.2 77 5) z
      simpa using this)
    rw [if_neg q, if_pos rfl, gI_77_4, Option.bind_some, gI_77_5, Option.bind_some, sF_s, upd_n (by decide), upd_n (by decide), if_pos nz, if_neg q]
end VB
section VR
variable {L : Nat} {xs : Nat → Int32} {m0 r0 : xM2} {kd k : Nat} {mm : Int32}
def VV (m0 r0 : xM2) (kd k : Nat) (mm : Int32) (mC mR : xM2) : Prop :=
  ((∀ a, a ≠ 78 → mC.1 a = m0.1 a) ∧ ∀ o, o ≠ 77 → mC.2 o = m0.2 o) ∧ ((∀ a, a ≠ 100 → mR.1 a = r0.1 a) ∧ (∀ o, o ≠ 89 → mR.2 o = r0.2 o) ∧ mR.2 89 3 = r0.2 89 3) ∧
  (∃ n, n ≤ 30 ∧ mC.2 77 1 = nI n ∧ mR.2 89 16 = nI n ∧ ∀ j, j < n → mC.1 78 j = mR.1 100 j) ∧ mC.2 77 2 = mR.2 89 18 ∧ mC.2 77 3 = nI kd ∧ mC.2 77 4 = mm ∧ mC.2 77 5 = nI k ∧ mR.2 89 17 = nI k
theorem jbegin {mC mR : xM2} (b : Int32) (h : VV m0 r0 kd k mm mC mR) : ∃ mC' mR', (∀ st rc a x d, d ≤ 40 → fm_X9_bodySays st rc 77 b a x (nI d) (mk mC) = fm_X9_bodySays_b38 st rc 77 b a x (nI d) (mk mC')) ∧ fm_X11_begins 89 b (mk mR) = some (mk mR') ∧ VV m0 r0 kd k mm mC' mR' := by
  obtain ⟨⟨c1, c2⟩, ⟨d1, d2, d3⟩, ⟨n, n1, n2, n3, n4⟩, p, e3, e4, e5, e6⟩ := h
  by_cases q : n = 30
  · subst q
    refine ⟨mC, mR, fun st rc a x d hd => ?_, ?_, ⟨c1, c2⟩, ⟨d1, d2, d3⟩, ⟨30, n1, n2, n3, n4⟩, p, e3, e4, e5, e6⟩
    · have l : (nI d : Int32) ≤ 40 := nI_le (b := 40) hd (by decide)
      rw [fm_X9_bodySays, if_pos l, gI_77_1, Option.bind_some, n2, if_pos (show (30 : Int32) ≤ nI 30 by decide)]
    · rw [fm_X11_begins, gI_89_16, Option.bind_some, n3, if_pos (show (30 : Int32) ≤ nI 30 by decide)]
  · have n30 : n < 30 := by omega
    have g : ¬ (30 : Int32) ≤ nI n := nI_ge (b := 30) n30 (by decide)
    refine ⟨sF (sA mC 78 (upd (mC.1 78) n b)) 77 1 (nI (n + 1)), sF (sA mR 100 (upd (mR.1 100) n b)) 89 16 (nI (n + 1)), fun st rc a x d hd => ?_, ?_, ⟨fun a ha => (sA_n ha).trans (c1 a ha), fun o ho => (sF_n ho).trans (c2 o ho)⟩, ⟨fun a ha => (sA_n ha).trans (d1 a ha), fun o ho => (sF_n ho).trans (d2 o ho), ?_⟩, ⟨n + 1, by omega, ?_, ?_, fun j hj => ?_⟩, ?_, ?_, ?_, ?_, ?_⟩
    · have l : (nI d : Int32) ≤ 40 := nI_le (b := 40) hd (by decide)
      rw [fm_X9_bodySays, if_pos l, gI_77_1, Option.bind_some, n2, if_neg g, gR_77_0, Option.bind_some, Option.bind_some, as_78 mC n30, Option.bind_some, gI_77_1, Option.bind_some, sA_2, n2, nI_1, mP_77_1, Option.bind_some]
    · rw [fm_X11_begins, gI_89_16, Option.bind_some, n3, if_neg g, gR_89_15, Option.bind_some, Option.bind_some, as_100 mR n30, Option.bind_some, gI_89_16, Option.bind_some, sA_2, n3, nI_1, mP_89_16, Option.bind_some]
    · rw [sF_s, upd_n (by decide)]; exact d3
    · rw [sF_s, upd_s]
    · rw [sF_s, upd_s]
    · show upd (mC.1 78) n b j = (sA mR 100 (upd (mR.1 100) n b)).1 100 j
      rw [sA_s]
      by_cases w : j = n
      · rw [w, upd_s, upd_s]
      · rw [upd_n w, upd_n w]; exact n4 j (by omega)
    · rw [sF_s, sF_s, upd_n (by decide), upd_n (by decide)]; exact p
    · rw [sF_s, upd_n (by decide)]; exact e3
    · rw [sF_s, upd_n (by decide)]; exact e4
    · rw [sF_s, upd_n (by decide)]; exact e5
    · rw [sF_s, upd_n (by decide)]; exact e6
def jv (L : Nat) (xs : Nat → Int32) (m0 r0 : xM2) (kd k : Nat) (mm : Int32) (rank : Nat) (v c : Int32) (R : Int32 → qx_H → Option (Int32 × qx_H)) : Prop :=
  ∀ f d x mC mR, rank ≤ f → d + rank ≤ 41 → VV m0 r0 kd k mm mC mR → ∃ w mC' mR', fm_X9_speak (xb_st L xs) f 77 c v x (nI d) (mk mC) = some (w, mk mC') ∧ R x (mk mR) = some (w, mk mR') ∧ VV m0 r0 kd k mm mC' mR'
theorem jv.mono {r r' : Nat} {v c : Int32} {R : Int32 → qx_H → Option (Int32 × qx_H)} (h : jv L xs m0 r0 kd k mm r v c R) (hr : r ≤ r') : jv L xs m0 r0 kd k mm r' v c R := fun f d x mC mR h1 h2 h3 => h f d x mC mR (by omega) (by omega) h3
theorem jv.def_ {r : Nat} {v c c' : Int32} {R R' : Int32 → qx_H → Option (Int32 × qx_H)} (h : jv L xs m0 r0 kd k mm r v c' R') (hr : 1 ≤ r) (hC : ∀ f x d m, fm_X9_speak (xb_st L xs) (f + 1) 77 c v x d (mk m) = fm_X9_speak (xb_st L xs) (f + 1) 77 c' v x d (mk m)) (hR : ∀ x m, R x (mk m) = R' x (mk m)) : jv L xs m0 r0 kd k mm r v c R := by
  intro f d x mC mR h1 h2 h3
  obtain ⟨f, rfl⟩ : ∃ z, f = z + 1 := ⟨f - 1, by omega⟩
  obtain ⟨w, a, b, e1, e2, e3⟩ := h (f + 1) d x mC mR h1 h2 h3
  exact ⟨w, a, b, (hC f x _ mC).trans e1, (hR x mR).trans e2, e3⟩
/-- a body that asks one voice further up -/
theorem jv.up {r : Nat} {v c b a v2 : Int32} {g g2 : Int32 → Int32} {R R2 : Int32 → qx_H → Option (Int32 × qx_H)} (h : jv L xs m0 r0 kd k mm r v2 a R2)
    (hC : ∀ f x d m, fm_X9_speak (xb_st L xs) (f + 1) 77 c v x d (mk m) = ob2 (fm_X9_bodySays (xb_st L xs) (fm_X9_speak (xb_st L xs) f) 77 b a x d (mk m)) fun v67 H67 => some (v67, H67))
    (hB : ∀ rc x d m mC', VV m0 r0 kd k mm mC' m → ∀ w mC2 mR2, rc 77 a v2 (g2 x) (nI d + 1) (mk mC') = some (w, mk mC2) → VV m0 r0 kd k mm mC2 mR2 → fm_X9_bodySays_b38 (xb_st L xs) rc 77 b a x (nI d) (mk mC') = some (g w, mk mC2))
    (hR : ∀ x m m', fm_X11_begins 89 b (mk m) = some (mk m') → ∀ w mR2 mC2, R2 (g2 x) (mk m') = some (w, mk mR2) → VV m0 r0 kd k mm mC2 mR2 → R x (mk m) = some (g w, mk mR2)) : jv L xs m0 r0 kd k mm (r + 1) v c R := by
  intro f d x mC mR h1 h2 h3
  obtain ⟨f, rfl⟩ : ∃ z, f = z + 1 := ⟨f - 1, by omega⟩
  obtain ⟨mC', mR', b1, b2, b3⟩ := jbegin b h3
  obtain ⟨w, m2, r2, e1, e2, e3⟩ := h f (d + 1) (g2 x) mC' mR' (by omega) (by omega) b3
  rw [← nI_1] at e1
  refine ⟨g w, m2, r2, ?_, hR x mR mR' b2 w r2 m2 e2 e3, e3⟩
  rw [hC, b1 _ _ _ _ d (by omega), ob2_eta]
  exact hB _ x d mR' mC' b3 w m2 r2 e1 e3
theorem j_h0 (g : Nat) : jv L xs m0 r0 kd k mm 1 0 0 (fun x H => fm_X11_holdsAs (g + 1) 89 0 x H) := by
  intro f d x mC mR h1 h2 h3
  obtain ⟨f, rfl⟩ : ∃ z, f = z + 1 := ⟨f - 1, by omega⟩
  obtain ⟨mC', mR', b1, b2, b3⟩ := jbegin 10 h3
  refine ⟨x + nI k, mC', mR', ?_, ?_, b3⟩
  · rw [sp_0_0, b1 _ _ _ _ d (by omega), ob2_eta, b38_10, b3.2.2.2.2.2.2.1]
  · show fm_X11_holdsAs_e (fm_X11_holdsAs g) 89 0 x (mk mR) = _
    rw [fm_X11_holdsAs_e, if_pos rfl, if_pos (his_89 mR), b2, Option.bind_some, gI_89_17, Option.bind_some, b3.2.2.2.2.2.2.2]
theorem j_h1 (g : Nat) : jv L xs m0 r0 kd k mm 2 0 1 (fun x H => fm_X11_holdsAs (g + 2) 89 1 x H) :=
  jv.up (g := fun w => w - 8) (g2 := fun x => x) (j_h0 g) (fun f x d m => sp_1_0) (fun rc x d m mC' _ w mC2 mR2 e _ => by rw [b38_20, e, ob2_some]) (fun x m m' hb w mR2 mC2 e _ => by
    show fm_X11_holdsAs_e (fm_X11_holdsAs (g + 1)) 89 1 x (mk m) = _
    rw [fm_X11_holdsAs_e, if_neg (by decide), if_pos rfl, if_pos (his_89 m), hb, Option.bind_some, if_pos (his_89 m')]
    show ob2 (fm_X11_holdsAs (g + 1) 89 0 x (mk m')) _ = _
    rw [e, ob2_some])
theorem j_h4 (g : Nat) : jv L xs m0 r0 kd k mm 3 0 4 (fun x H => fm_X11_holdsAs (g + 3) 89 4 x H) :=
  jv.up (g := fun w => w * 3) (g2 := fun x => x) (j_h1 g) (fun f x d m => sp_4_0) (fun rc x d m mC' _ w mC2 mR2 e _ => by rw [b38_50, e, ob2_some]) (fun x m m' hb w mR2 mC2 e _ => by
    show fm_X11_holdsAs_e (fm_X11_holdsAs (g + 2)) 89 4 x (mk m) = _
    rw [fm_X11_holdsAs_e, if_neg (by decide), if_neg (by decide), if_neg (by decide), if_neg (by decide), if_pos rfl, if_pos (his_89 m), hb, Option.bind_some, if_pos (his_89 m')]
    show ob2 (fm_X11_holdsAs (g + 2) 89 1 x (mk m')) _ = _
    rw [e, ob2_some])
theorem j_h6 (g : Nat) : jv L xs m0 r0 kd k mm 1 0 6 (fun x H => fm_X11_holdsAs (g + 1) 89 6 x H) := by
  intro f d x mC mR h1 h2 h3
  obtain ⟨f, rfl⟩ : ∃ z, f = z + 1 := ⟨f - 1, by omega⟩
  obtain ⟨mC', mR', b1, b2, b3⟩ := jbegin 70 h3
  refine ⟨4, mC', mR', ?_, ?_, b3⟩
  · rw [sp_6_0, b1 _ _ _ _ d (by omega), ob2_eta, b38_70]
  · show fm_X11_holdsAs_e (fm_X11_holdsAs g) 89 6 x (mk mR) = _
    rw [fm_X11_holdsAs_e, if_neg (by decide), if_neg (by decide), if_neg (by decide), if_neg (by decide), if_neg (by decide), if_neg (by decide), if_pos rfl, if_pos (his_89 mR), b2, Option.bind_some]
theorem j_h2 (g : Nat) : jv L xs m0 r0 kd k mm 1 0 2 (fun x H => fm_X11_holdsAs (g + 2) 89 2 x H) :=
  (j_h0 g).def_ (by decide) (fun f x d m => by rw [sp_2_0, sp_0_0]) (fun x m => by
    show fm_X11_holdsAs_e (fm_X11_holdsAs (g + 1)) 89 2 x (mk m) = _
    rw [fm_X11_holdsAs_e, if_neg (by decide), if_neg (by decide), if_pos rfl, if_pos (his_89 m), ob2_eta]; rfl)
theorem j_h3 (g : Nat) : jv L xs m0 r0 kd k mm 1 0 3 (fun x H => fm_X11_holdsAs (g + 2) 89 3 x H) :=
  (j_h0 g).def_ (by decide) (fun f x d m => by rw [sp_3_0, sp_0_0]) (fun x m => by
    show fm_X11_holdsAs_e (fm_X11_holdsAs (g + 1)) 89 3 x (mk m) = _
    rw [fm_X11_holdsAs_e, if_neg (by decide), if_neg (by decide), if_neg (by decide), if_pos rfl, if_pos (his_89 m), ob2_eta]; rfl)
theorem j_h5 (g : Nat) : jv L xs m0 r0 kd k mm 1 0 5 (fun x H => fm_X11_holdsAs (g + 3) 89 5 x H) :=
  (j_h2 g).def_ (by decide) (fun f x d m => by rw [sp_5_0, sp_2_0]) (fun x m => by
    show fm_X11_holdsAs_e (fm_X11_holdsAs (g + 2)) 89 5 x (mk m) = _
    rw [fm_X11_holdsAs_e, if_neg (by decide), if_neg (by decide), if_neg (by decide), if_neg (by decide), if_neg (by decide), if_pos rfl, if_pos (his_89 m), ob2_eta]; rfl)
theorem j_hold (c : Nat) (hc : c ≤ 6) : jv L xs m0 r0 kd k mm 3 0 (nI c) (fun x H => fm_X11_holdsAs 6 89 (nI c) x H) := by
  have : c = 0 ∨ c = 1 ∨ c = 2 ∨ c = 3 ∨ c = 4 ∨ c = 5 ∨ c = 6 := by omega
  rcases this with rfl | rfl | rfl | rfl | rfl | rfl | rfl
  · exact (j_h0 5).mono (by decide)
  · exact (j_h1 4).mono (by decide)
  · exact (j_h2 4).mono (by decide)
  · exact (j_h3 4).mono (by decide)
  · exact j_h4 3
  · exact (j_h5 3).mono (by decide)
  · exact (j_h6 5).mono (by decide)
end VR
