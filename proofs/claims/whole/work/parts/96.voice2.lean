/-! VOICES: SLIPS, TIES, PARTS -/
section VR2
variable {L : Nat} {xs : Nat → Int32} {m0 r0 : xM2} {kd k : Nat} {mm : Int32}
theorem kindNow_ok {mC mR : xM2} (hk : k < 20) (hkd : r0.1 90 (8 + 4 * k) = nI kd) (h : VV m0 r0 kd k mm mC mR) : fm_X11_kindNow 89 (mk mR) = some (nI kd) := by
  obtain ⟨-, ⟨d1, -, -⟩, -, -, -, -, -, e6⟩ := h
  rw [fm_X11_kindNow, gI_89_17, Option.bind_some, if_pos (his_89 mR), e6, its0 hk, Option.bind_some, d1 90 (by decide), hkd]
theorem mNow_ok {mC mR : xM2} (hk : k < 20) (hmm : r0.1 90 (8 + 4 * k + 1) = mm) (h : VV m0 r0 kd k mm mC mR) : fm_X11_mNow 89 (mk mR) = some mm := by
  obtain ⟨-, ⟨d1, -, -⟩, -, -, -, -, -, e6⟩ := h
  rw [fm_X11_mNow, gI_89_17, Option.bind_some, if_pos (his_89 mR), e6, its1 hk, Option.bind_some, d1 90 (by decide), hmm]
/-- a body that asks a voice of the kind now -/
theorem jv.nw {r : Nat} {v c b a v2 : Int32} {g : Int32 → Int32} {R R2 : Int32 → qx_H → Option (Int32 × qx_H)} (h : jv L xs m0 r0 kd k mm r v2 (nI kd) R2)
    (hC : ∀ f x d m, fm_X9_speak (xb_st L xs) (f + 1) 77 c v x d (mk m) = ob2 (fm_X9_bodySays (xb_st L xs) (fm_X9_speak (xb_st L xs) f) 77 b a x d (mk m)) fun v67 H67 => some (v67, H67))
    (hB : ∀ rc x d m mC', VV m0 r0 kd k mm mC' m → ∀ w mC2 mR2, rc 77 (nI kd) v2 x (nI d + 1) (mk mC') = some (w, mk mC2) → VV m0 r0 kd k mm mC2 mR2 → fm_X9_bodySays_b38 (xb_st L xs) rc 77 b a x (nI d) (mk mC') = some (g w, mk mC2))
    (hR : ∀ x m m' mCx, fm_X11_begins 89 b (mk m) = some (mk m') → VV m0 r0 kd k mm mCx m' → ∀ w mR2 mC2, R2 x (mk m') = some (w, mk mR2) → VV m0 r0 kd k mm mC2 mR2 → R x (mk m) = some (g w, mk mR2)) : jv L xs m0 r0 kd k mm (r + 1) v c R := by
  intro f d x mC mR h1 h2 h3
  obtain ⟨f, rfl⟩ : ∃ z, f = z + 1 := ⟨f - 1, by omega⟩
  obtain ⟨mC', mR', b1, b2, b3⟩ := jbegin b h3
  obtain ⟨w, m2, r2, e1, e2, e3⟩ := h f (d + 1) x mC' mR' (by omega) (by omega) b3
  rw [← nI_1] at e1
  refine ⟨g w, m2, r2, ?_, hR x mR mR' mC' b2 b3 w r2 m2 e2 e3, e3⟩
  rw [hC, b1 _ _ _ _ d (by omega), ob2_eta]
  exact hB _ x d mR' mC' b3 w m2 r2 e1 e3
theorem j_s0 (hk : k < 20) (hk6 : kd ≤ 6) (hkd : r0.1 90 (8 + 4 * k) = nI kd) (g : Nat) : jv L xs m0 r0 kd k mm 4 1 0 (fun x H => fm_X11_slipsAs (g + 1) 89 0 x H) :=
  jv.nw (g := fun w => w * 2) (j_hold kd hk6) (fun f x d m => sp_0_1) (fun rc x d m mC' hv w mC2 mR2 e _ => by rw [b38_11, hv.2.2.2.2.1, e, ob2_some]) (fun x m m' mCx hb hv w mR2 mC2 e _ => by
    show fm_X11_slipsAs_e (fm_X11_slipsAs g) 89 0 x (mk m) = _
    rw [fm_X11_slipsAs_e, if_pos rfl, if_pos (his_89 m), hb, Option.bind_some, if_pos (his_89 m'), kindNow_ok hk hkd hv, Option.bind_some, e, ob2_some])
theorem j_s1 (hk : k < 20) (hk6 : kd ≤ 6) (hkd : r0.1 90 (8 + 4 * k) = nI kd) (g : Nat) : jv L xs m0 r0 kd k mm 4 1 1 (fun x H => fm_X11_slipsAs (g + 2) 89 1 x H) :=
  (j_s0 hk hk6 hkd g).def_ (by decide) (fun f x d m => by rw [sp_1_1, sp_0_1]) (fun x m => by
    show fm_X11_slipsAs_e (fm_X11_slipsAs (g + 1)) 89 1 x (mk m) = _
    rw [fm_X11_slipsAs_e, if_neg (by decide), if_pos rfl, if_pos (his_89 m), ob2_eta]; rfl)
theorem j_s3 (hk : k < 20) (hk6 : kd ≤ 6) (hkd : r0.1 90 (8 + 4 * k) = nI kd) (g : Nat) : jv L xs m0 r0 kd k mm 4 1 3 (fun x H => fm_X11_slipsAs (g + 2) 89 3 x H) :=
  (j_s0 hk hk6 hkd g).def_ (by decide) (fun f x d m => by rw [sp_3_1, sp_0_1]) (fun x m => by
    show fm_X11_slipsAs_e (fm_X11_slipsAs (g + 1)) 89 3 x (mk m) = _
    rw [fm_X11_slipsAs_e, if_neg (by decide), if_neg (by decide), if_neg (by decide), if_pos rfl, if_pos (his_89 m), ob2_eta]; rfl)
theorem j_s4 (hk : k < 20) (hk6 : kd ≤ 6) (hkd : r0.1 90 (8 + 4 * k) = nI kd) (g : Nat) : jv L xs m0 r0 kd k mm 4 1 4 (fun x H => fm_X11_slipsAs (g + 3) 89 4 x H) :=
  (j_s1 hk hk6 hkd g).def_ (by decide) (fun f x d m => by rw [sp_4_1, sp_1_1]) (fun x m => by
    show fm_X11_slipsAs_e (fm_X11_slipsAs (g + 2)) 89 4 x (mk m) = _
    rw [fm_X11_slipsAs_e, if_neg (by decide), if_neg (by decide), if_neg (by decide), if_neg (by decide), if_pos rfl, if_pos (his_89 m), ob2_eta]; rfl)
theorem j_s2 (hk : k < 20) (hk6 : kd ≤ 6) (hkd : r0.1 90 (8 + 4 * k) = nI kd) (g : Nat) : jv L xs m0 r0 kd k mm 5 1 2 (fun x H => fm_X11_slipsAs (g + 2) 89 2 x H) :=
  jv.up (g := fun w => 0 - w) (g2 := fun x => x) (j_s0 hk hk6 hkd g) (fun f x d m => sp_2_1) (fun rc x d m mC' _ w mC2 mR2 e _ => by rw [b38_30, e, ob2_some]) (fun x m m' hb w mR2 mC2 e _ => by
    show fm_X11_slipsAs_e (fm_X11_slipsAs (g + 1)) 89 2 x (mk m) = _
    rw [fm_X11_slipsAs_e, if_neg (by decide), if_neg (by decide), if_pos rfl, if_pos (his_89 m), hb, Option.bind_some, if_pos (his_89 m')]
    show ob2 (fm_X11_slipsAs (g + 1) 89 0 x (mk m')) _ = _
    rw [e, ob2_some])
theorem j_s5 (hk : k < 20) (hk6 : kd ≤ 6) (hkd : r0.1 90 (8 + 4 * k) = nI kd) (g : Nat) : jv L xs m0 r0 kd k mm 6 1 5 (fun x H => fm_X11_slipsAs (g + 3) 89 5 x H) :=
  jv.up (g := fun w => w) (g2 := fun x => x + 1) (j_s2 hk hk6 hkd g) (fun f x d m => sp_5_1) (fun rc x d m mC' _ w mC2 mR2 e _ => by rw [b38_60, e, ob2_some]) (fun x m m' hb w mR2 mC2 e _ => by
    show fm_X11_slipsAs_e (fm_X11_slipsAs (g + 2)) 89 5 x (mk m) = _
    rw [fm_X11_slipsAs_e, if_neg (by decide), if_neg (by decide), if_neg (by decide), if_neg (by decide), if_neg (by decide), if_pos rfl, if_pos (his_89 m), hb, Option.bind_some, if_pos (his_89 m')]
    show ob2 (fm_X11_slipsAs (g + 2) 89 2 (x + 1) (mk m')) _ = _
    rw [e, ob2_some])
theorem j_s6 (hk : k < 20) (hk6 : kd ≤ 6) (hkd : r0.1 90 (8 + 4 * k) = nI kd) (hmm : r0.1 90 (8 + 4 * k + 1) = mm) (g : Nat) : jv L xs m0 r0 kd k mm 5 1 6 (fun x H => fm_X11_slipsAs (g + 2) 89 6 x H) :=
  jv.up (g := fun w => w + mm) (g2 := fun x => x) (j_s0 hk hk6 hkd g) (fun f x d m => sp_6_1) (fun rc x d m mC' _ w mC2 mR2 e hv => by rw [b38_71, e, ob2_some, gI_77_4, Option.bind_some, hv.2.2.2.2.2.1]) (fun x m m' hb w mR2 mC2 e hv => by
    show fm_X11_slipsAs_e (fm_X11_slipsAs (g + 1)) 89 6 x (mk m) = _
    rw [fm_X11_slipsAs_e, if_neg (by decide), if_neg (by decide), if_neg (by decide), if_neg (by decide), if_neg (by decide), if_neg (by decide), if_pos rfl, if_pos (his_89 m), hb, Option.bind_some, if_pos (his_89 m')]
    show ob2 (fm_X11_slipsAs (g + 1) 89 0 x (mk m')) _ = _
    rw [e, ob2_some, if_pos (his_89 mR2), mNow_ok hk hmm hv, Option.bind_some])
theorem j_slip (hk : k < 20) (hk6 : kd ≤ 6) (hkd : r0.1 90 (8 + 4 * k) = nI kd) (hmm : r0.1 90 (8 + 4 * k + 1) = mm) (c : Nat) (hc : c ≤ 6) : jv L xs m0 r0 kd k mm 6 1 (nI c) (fun x H => fm_X11_slipsAs 6 89 (nI c) x H) := by
  have : c = 0 ∨ c = 1 ∨ c = 2 ∨ c = 3 ∨ c = 4 ∨ c = 5 ∨ c = 6 := by omega
  rcases this with rfl | rfl | rfl | rfl | rfl | rfl | rfl
  · exact (j_s0 hk hk6 hkd 5).mono (by decide)
  · exact (j_s1 hk hk6 hkd 4).mono (by decide)
  · exact (j_s2 hk hk6 hkd 4).mono (by decide)
  · exact (j_s3 hk hk6 hkd 4).mono (by decide)
  · exact (j_s4 hk hk6 hkd 3).mono (by decide)
  · exact (j_s5 hk hk6 hkd 3).mono (by decide)
  · exact (j_s6 hk hk6 hkd hmm 4).mono (by decide)
theorem j_t0 (hk : k < 20) (hk6 : kd ≤ 6) (hkd : r0.1 90 (8 + 4 * k) = nI kd) (hmm : r0.1 90 (8 + 4 * k + 1) = mm) (g : Nat) : jv L xs m0 r0 kd k mm 7 2 0 (fun x H => fm_X11_tiesAs (g + 1) 89 0 x H) :=
  jv.nw (g := fun w => w - mm) (j_slip hk hk6 hkd hmm kd hk6) (fun f x d m => sp_0_2) (fun rc x d m mC' hv w mC2 mR2 e hv2 => by rw [b38_12, hv.2.2.2.2.1, e, ob2_some, gI_77_4, Option.bind_some, hv2.2.2.2.2.2.1]) (fun x m m' mCx hb hv w mR2 mC2 e hv2 => by
    show fm_X11_tiesAs_e (fm_X11_tiesAs g) 89 0 x (mk m) = _
    rw [fm_X11_tiesAs_e, if_pos rfl, if_pos (his_89 m), hb, Option.bind_some, if_pos (his_89 m'), kindNow_ok hk hkd hv, Option.bind_some, e, ob2_some, if_pos (his_89 mR2), mNow_ok hk hmm hv2, Option.bind_some])
theorem j_t1 (hk : k < 20) (hk6 : kd ≤ 6) (hkd : r0.1 90 (8 + 4 * k) = nI kd) (hmm : r0.1 90 (8 + 4 * k + 1) = mm) (g : Nat) : jv L xs m0 r0 kd k mm 7 2 1 (fun x H => fm_X11_tiesAs (g + 2) 89 1 x H) :=
  (j_t0 hk hk6 hkd hmm g).def_ (by decide) (fun f x d m => by rw [sp_1_2, sp_0_2]) (fun x m => by
    show fm_X11_tiesAs_e (fm_X11_tiesAs (g + 1)) 89 1 x (mk m) = _
    rw [fm_X11_tiesAs_e, if_neg (by decide), if_pos rfl, if_pos (his_89 m), ob2_eta]; rfl)
theorem j_t2 (hk : k < 20) (hk6 : kd ≤ 6) (hkd : r0.1 90 (8 + 4 * k) = nI kd) (hmm : r0.1 90 (8 + 4 * k + 1) = mm) (g : Nat) : jv L xs m0 r0 kd k mm 7 2 2 (fun x H => fm_X11_tiesAs (g + 2) 89 2 x H) :=
  (j_t0 hk hk6 hkd hmm g).def_ (by decide) (fun f x d m => by rw [sp_2_2, sp_0_2]) (fun x m => by
    show fm_X11_tiesAs_e (fm_X11_tiesAs (g + 1)) 89 2 x (mk m) = _
    rw [fm_X11_tiesAs_e, if_neg (by decide), if_neg (by decide), if_pos rfl, if_pos (his_89 m), ob2_eta]; rfl)
theorem j_t3 (hk : k < 20) (hk6 : kd ≤ 6) (hkd : r0.1 90 (8 + 4 * k) = nI kd) (hmm : r0.1 90 (8 + 4 * k + 1) = mm) (g : Nat) : jv L xs m0 r0 kd k mm 8 2 3 (fun x H => fm_X11_tiesAs (g + 2) 89 3 x H) :=
  jv.up (g := fun w => w) (g2 := fun x => x / 2) (j_t0 hk hk6 hkd hmm g) (fun f x d m => sp_3_2) (fun rc x d m mC' _ w mC2 mR2 e _ => by rw [b38_40, e, ob2_some]) (fun x m m' hb w mR2 mC2 e _ => by
    show fm_X11_tiesAs_e (fm_X11_tiesAs (g + 1)) 89 3 x (mk m) = _
    rw [fm_X11_tiesAs_e, if_neg (by decide), if_neg (by decide), if_neg (by decide), if_pos rfl, if_pos (his_89 m), hb, Option.bind_some, if_pos (his_89 m')]
    show ob2 (fm_X11_tiesAs (g + 1) 89 0 (x / 2) (mk m')) _ = _
    rw [e, ob2_some])
theorem j_t4 (hk : k < 20) (hk6 : kd ≤ 6) (hkd : r0.1 90 (8 + 4 * k) = nI kd) (hmm : r0.1 90 (8 + 4 * k + 1) = mm) (g : Nat) : jv L xs m0 r0 kd k mm 8 2 4 (fun x H => fm_X11_tiesAs (g + 3) 89 4 x H) :=
  jv.up (g := fun w => w ^^^ nI k) (g2 := fun x => x) (j_t1 hk hk6 hkd hmm g) (fun f x d m => sp_4_2) (fun rc x d m mC' _ w mC2 mR2 e hv => by rw [b38_51, e, ob2_some, gI_77_5, Option.bind_some, hv.2.2.2.2.2.2.1]) (fun x m m' hb w mR2 mC2 e hv => by
    show fm_X11_tiesAs_e (fm_X11_tiesAs (g + 2)) 89 4 x (mk m) = _
    rw [fm_X11_tiesAs_e, if_neg (by decide), if_neg (by decide), if_neg (by decide), if_neg (by decide), if_pos rfl, if_pos (his_89 m), hb, Option.bind_some, if_pos (his_89 m')]
    show ob2 (fm_X11_tiesAs (g + 2) 89 1 x (mk m')) _ = _
    rw [e, ob2_some, gI_89_17, Option.bind_some, hv.2.2.2.2.2.2.2])
theorem j_t5 (hk : k < 20) (hk6 : kd ≤ 6) (hkd : r0.1 90 (8 + 4 * k) = nI kd) (hmm : r0.1 90 (8 + 4 * k + 1) = mm) (g : Nat) : jv L xs m0 r0 kd k mm 7 2 5 (fun x H => fm_X11_tiesAs (g + 3) 89 5 x H) :=
  (j_t2 hk hk6 hkd hmm g).def_ (by decide) (fun f x d m => by rw [sp_5_2, sp_2_2]) (fun x m => by
    show fm_X11_tiesAs_e (fm_X11_tiesAs (g + 2)) 89 5 x (mk m) = _
    rw [fm_X11_tiesAs_e, if_neg (by decide), if_neg (by decide), if_neg (by decide), if_neg (by decide), if_neg (by decide), if_pos (his_89 m), ob2_eta]; rfl)
theorem j_t6 (hk : k < 20) (hk6 : kd ≤ 6) (hkd : r0.1 90 (8 + 4 * k) = nI kd) (hmm : r0.1 90 (8 + 4 * k + 1) = mm) (g : Nat) : jv L xs m0 r0 kd k mm 7 2 6 (fun x H => fm_X11_tiesAs (g + 2) 89 6 x H) :=
  (j_t0 hk hk6 hkd hmm g).def_ (by decide) (fun f x d m => by rw [sp_6_2, sp_0_2]) (fun x m => by
    show fm_X11_tiesAs_e (fm_X11_tiesAs (g + 1)) 89 6 x (mk m) = _
    rw [fm_X11_tiesAs_e, if_neg (by decide), if_neg (by decide), if_neg (by decide), if_neg (by decide), if_neg (by decide), if_pos (his_89 m), ob2_eta]; rfl)
theorem j_tie (hk : k < 20) (hk6 : kd ≤ 6) (hkd : r0.1 90 (8 + 4 * k) = nI kd) (hmm : r0.1 90 (8 + 4 * k + 1) = mm) (c : Nat) (hc : c ≤ 6) : jv L xs m0 r0 kd k mm 8 2 (nI c) (fun x H => fm_X11_tiesAs 6 89 (nI c) x H) := by
  have : c = 0 ∨ c = 1 ∨ c = 2 ∨ c = 3 ∨ c = 4 ∨ c = 5 ∨ c = 6 := by omega
  rcases this with rfl | rfl | rfl | rfl | rfl | rfl | rfl
  · exact (j_t0 hk hk6 hkd hmm 5).mono (by decide)
  · exact (j_t1 hk hk6 hkd hmm 4).mono (by decide)
  · exact (j_t2 hk hk6 hkd hmm 4).mono (by decide)
  · exact (j_t3 hk hk6 hkd hmm 4).mono (by decide)
  · exact (j_t4 hk hk6 hkd hmm 3).mono (by decide)
  · exact (j_t5 hk hk6 hkd hmm 3).mono (by decide)
  · exact (j_t6 hk hk6 hkd hmm 4).mono (by decide)
theorem j_p0 (hk : k < 20) (hmm : r0.1 90 (8 + 4 * k + 1) = mm) (g : Nat) : jv L xs m0 r0 kd k mm 1 3 0 (fun x H => fm_X11_partsAs (g + 1) 89 0 x H) := by
  intro f d x mC mR h1 h2 h3
  obtain ⟨f, rfl⟩ : ∃ z, f = z + 1 := ⟨f - 1, by omega⟩
  obtain ⟨mC', mR', b1, b2, b3⟩ := jbegin 13 h3
  have mn := mNow_ok hk hmm b3
  obtain ⟨⟨c1, c2⟩, ⟨d1, d2, d3⟩, ⟨n, n1, n2, n3, n4⟩, p, e3, e4, e5, e6⟩ := b3
  have vv : ∀ y, VV m0 r0 kd k mm (sF mC' 77 2 y) (sF mR' 89 18 y) := fun y => ⟨⟨c1, fun o ho => (sF_n ho).trans (c2 o ho)⟩, ⟨d1, fun o ho => (sF_n ho).trans (d2 o ho), by rw [sF_s, upd_n (by decide)]; exact d3⟩, ⟨n, n1, by rw [sF_s, upd_n (by decide)]; exact n2, by rw [sF_s, upd_n (by decide)]; exact n3, n4⟩, by rw [sF_s, sF_s, upd_s, upd_s], by rw [sF_s, upd_n (by decide)]; exact e3, by rw [sF_s, upd_n (by decide)]; exact e4, by rw [sF_s, upd_n (by decide)]; exact e5, by rw [sF_s, upd_n (by decide)]; exact e6⟩
  have z : (mm = nI k) ↔ mm - nI k = 0 := by
    constructor
    · intro q
      rw [q]
      exact Int32.sub_self _
    · intro q
      have := congrArg (fun y => y + nI k) q
      simpa using this
  have cC : fm_X9_speak (xb_st L xs) (f + 1) 77 0 3 x (nI d) (mk mC) = if mm = nI k then some (0, mk (sF mC' 77 2 1)) else some (x / (mm - nI k), mk (sF mC' 77 2 0)) := by
    rw [sp_0_3, b1 _ _ _ _ d (by omega), ob2_eta, b38_13, e4, e5]
  have z1 : ((if mm - nI k = 0 then 1 else 0) : Int32) = 0 ∨ ((if mm - nI k = 0 then 1 else 0) : Int32) = 1 := by
    split
    · exact Or.inr rfl
    · exact Or.inl rfl
  have cR : fm_X11_partsAs (g + 1) 89 0 x (mk mR) = if mm - nI k = 0 then some (0, mk (sF mR' 89 18 1)) else some (x / (mm - nI k), mk (sF mR' 89 18 0)) := by
    show fm_X11_partsAs_e (fm_X11_partsAs g) 89 0 x (mk mR) = _
    rw [fm_X11_partsAs_e, if_pos rfl, if_pos (his_89 mR), b2, Option.bind_some, if_pos (his_89 mR'), mn, Option.bind_some, gI_89_17, Option.bind_some, e6, if_pos z1, mP_89_18, Option.bind_some]
    by_cases q : mm - nI k = 0
    · rw [if_pos q, if_pos q, if_pos q]
    · rw [if_neg q, if_neg q, if_neg q]
      by_cases q2 : mm - nI k = -1
      · rw [if_pos q2, q2, div_m1]
      · rw [if_neg q2]
  by_cases q : mm = nI k
  · exact ⟨0, _, _, by rw [cC, if_pos q], by show fm_X11_partsAs (g + 1) 89 0 x (mk mR) = _; rw [cR, if_pos (z.mp q)], vv 1⟩
  · exact ⟨x / (mm - nI k), _, _, by rw [cC, if_neg q], by show fm_X11_partsAs (g + 1) 89 0 x (mk mR) = _; rw [cR, if_neg (fun w => q (z.mpr w))], vv 0⟩
theorem j_p1 (hk : k < 20) (hk6 : kd ≤ 6) (hkd : r0.1 90 (8 + 4 * k) = nI kd) (hmm : r0.1 90 (8 + 4 * k + 1) = mm) (g : Nat) : jv L xs m0 r0 kd k mm 7 3 1 (fun x H => fm_X11_partsAs (g + 2) 89 1 x H) := by
  intro f d x mC mR h1 h2 h3
  obtain ⟨f, rfl⟩ : ∃ z, f = z + 1 := ⟨f - 1, by omega⟩
  obtain ⟨mC', mR', b1, b2, b3⟩ := jbegin 21 h3
  obtain ⟨w, m2, r2, e1, e2, e3⟩ := (j_p0 (L := L) (xs := xs) (m0 := m0) (kd := kd) hk hmm g) f (d + 1) x mC' mR' (by omega) (by omega) b3
  obtain ⟨w2, m3, r3, f1, f2, f3⟩ := (j_slip (L := L) (xs := xs) (m0 := m0) hk hk6 hkd hmm kd hk6) f (d + 1) 1 m2 r2 (by omega) (by omega) e3
  have kn := kindNow_ok hk hkd e3
  rw [← nI_1] at e1 f1
  have e2' : fm_X11_partsAs (g + 1) 89 0 x (mk mR') = some (w, mk r2) := e2
  have f2' : fm_X11_slipsAs 6 89 (nI kd) 1 (mk r2) = some (w2, mk r3) := f2
  have cC : fm_X9_speak (xb_st L xs) (f + 1) 77 1 3 x (nI d) (mk mC) = if m2.2 77 2 = 0 then some (w + w2, mk m3) else some (0, mk m2) := by
    rw [sp_1_3, b1 _ _ _ _ d (by omega), ob2_eta, b38_21, e1, ob2_some, gI_77_2, Option.bind_some, gI_77_3, Option.bind_some, if_pos (his_77 m2), e3.2.2.2.2.1, f1, ob2_some]
  have cR : fm_X11_partsAs (g + 2) 89 1 x (mk mR) = if r2.2 89 18 = 0 then some (w + w2, mk r3) else some (0, mk r2) := by
    show fm_X11_partsAs_e (fm_X11_partsAs (g + 1)) 89 1 x (mk mR) = _
    rw [fm_X11_partsAs_e, if_neg (by decide), if_pos rfl, if_pos (his_89 mR), b2, Option.bind_some, if_pos (his_89 mR')]
    show ob2 (fm_X11_partsAs (g + 1) 89 0 x (mk mR')) _ = _
    rw [e2', ob2_some, gI_89_18, Option.bind_some, if_pos (his_89 r2), kn, Option.bind_some, f2', ob2_some]
  by_cases q : m2.2 77 2 = 0
  · refine ⟨w + w2, m3, r3, by rw [cC, if_pos q], ?_, f3⟩
    show fm_X11_partsAs (g + 2) 89 1 x (mk mR) = _
    rw [cR, if_pos (e3.2.2.2.1 ▸ q)]
  · refine ⟨0, m2, r2, by rw [cC, if_neg q], ?_, e3⟩
    show fm_X11_partsAs (g + 2) 89 1 x (mk mR) = _
    rw [cR, if_neg (fun z => q (e3.2.2.2.1 ▸ z))]
theorem parts_def {g : Nat} {c : Int32} {x : Int32} {m : xM2} (h0 : ¬ c = 0) (h1 : ¬ c = 1) : fm_X11_partsAs (g + 1) 89 c x (mk m) = fm_X11_partsAs g 89 (fm_X11_above c) x (mk m) := by
  show fm_X11_partsAs_e (fm_X11_partsAs g) 89 c x (mk m) = _
  rw [fm_X11_partsAs_e, if_neg h0, if_neg h1, if_pos (his_89 m), ob2_eta]
theorem j_p2 (hk : k < 20) (hmm : r0.1 90 (8 + 4 * k + 1) = mm) (g : Nat) : jv L xs m0 r0 kd k mm 1 3 2 (fun x H => fm_X11_partsAs (g + 2) 89 2 x H) :=
  (j_p0 hk hmm g).def_ (by decide) (fun f x d m => by rw [sp_2_3, sp_0_3]) (fun x m => parts_def (by decide) (by decide))
theorem j_p3 (hk : k < 20) (hmm : r0.1 90 (8 + 4 * k + 1) = mm) (g : Nat) : jv L xs m0 r0 kd k mm 1 3 3 (fun x H => fm_X11_partsAs (g + 2) 89 3 x H) :=
  (j_p0 hk hmm g).def_ (by decide) (fun f x d m => by rw [sp_3_3, sp_0_3]) (fun x m => parts_def (by decide) (by decide))
theorem j_p4 (hk : k < 20) (hk6 : kd ≤ 6) (hkd : r0.1 90 (8 + 4 * k) = nI kd) (hmm : r0.1 90 (8 + 4 * k + 1) = mm) (g : Nat) : jv L xs m0 r0 kd k mm 7 3 4 (fun x H => fm_X11_partsAs (g + 3) 89 4 x H) :=
  (j_p1 hk hk6 hkd hmm g).def_ (by decide) (fun f x d m => by rw [sp_4_3, sp_1_3]) (fun x m => parts_def (by decide) (by decide))
theorem j_p5 (hk : k < 20) (hmm : r0.1 90 (8 + 4 * k + 1) = mm) (g : Nat) : jv L xs m0 r0 kd k mm 1 3 5 (fun x H => fm_X11_partsAs (g + 3) 89 5 x H) :=
  (j_p2 hk hmm g).def_ (by decide) (fun f x d m => by rw [sp_5_3, sp_2_3]) (fun x m => parts_def (by decide) (by decide))
theorem j_p6 (hk : k < 20) (hmm : r0.1 90 (8 + 4 * k + 1) = mm) (g : Nat) : jv L xs m0 r0 kd k mm 1 3 6 (fun x H => fm_X11_partsAs (g + 2) 89 6 x H) :=
  (j_p0 hk hmm g).def_ (by decide) (fun f x d m => by rw [sp_6_3, sp_0_3]) (fun x m => parts_def (by decide) (by decide))
theorem j_part (hk : k < 20) (hk6 : kd ≤ 6) (hkd : r0.1 90 (8 + 4 * k) = nI kd) (hmm : r0.1 90 (8 + 4 * k + 1) = mm) (c : Nat) (hc : c ≤ 6) : jv L xs m0 r0 kd k mm 8 3 (nI c) (fun x H => fm_X11_partsAs 6 89 (nI c) x H) := by
  have : c = 0 ∨ c = 1 ∨ c = 2 ∨ c = 3 ∨ c = 4 ∨ c = 5 ∨ c = 6 := by omega
  rcases this with rfl | rfl | rfl | rfl | rfl | rfl | rfl
  · exact (j_p0 hk hmm 5).mono (by decide)
  · exact (j_p1 hk hk6 hkd hmm 4).mono (by decide)
  · exact (j_p2 hk hmm 4).mono (by decide)
  · exact (j_p3 hk hmm 4).mono (by decide)
  · exact (j_p4 hk hk6 hkd hmm 3).mono (by decide)
  · exact (j_p5 hk hmm 3).mono (by decide)
  · exact (j_p6 hk hmm 4).mono (by decide)
end VR2
