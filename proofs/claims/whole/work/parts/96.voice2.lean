/-! VOICES: SLIPS, TIES, PARTS -/
section VR2
variable {L : Nat} {xs : Nat → Int32} {m0 r0 : xM2} {kd k : Nat} {mm : Int32}
theorem kindNow_ok {mC mR : xM2} (hk : k < 20) (hkd : r0.1 90 (8 + 4 * k) = nI kd) (h : VV m0 r0 kd k mm mC mR) : fm_X11_kindNow 89 (mk mR) = some (nI kd) := by
  obtain ⟨-, ⟨d1, -, -⟩, -, -, -, -, -, e6⟩ := h
  rw [fm_X11_kindNow, gI_89_17, Option.bind_some, if_pos (his_89 mR), e6, its0 hk, Option.bind_some, d1 90 (by decide), hkd]
theorem mNow_ok {mC mR : xM2} (hk : k < 20) (hmm : r0.1 90 (8 + 4 * k + 1) = mm) (h : VV m0 r0 kd k mm mC mR) : fm_X11_mNow 89 (mk mR) = some mm := by
  obtain ⟨-, ⟨d1, -, -⟩, -, -, -, -, -, e6⟩ := h
  rw [fm_X11_mNow, gI_89_17, Option.bind_some, if_pos (his_89 mR), e6, its1 hk, Option.bind_some, d1 90 (by decide), hmm]
/-- a body that asks a voice of the kind now -/
theorem jv.nw {r : Nat} {v c b a v2 : Int32} {g : Int32 → Int32} {R R2 : Int32 → qx_H → Option (Int32 × qx_H)} (h : jv L xs m0 r0 kd k mm r v2 (nI kd) R2)
    (hC : ∀ f x d m, fm_X9_speak (xb_st L xs) (f + 1) 77 c v x d (mk m) = ob2 (fm_X9_bodySays (xb_st L xs) (fm_X9_speak (xb_st L xs) f) 77 b a x d (mk m)) fun v67 H67 => some (v67, H67))
    (hB : ∀ rc x d m mC', VV m0 r0 kd k mm mC' m → ∀ w mC2 mR2, rc 77 (nI kd) v2 x (nI d + 1) (mk mC') = some (w, mk mC2) → VV m0 r0 kd k mm mC2 mR2 → fm_X9_bodySays_b38 (xb_st L xs) rc 77 b a x (nI d) (mk mC') = some (g w, mk mC2))
    (hR : ∀ x m m' mCx, fm_X11_begins 89 b (mk m) = some (mk m') → VV m0 r0 kd k mm mCx m' → ∀ w mR2 mC2, R2 x (mk m') = some (w, mk mR2) → VV m0 r0 kd k mm mC2 mR2 → R x (mk m) = some (g w, mk mR2)) : jv L xs m0 r0 kd k mm (r + 1) v c R := by
  intro f d x mC mR h1 h2 h3
  obtain ⟨f, rfl⟩ : ∃ z, f = z + 1 := ⟨f - 1, by omega⟩
  obtain ⟨mC', mR', b1, b2, b3⟩ := jbegin b h3
  obtain ⟨w, m2, r2, e1, e2, e3⟩ := h f (d + 1) x mC' mR' (by omega) (by omega) b3
  rw [← nI_1] at e1
  refine ⟨g w, m2, r2, ?_, hR x mR mR' mC' b2 b3 w r2 m2 e2 e3, e3⟩
  rw [hC, b1 _ _ _ _ d (by omega), ob2_eta]
  exact hB _ x d mR' mC' b3 w m2 r2 e1 e3
theorem j_s0 (hk : k < 20) (hk6 : kd ≤ 6) (hkd : r0.1 90 (8 + 4 * k) = nI kd) (g : Nat) : jv L xs m0 r0 kd k mm 4 1 0 (fun x H => fm_X11_slipsAs (g + 1) 89 0 x H) :=
  jv.nw (g := fun w => w * 2) (j_hold kd hk6) (fun f x d m => sp_0_1) (fun rc x d m mC' hv w mC2 mR2 e _ => by rw [b38_11, hv.2.2.2.2.1, e, ob2_some]) (fun x m m' mCx hb hv w mR2 mC2 e _ => by
    show fm_X11_slipsAs_e (fm_X11_slipsAs g) 89 0 x (mk m) = _
    rw [fm_X11_slipsAs_e, if_pos rfl, if_pos (his_89 m), hb, Option.bind_some, if_pos (his_89 m'), kindNow_ok hk hkd hv, Option.bind_some, e, ob2_some])
theorem j_s1 (hk : k < 20) (hk6 : kd ≤ 6) (hkd : r0.1 90 (8 + 4 * k) = nI kd) (g : Nat) : jv L xs m0 r0 kd k mm 4 1 1 (fun x H => fm_X11_slipsAs (g + 2) 89 1 x H) :=
  (j_s0 hk hk6 hkd g).def_ (by decide) (fun f x d m => by rw [sp_1_1, sp_0_1]) (fun x m => by
    show fm_X11_slipsAs_e (fm_X11_slipsAs (g + 1)) 89 1 x (mk m) = _
    rw [fm_X11_slipsAs_e, if_neg (by decide), if_pos rfl, if_pos (his_89 m), ob2_eta]; rfl)
theorem j_s3 (hk : k < 20) (hk6 : kd ≤ 6) (hkd : r0.1 90 (8 + 4 * k) = nI kd) (g : Nat) : jv L xs m0 r0 kd k mm 4 1 3 (fun x H => fm_X11_slipsAs (g + 2) 89 3 x H) :=
  (j_s0 hk hk6 hkd g).def_ (by decide) (fun f x d m => by rw [sp_3_1, sp_0_1]) (fun x m => by
    show fm_X11_slipsAs_e (fm_X11_slipsAs (g + 1)) 89 3 x (mk m) = _
    rw [fm_X11_slipsAs_e, if_neg (by decide), if_neg (by decide), if_neg (by decide), if_pos rfl, if_pos (his_89 m), ob2_eta]; rfl)
theorem j_s4 (hk : k < 20) (hk6 : kd ≤ 6) (hkd : r0.1 90 (8 + 4 * k) = nI kd) (g : Nat) : jv L xs m0 r0 kd k mm 4 1 4 (fun x H => fm_X11_slipsAs (g + 3) 89 4 x H) :=
  (j_s1 hk hk6 hkd g).def_ (by decide) (fun f x d m => by rw [sp_4_1, sp_1_1]) (fun x m => by
    show fm_X11_slipsAs_e (fm_X11_slipsAs (g + 2)) 89 4 x (mk m) = _
    rw [fm_X11_slipsAs_e, if_neg (by decide), if_neg (by decide), if_neg (by decide), if_neg (by decide), if_pos rfl, if_pos (his_89 m), ob2_eta]; rfl)
theorem j_s2 (hk : k < 20) (hk6 : kd ≤ 6) (hkd : r0.1 90 (8 + 4 * k) = nI kd) (g : Nat) : jv L xs m0 r0 kd k mm 5 1 2 (fun x H => fm_X11_slipsAs (g + 2) 89 2 x H) :=
  jv.up (g := fun w => 0 - w) (g2 := fun x => x) (j_s0 hk hk6 hkd g) (fun f x d m => sp_2_1) (fun rc x d m mC' _ w mC2 mR2 e _ => by rw [b38_30, e, ob2_some]) (fun x m m' hb w mR2 mC2 e _ => by
    show fm_X11_slipsAs_e (fm_X11_slipsAs (g + 1)) 89 2 x (mk m) = _
    rw [fm_X11_slipsAs_e, if_neg (by decide), if_neg (by decide), if_pos rfl, if_pos (his_89 m), hb, Option.bind_some, if_pos (his_89 m')]
    show ob2 (fm_X11_slipsAs (g + 1) 89 0 x (mk m')) _ = _
    rw [e, ob2_some])
theorem j_s5 (hk : k < 20) (hk6 : kd ≤ 6) (hkd : r0.1 90 (8 + 4 * k) = nI kd) (g : Nat) : jv L xs m0 r0 kd k mm 6 1 5 (fun x H => fm_X11_slipsAs (g + 3) 89 5 x H) :=
  jv.up (g := fun w => w) (g2 := fun x => x + 1) (j_s2 hk hk6 hkd g) (fun f x d m => sp_5_1) (fun rc x d m mC' _ w mC2 mR2 e _ => by rw [b38_60, e, ob2_some]) (fun x m m' hb w mR2 mC2 e _ => by
    show fm_X11_slipsAs_e (fm_X11_slipsAs (g + 2)) 89 5 x (mk m) = _
    rw [fm_X11_slipsAs_e, if_neg (by decide), if_neg (by decide), if_neg (by decide), if_neg (by decide), if_neg (by decide), if_pos rfl, if_pos (his_89 m), hb, Option.bind_some, if_pos (his_89 m')]
    show ob2 (fm_X11_slipsAs (g + 2) 89 2 (x + 1) (mk m')) _ = _
    rw [e, ob2_some])
theorem j_s6 (hk : k < 20) (hk6 : kd ≤ 6) (hkd : r0.1 90 (8 + 4 * k) = nI kd) (hmm : r0.1 90 (8 + 4 * k + 1) = mm) (g : Nat) : jv L xs m0 r0 kd k mm 5 1 6 (fun x H => fm_X11_slipsAs (g + 2) 89 6 x H) :=
  jv.up (g := fun w => w + mm) (g2 := fun x => x) (j_s0 hk hk6 hkd g) (fun f x d m => sp_6_1) (fun rc x d m mC' _ w mC2 mR2 e hv => by rw [b38_71, e, ob2_some, gI_77_4, Option.bind_some, hv.2.2.2.2.2.1]) (fun x m m' hb w mR2 mC2 e hv => by
    show fm_X11_slipsAs_e (fm_X11_slipsAs (g + 1)) 89 6 x (mk m) = _
    rw [fm_X11_slipsAs_e, if_neg (by decide), if_neg (by decide), if_neg (by decide), if_neg (by decide), if_neg (by decide), if_neg (by decide), if_pos rfl, if_pos (his_89 m), hb, Option.bind_some, if_pos (his_89 m')]
    show ob2 (fm_X11_slipsAs (g + 1) 89 0 x (mk m')) _ = _
    rw [e, ob2_some, if_pos (his_89 mR2), mNow_ok hk hmm hv, Option.bind_some])
theorem j_slip (hk : k < 20) (hk6 : kd ≤ 6) (hkd : r0.1 90 (8 + 4 * k) = nI kd) (hmm : r0.1 90 (8 + 4 * k + 1) = mm) (c : Nat) (hc : c ≤ 6) : jv L xs m0 r0 kd k mm 6 1 (nI c) (fun x H => fm_X11_slipsAs 6 89 (nI c) x H) := by
  have : c = 0 ∨ c = 1 ∨ c = 2 ∨ c = 3 ∨ c = 4 ∨ c = 5 ∨ c = 6 := by omega
  rcases this with rfl | rfl | rfl | rfl | rfl | rfl | rfl
  · exact (j_s0 hk hk6 hkd 5).mono (by decide)
  · exact (j_s1 hk hk6 hkd 4).mono (by decide)
  · exact (j_s2 hk hk6 hkd 4).mono (by decide)
  · exact (j_s3 hk hk6 hkd 4).mono (by decide)
  · exact (j_s4 hk hk6 hkd 3).mono (by decide)
  · exact (j_s5 hk hk6 hkd 3).mono (by decide)
  · exact (j_s6 hk hk6 hkd hmm 4).mono (by decide)
theorem j_t0 (hk : k < 20) (hk6 : kd ≤ 6) (hkd : r0.1 90 (8 + 4 * k) = nI kd) (hmm : r0.1 90 (8 + 4 * k + 1) = mm) (g : Nat) : jv L xs m0 r0 kd k mm 7 2 0 (fun x H => fm_X11_tiesAs (g + 1) 89 0 x H) :=
  jv.nw (g := fun w => w - mm) (j_slip hk hk6 hkd hmm kd hk6) (fun f x d m => sp_0_2) (fun rc x d m mC' hv w mC2 mR2 e hv2 => by rw [b38_12, hv.2.2.2.2.1, e, ob2_some, gI_77_4, Option.bind_some, hv2.2.2.2.2.2.1]) (fun x m m' mCx hb hv w mR2 mC2 e hv2 => by
    show fm_X11_tiesAs_e (fm_X11_tiesAs g) 89 0 x (mk m) = _
    rw [fm_X11_tiesAs_e, if_pos rfl, if_pos (his_89 m), hb, Option.bind_some, if_pos (his_89 m'), kindNow_ok hk hkd hv, Option.bind_some, e, ob2_some, if_pos (his_89 mR2), mNow_ok hk hmm hv2, Option.bind_some])
theorem j_t1 (hk : k < 20) (hk6 : kd ≤ 6) (hkd : r0.1 90 (8 + 4 * k) = nI kd) (hmm : r0.1 90 (8 + 4 * k + 1) = mm) (g : Nat) : jv L xs m0 r0 kd k mm 7 2 1 (fun x H => fm_X11_tiesAs (g + 2) 89 1 x H) :=
  (j_t0 hk hk6 hkd hmm g).def_ (by decide) (fun f x d m => by rw [sp_1_2, sp_0_2]) (fun x m => by
    show fm_X11_tiesAs_e (fm_X11_tiesAs (g + 1)) 89 1 x (mk m) = _
    rw [fm_X11_tiesAs_e, if_neg (by decide), if_pos rfl, if_pos (his_89 m), ob2_eta]; rfl)
theorem j_t2 (hk : k < 20) (hk6 : kd ≤ 6) (hkd : r0.1 90 (8 + 4 * k) = nI kd) (hmm : r0.1 90 (8 + 4 * k + 1) = mm) (g : Nat) : jv L xs m0 r0 kd k mm 7 2 2 (fun x H => fm_X11_tiesAs (g + 2) 89 2 x H) :=
  (j_t0 hk hk6 hkd hmm g).def_ (by decide) (fun f x d m => by rw [sp_2_2, sp_0_2]) (fun x m => by
    show fm_X11_tiesAs_e (fm_X11_tiesAs (g + 1)) 89 2 x (mk m) = _
    rw [fm_X11_tiesAs_e, if_neg (by decide), if_neg (by decide), if_pos rfl, if_pos (his_89 m), ob2_eta]; rfl)
theorem j_t3 (hk : k < 20) (hk6 : kd ≤ 6) (hkd : r0.1 90 (8 + 4 * k) = nI kd) (hmm : r0.1 90 (8 + 4 * k + 1) = mm) (g : Nat) : jv L xs m0 r0 kd k mm 8 2 3 (fun x H => fm_X11_tiesAs (g + 2) 89 3 x H) :=
  jv.up (g := fun w => w) (g2 := fun x => x / 2) (j_t0 hk hk6 hkd hmm g) (fun f x d m => sp_3_2) (fun rc x d m mC' _ w mC2 mR2 e _ => by rw [b38_40, e, ob2_some]) (fun x m m' hb w mR2 mC2 e _ => by
    show fm_X11_tiesAs_e (fm_X11_tiesAs (g + 1)) 89 3 x (mk m) = _
    rw [fm_X11_tiesAs_e, if_neg (by decide), if_neg (by decide), if_neg (by decide), if_pos rfl, if_pos (his_89 m), hb, Option.bind_some, if_pos (his_89 m')]
    show ob2 (fm_X11_tiesAs (g + 1) 89 0 (x / 2) (mk m')) _ = _
    rw [e, ob2_some])
theorem j_t4 (hk : k < 20) (hk6 : kd ≤ 6) (hkd : r0.1 90 (8 + 4 * k) = nI kd) (hmm : r0.1 90 (8 + 4 * k + 1) = mm) (g : Nat) : jv L xs m0 r0 kd k mm 8 2 4 (fun x H => fm_X11_tiesAs (g + 3) 89 4 x H) :=
  jv.up (g := fun w => w ^^^ nI k) (g2 := fun x => x) (j_t1 hk hk6 hkd hmm g) (fun f x d m => sp_4_2) (fun rc x d m mC' _ w mC2 mR2 e hv => by rw [b38_51, e, ob2_some, gI_77_5, Option.bind_some, hv.2.2.2.2.2.2.1]) (fun x m m' hb w mR2 mC2 e hv => by
    show fm_X11_tiesAs_e (fm_X11_tiesAs (g + 2)) 89 4 x (mk m) = _
    rw [fm_X11_tiesAs_e, if_neg (by decide), if_neg (by decide), if_neg (by decide), if_neg (by decide), if_pos rfl, if_pos (his_89 m), hb, Option.bind_some, if_pos (his_89 m')]
    show ob2 (fm_X11_tiesAs (g + 2) 89 1 x (mk m')) _ = _
    rw [e, ob2_some, gI_89_17, Option.bind_some, hv.2.2.2.2.2.2.2])
theorem j_t5 (hk : k < 20) (hk6 : kd ≤ 6) (hkd : r0.1 90 (8 + 4 * k) = nI kd) (hmm : r0.1 90 (8 + 4 * k + 1) = mm) (g : Nat) : jv L xs m0 r0 kd k mm 7 2 5 (fun x H => fm_X11_tiesAs (g + 3) 89 5 x H) :=
  (j_t2 hk hk6 hkd hmm g).def_ (by decide) (fun f x d m => by rw [sp_5_2, sp_2_2]) (fun x m => by
    show fm_X11_tiesAs_e (fm_X11_tiesAs (g + 2)) 89 5 x (mk m) = _
    rw [fm_X11_tiesAs_e, if_neg (by decide), if_neg (by decide), if_neg (by decide), if_neg (by decide), if_neg (by decide), if_pos (his_89 m), ob2_eta]; rfl)
theorem j_t6 (hk : k < 20) (hk6 : kd ≤ 6) (hkd : r0.1 90 (8 + 4 * k) = nI kd) (hmm : r0.1 90 (8 + 4 * k + 1) = mm) (g : Nat) : jv L xs m0 r0 kd k mm 7 2 6 (fun x H => fm_X11_tiesAs (g + 2) 89 6 x H) :=
  (j_t0 hk hk6 hkd hmm g).def_ (by decide) (fun f x d m => by rw [sp_6_2, sp_0_2]) (fun x m => by
    show fm_X11_tiesAs_e (fm_X11_tiesAs (g + 1)) 89 6 x (mk m) = _
    rw [fm_X11_tiesAs_e, if_neg (by decide), if_neg (by decide), if_neg (by decide), if_neg (by decide), if_neg (by decide), if_pos (his_89 m), ob2_eta]; rfl)
theorem j_tie (hk : k < 20) (hk6 : kd ≤ 6) (hkd : r0.1 90 (8 + 4 * k) = nI kd) (hmm : r0.1 90 (8 + 4 * k + 1) = mm) (c : Nat) (hc : c ≤ 6) : jv L xs m0 r0 kd k mm 8 2 (nI c) (fun x H => fm_X11_tiesAs 6 89 (nI c) x H) := by
  have : c = 0 ∨ c = 1 ∨ c = 2 ∨ c = 3 ∨ c = 4 ∨ c = 5 ∨ c = 6 := by omega
  rcases this with rfl | rfl | rfl | rfl | rfl | rfl | rfl
  · exact (j_t0 hk hk6 hkd hmm 5).mono (by decide)
  · exact (j_t1 hk hk6 hkd hmm 4).mono (by decide)
  · exact (j_t2 hk hk6 hkd hmm 4).mono (by decide)
  · exact (j_t3 hk hk6 hkd hmm 4).mono (by decide)
  · exact (j_t4 hk hk6 hkd hmm 3).mono (by decide)
  · exact (j_t5 hk hk6 hkd hmm 3).mono (by decide)
  · exact (j_t6 hk hk6 hkd hmm 4).mono (by decide)
theorem j_p0 (hk : k < 20) (hmm : r0.1 90 (8 + 4 * k + 1) = mm) (g : Nat) : jv L xs m0 r0 kd k mm 1 3 0 (fun x H => fm_X11_partsAs (g + 1) 89 0 x H) := by
  intro f d x mC mR h1 h2 h3
  obtain ⟨f, rfl⟩ : ∃ z, f = z + 1 := ⟨f - 1, by omega⟩
  obtain ⟨mC', mR', b1, b2, b3⟩ := jbegin 13 h3
  have mn := mNow_ok hk hmm b3
  obtain ⟨⟨c1, c2⟩, ⟨d1, d2, d3⟩, ⟨n, n1, n2, n3, n4⟩, p, e3, e4, e5, e6⟩ := b3
  have vv : ∀ y, VV m0 r0 kd k mm (sF mC' 77 2 y) (sF mR' 89 18 y) := fun y => ⟨⟨c1, fun o ho => (sF_n ho).trans (c2 o ho)⟩, ⟨d1, fun o ho => (sF_n ho).trans (d2 o ho), by rw [sF_s, upd_n (by decide)]; exact d3⟩, ⟨n, n1, by rw [sF_s, upd_n (by decide)]; exact n2, by rw [sF_s, upd_n (by decide)]; exact n3, n4⟩, by rw [sF_s, sF_s, upd_s, upd_s], by rw [sF_s, upd_n (by decide)]; exact e3, by rw [sF_s, upd_n (by decide)]; exact e4, by rw [sF_s, upd_n (by decide)]; exact e5, by rw [sF_s, upd_n (by decide)]; exact e6⟩
  have z : (mm = nI k) ↔ mm - nI k = 0 := by
    constructor
    · intro q
      rw [q]
      exact Int32.sub_self _
    · intro q
      have := congrArg (fun y => y + nI k) q
      simpa using this
  have cC : fm_X9_speak (xb_st L xs) (f + 1) 77 0 3 x (nI d) (mk mC) = if mm = nI k then some (0, mk (sF mC' 77 2 1)) else some (x / (mm - nI k), mk (sF mC' 77 2 0)) := by
    rw [sp_0_3, b1 _ _ _ _ d (by omega), ob2_eta, b38_13, e4, e5]
  have z1 : ((if mm - nI k = 0 then 1 else 0) : Int32) = 0 ∨ ((if mm - nI k = 0 then 1 else 0) : Int32) = 1 := by
    split
    · exact Or.inr rfl
    · exact Or.inl rfl
  have cR : fm_X11_partsAs (g + 1) 89 0 x (mk mR) = if mm - nI k = 0 then some (0, mk (sF mR' 89 18 1)) else some (x / (mm - nI k), mk (sF mR' 89 18 0)) := by
    show fm_X11_partsAs_e (fm_X11_partsAs g) 89 0 x (mk mR) = _
    rw [fm_X11_partsAs_e, if_pos rfl, if_pos (his_89 mR), b2, Option.bind_some, if_pos (his_89 mR'), mn, Option.bind_some, gI_89_17, Option.bind_some, e6, if_pos z1, mP_89_18, Option.bind_some]
    by_cases q : mm - nI k = 0
    · rw [if_pos q, if_pos q, if_pos q]
    · rw [if_neg q, if_neg q, if_neg q]
      by_cases q2 : mm - nI k = -1
      · rw [if_pos q2, q2, div_m1]
      · rw [if_neg q2]
  by_cases q : mm = nI k
  · exact ⟨0, _, _, by rw [cC, if_pos q], by show fm_X11_partsAs (g + 1) 89 0 x (mk mR) = _; rw [cR, if_pos (z.mp q)], vv 1⟩
  · exact ⟨x / (mm - nI k), _, _, by rw [cC, if_neg q], by show fm_X11_partsAs (g + 1) 89 0 x (mk mR) = _; rw [cR, if_neg (fun w => q (z.mpr w))], vv 0⟩
theorem j_p1 (hk : k < 20) (hk6 : kd ≤ 6) (hkd : r0.1 90 (8 + 4 * k) = nI kd) (hmm : r0.1 90 (8 + 4 * k + 1) = mm) (g : Nat) : jv L xs m0 r0 kd k mm 7 3 1 (fun x H => fm_X11_partsAs (g + 2) 89 1 x H) := by
  intro f d x mC mR h1 h2 h3
  obtain ⟨f, rfl⟩ : ∃ z, f = z + 1 := ⟨f - 1, by omega⟩
  obtain ⟨mC', mR', b1, b2, b3⟩ := jbegin 21 h3
  obtain ⟨w, m2, r2, e1, e2, e3⟩ := (j_p0 (L := L) (xs := xs) (m0 := m0) (kd := kd) hk hmm g) f (d + 1) x mC' mR' (by omega) (by omega) b3
  obtain ⟨w2, m3, r3, f1, f2, f3⟩ := (j_slip (L := L) (xs := xs) (m0 := m0) hk hk6 hkd hmm kd hk6) f (d + 1) 1 m2 r2 (by omega) (by omega) e3
  have kn := kindNow_ok hk hkd e3
  rw [← nI_1] at e1 f1
  have e2' : fm_X11_partsAs (g + 1) 89 0 x (mk mR') = some (w, mk r2) := e2
  have f2' : fm_X11_slipsAs 6 89 (nI kd) 1 (mk r2) = some (w2, mk r3) := f2
  have cC : fm_X9_speak (xb_st L xs) (f + 1) 77 1 3 x (nI d) (mk mC) = if m2.2 77 2 = 0 then some (w + w2, mk m3) else some (0, mk m2) := by
    rw [sp_1_3, b1 _ _ _ _ d (by omega), ob2_eta, b38_21, e1, ob2_some, gI_77_2, Option.bind_some, gI_77_3, Option.bind_some, if_pos (his_77 m2), e3.2.2.2.2.1, f1, ob2_some]
  have cR : fm_X11_partsAs (g + 2) 89 1 x (mk mR) = if r2.2 89 18 = 0 then some (w + w2, mk r3) else some (0, mk r2) := by
    show fm_X11_partsAs_e (fm_X11_partsAs (g + 1)) 89 1 x (mk mR) = _
    rw [fm_X11_partsAs_e, if_neg (by decide), if_pos rfl, if_pos (his_89 mR), b2, Option.bind_some, if_pos (his_89 mR')]
    show ob2 (fm_X11_partsAs (g + 1) 89 0 x (mk mR')) _ = _
    rw [e2', ob2_some, gI_89_18, Option.bind_some, if_pos (his_89 r2), kn, Option.bind_some, f2', ob2_some]
  by_cases q : m2.2 77 2 = 0
  · refine ⟨w + w2, m3, r3, by rw [cC, if_pos q], ?_, f3⟩
    show fm_X11_partsAs (g + 2) 89 1 x (mk mR) = _
    rw [cR, if_pos (e3.2.2.2.1 ▸ q)]
  · refine ⟨0, m2, r2, by rw [cC, if_neg q], ?_, e3⟩
    show fm_X11_partsAs (g + 2) 89 1 x (mk mR) = _
    rw [cR, if_neg (fun z => q (e3.2.2.2.1 ▸ z))]
theorem parts_def {g : Nat} {c : Int32} {x : Int32} {m : xM2} (h0 : ¬ c = 0) (h1 : ¬ c = 1) : fm_X11_partsAs (g + 1) 89 c x (mk m) = fm_X11_partsAs g 89 (fm_X11_above c) x (mk m) := by
  show fm_X11_partsAs_e (fm_X11_partsAs g) 89 c x (mk m) = _
  rw [fm_X11_partsAs_e, if_neg h0, if_neg h1, if_pos (his_89 m), ob2_eta]
theorem j_p2 (hk : k < 20) (hmm : r0.1 90 (8 + 4 * k + 1) = mm) (g : Nat) : jv L xs m0 r0 kd k mm 1 3 2 (fun x H => fm_X11_partsAs (g + 2) 89 2 x H) :=
  (j_p0 hk hmm g).def_ (by decide) (fun f x d m => by rw [sp_2_3, sp_0_3]) (fun x m => parts_def (by decide) (by decide))
theorem j_p3 (hk : k < 20) (hmm : r0.1 90 (8 + 4 * k + 1) = mm) (g : Nat) : jv L xs m0 r0 kd k mm 1 3 3 (fun x H => fm_X11_partsAs (g + 2) 89 3 x H) :=
  (j_p0 hk hmm g).def_ (by decide) (fun f x d m => by rw [sp_3_3, sp_0_3]) (fun x m => parts_def (by decide) (by decide))
theorem j_p4 (hk : k < 20) (hk6 : kd ≤ 6) (hkd : r0.1 90 (8 + 4 * k) = nI kd) (hmm : r0.1 90 (8 + 4 * k + 1) = mm) (g : Nat) : jv L xs m0 r0 kd k mm 7 3 4 (fun x H => fm_X11_partsAs (g + 3) 89 4 x H) :=
  (j_p1 hk hk6 hkd hmm g).def_ (by decide) (fun f x d m => by rw [sp_4_3, sp_1_3]) (fun x m => parts_def (by decide) (by decide))
theorem j_p5 (hk : k < 20) (hmm : r0.1 90 (8 + 4 * k + 1) = mm) (g : Nat) : jv L xs m0 r0 kd k mm 1 3 5 (fun x H => fm_X11_partsAs (g + 3) 89 5 x H) :=
  (j_p2 hk hmm g).def_ (by decide) (fun f x d m => by rw [sp_5_3, sp_2_3]) (fun x m => parts_def (by decide) (by decide))
theorem j_p6 (hk : k < 20) (hmm : r0.1 90 (8 + 4 * k + 1) = mm) (g : Nat) : jv L xs m0 r0 kd k mm 1 3 6 (fun x H => fm_X11_partsAs (g + 2) 89 6 x H) :=
  (j_p0 hk hmm g).def_ (by decide) (fun f x d m => by rw [sp_6_3, sp_0_3]) (fun x m => parts_def (by decide) (by decide))
theorem j_part (hk : k < 20) (hk6 : kd ≤ 6) (hkd : r0.1 90 (8 + 4 * k) = nI kd) (hmm : r0.1 90 (8 + 4 * k + 1) = mm) (c : Nat) (hc : c ≤ 6) : jv L xs m0 r0 kd k mm 8 3 (nI c) (fun x H => fm_X11_partsAs 6 89 (nI c) x H) := by
  have : c = 0 ∨ c = 1 ∨ c = 2 ∨ c = 3 ∨ c = 4 ∨ c = 5 ∨ c = 6 := by omega
  rcases this with rfl | rfl | rfl | rfl | rfl | rfl | rfl
  · exact (j_p0 hk hmm 5).mono (by decide)
  · exact (j_p1 hk hk6 hkd hmm 4).mono (by decide)
  · exact (j_p2 hk hmm 4).mono (by decide)
  · exact (j_p3 hk hmm 4).mono (by decide)
  · exact (j_p4 hk hk6 hkd hmm 3).mono (by decide)
  · exact (j_p5 hk hmm 3).mono (by decide)
  · exact (j_p6 hk hmm 4).mono (by decide)
end VR2
theorem Rel.voice {m m3 : xM2} (h : Rel m) (F1 : ∀ a, a ≠ 78 → a ≠ 80 → a ≠ 93 → a ≠ 100 → m3.1 a = m.1 a) (F2 : ∀ o, o ≠ 77 → o ≠ 89 → m3.2 o = m.2 o) (F4 : m3.2 89 3 = m.2 89 3) (he : erR m3) (ht : trR m3) : Rel m3 := by
  obtain ⟨hq, hw, ⟨i1, i2⟩, -, hsh, -⟩ := h
  have st : ∀ a, a < 77 ∨ (81 ≤ a ∧ a < 89) → same m m3 a := fun a ha => ⟨F1 a (by omega) (by omega) (by omega) (by omega), F2 a (by omega) (by omega)⟩
  have r : ∀ a, a = 90 ∨ a = 91 ∨ a = 101 ∨ a = 102 ∨ a = 103 → m3.1 a = m.1 a := fun a ha => F1 a (by omega) (by omega) (by omega) (by omega)
  refine ⟨?_, ?_, ⟨?_, fun q => ?_⟩, he, fun i hi => ?_, ht⟩
  · rw [r 90 (by decide)]; exact hq.mv fun a h1 h2 => st a (by omega)
  · rw [r 90 (by decide)]; exact hw
  · rw [F2 0 (by decide) (by decide), F4]; exact i1
  · rw [F4] at q
    rw [r 91 (by decide)]
    exact ⟨(i2 q).1.mv fun a h1 h2 => st a (by omega), (i2 q).2⟩
  · exact (hsh i hi).mv (st _ (by omega)) (st _ (by omega)) (r 101 (by decide)) (r 102 (by decide)) (r 103 (by decide))
theorem mk_78 {a b : xM2} (h : mk a = mk b) : a.1 78 = b.1 78 ∧ a.2 77 1 = b.2 77 1 ∧ a.2 77 2 = b.2 77 2 := by
  have h1 := mA_78 a
  rw [h, mA_78 b] at h1
  have h2 := mO_77 a
  rw [h, mO_77 b] at h2
  simp only [Option.some.injEq, Sum.inl.injEq, Sum.inr.injEq, Prod.mk.injEq, List.cons.injEq, Value.int.injEq, true_and, and_true] at h1 h2
  exact ⟨h1.symm, h2.1.symm, h2.2.1.symm⟩
theorem voice_fin {L : Nat} {xs : Nat → Int32} {m : xM2} {kd k : Nat} {mm v c : Int32} {f g : qx_H → Option (Int32 × qx_H)} {R : Int32 → qx_H → Option (Int32 × qx_H)} (h : Rel m)
    (hJ : ∀ r0 : xM2, r0.1 90 = m.1 90 → jv L xs m r0 kd k mm 8 v (nI kd) R)
    (hC : f (mk m) = ob2 (fm_X9_speak (xb_st L xs) 24 77 (nI kd) v c 0 (mk (sF (sF (sF (sF (sF m 77 3 (nI kd)) 77 4 mm) 77 5 (nI k)) 77 1 0) 77 2 0))) fun v55 H55 => (hp_gR H55 0 8 7).bind fun v61 => (hp_gI H55 v61 7 2).bind fun v64 => if v64 = 0 then (some (v55, H55)) else (if hp_is H55 0 8 = true then (ob2 (fm_X10_refuse 0 (-1000000006) H55) fun v74 H74 => some (v74, H74)) else none))
    (hR : ∀ x : xM2, x.1 90 = m.1 90 → g (mk x) = ob2 (R c (mk (sF (sF (sF x 89 16 0) 89 17 (nI k)) 89 18 0))) fun w H => fm_X11_voice_b94 89 w H) : pr m f g := by
  have iv : ∀ x : xM2, VV m x kd k mm (sF (sF (sF (sF (sF m 77 3 (nI kd)) 77 4 mm) 77 5 (nI k)) 77 1 0) 77 2 0) (sF (sF (sF x 89 16 0) 89 17 (nI k)) 89 18 0) := fun x =>
    ⟨⟨fun _ _ => rfl, fun o ho => by rw [sF_n ho, sF_n ho, sF_n ho, sF_n ho, sF_n ho]⟩, ⟨fun _ _ => rfl, fun o ho => by rw [sF_n ho, sF_n ho, sF_n ho], by simp only [sF_s]; rfl⟩, ⟨0, by decide, by simp only [sF_s]; rfl, by simp only [sF_s]; rfl, fun j hj => absurd hj (by omega)⟩, by simp only [sF_s]; rfl, by simp only [sF_s]; rfl, by simp only [sF_s]; rfl, by simp only [sF_s]; rfl, by simp only [sF_s]; rfl⟩
  obtain ⟨w, m1, r1, e1, -, v1⟩ := hJ m rfl 24 0 c _ _ (by decide) (by decide) (iv m)
  rw [show nI 0 = 0 from rfl] at e1
  have f1 : ∀ a, a ≠ 78 → m1.1 a = m.1 a := v1.1.1
  have f2 : ∀ o, o ≠ 77 → m1.2 o = m.2 o := v1.1.2
  have again : ∀ x : xM2, x.1 90 = m.1 90 → ∃ r2, R c (mk (sF (sF (sF x 89 16 0) 89 17 (nI k)) 89 18 0)) = some (w, mk r2) ∧ ((∀ a, a ≠ 100 → r2.1 a = x.1 a) ∧ (∀ o, o ≠ 89 → r2.2 o = x.2 o) ∧ r2.2 89 3 = x.2 89 3) ∧ (∃ n, n ≤ 30 ∧ m1.2 77 1 = nI n ∧ r2.2 89 16 = nI n ∧ ∀ j, j < n → m1.1 78 j = r2.1 100 j) ∧ m1.2 77 2 = r2.2 89 18 := by
    intro x hx
    obtain ⟨w', m1', r2, a1, a2, a3⟩ := hJ x hx 24 0 c _ _ (by decide) (by decide) (iv x)
    rw [show nI 0 = 0 from rfl, e1] at a1
    simp only [Option.some.injEq, Prod.mk.injEq] at a1
    obtain ⟨ew, em⟩ := a1
    obtain ⟨g1, g2, g3⟩ := mk_78 em
    obtain ⟨-, b2, ⟨n, n1, n2, n3, n4⟩, b4, -⟩ := a3
    exact ⟨r2, by rw [ew]; exact a2, b2, ⟨n, n1, by rw [g2]; exact n2, n3, fun j hj => by rw [g1]; exact n4 j hj⟩, by rw [g3]; exact b4⟩
  rw [e1, ob2_some, gR_0_7, Option.bind_some, gI_77_2, Option.bind_some] at hC
  by_cases p : m1.2 77 2 = 0
  · rw [if_pos p] at hC
    obtain ⟨r2, a1, ⟨b1, b2, b3⟩, ⟨n, n1, n2, n3, n4⟩, b4⟩ := again m1 (f1 90 (by decide))
    refine ⟨w, m1, r2, hC, ?_, h.voice (fun a x1 x2 x3 x4 => (b1 a x4).trans (f1 a x1)) (fun o x1 x2 => (b2 o x2).trans (f2 o x1)) (b3.trans (by rw [f2 89 (by decide)])) (fun j j1 j2 => ?_) ⟨n, n1, ?_, n3, fun j hj => ?_⟩⟩
    · rw [hR m1 (f1 90 (by decide)), a1, ob2_some, fm_X11_voice_b94, gI_89_18, Option.bind_some, if_pos (b4 ▸ p)]
    · rw [b1 80 (by decide), b1 93 (by decide), f1 80 (by decide), f1 93 (by decide)]
      exact h.2.2.2.1 j j1 j2
    · rw [b2 77 (by decide)]; exact n2
    · rw [b1 78 (by decide)]; exact n4 j hj
  · have rf : fm_X10_refuse 0 (-1000000006) (mk m1) = some (-1000000006, mk (sA m1 80 (upd (m1.1 80) 6 (m1.1 80 6 + 1)))) := refuse_ok (m := m1) (k := 6) (by decide) (by decide)
    rw [if_neg p, if_pos (his_0 m1), ob2_eta, rf] at hC
    obtain ⟨r2, a1, ⟨b1, b2, b3⟩, ⟨n, n1, n2, n3, n4⟩, b4⟩ := again (sA m1 80 (upd (m1.1 80) 6 (m1.1 80 6 + 1))) ((sA_n (by decide)).trans (f1 90 (by decide)))
    have ee : fm_X11_error 89 6 (mk r2) = some (-1000000006, mk (sA r2 93 (upd (r2.1 93) 6 (r2.1 93 6 + 1)))) := error_ok (m := r2) (k := 6) (by decide)
    refine ⟨-1000000006, _, sA r2 93 (upd (r2.1 93) 6 (r2.1 93 6 + 1)), hC, ?_, h.voice (fun a x1 x2 x3 x4 => ?_) (fun o x1 x2 => (b2 o x2).trans (f2 o x1)) (b3.trans (by rw [sA_2, f2 89 (by decide)])) (fun j j1 j2 => ?_) ⟨n, n1, ?_, n3, fun j hj => ?_⟩⟩
    · rw [hR _ ((sA_n (by decide)).trans (f1 90 (by decide))), a1, ob2_some, fm_X11_voice_b94, gI_89_18, Option.bind_some, if_neg (fun z => p (b4.trans z)), if_pos (his_89 r2), ob2_eta, ee]
    · rw [sA_n x3, b1 a x4, sA_n x2, f1 a x1]
    · rw [sA_n (by decide), sA_s, b1 80 (by decide), sA_s, b1 93 (by decide), sA_n (by decide), f1 80 (by decide), f1 93 (by decide)]
      have he := h.2.2.2.1
      by_cases q : j = 6
      · rw [q, upd_s, upd_s, he 6 (by decide) (by decide)]
      · rw [upd_n q, upd_n q]; exact he j j1 j2
    · rw [sA_2, b2 77 (by decide)]; exact n2
    · rw [sA_n (by decide), sA_n (by decide), b1 78 (by decide), sA_n (by decide)]; exact n4 j hj
theorem p_voice {L : Nat} {xs : Nat → Int32} {m : xM2} (h : Rel m) (a b c : Int32) : pr m (fm_X10_voice (xb_st L xs) 0 a b c) (fm_X11_voice 89 a b c) := by
  rcases inC a (lo := 0) (hi := 19) 0 19 with ⟨k, -, hk', rfl, ea⟩ | ea
  · rcases inC b (lo := 0) (hi := 3) 0 3 with ⟨v, -, hv, rfl, eb⟩ | eb
    · obtain ⟨hq, hw, -⟩ := id h
      have hk : k < 20 := by omega
      obtain ⟨kd, hkd6, ekd⟩ := hw.2.1 k hk
      have v3 : m.1 3 k = nI kd := (hq.1.1 k hk).trans ekd
      have v4 : m.1 4 k = m.1 90 (8 + 4 * k + 1) := hq.1.2.1 k hk
      have hC : fm_X10_voice (xb_st L xs) 0 (nI k) (nI v) c (mk m) = ob2 (fm_X9_speak (xb_st L xs) 24 77 (nI kd) (nI v) c 0 (mk (sF (sF (sF (sF (sF m 77 3 (nI kd)) 77 4 (m.1 90 (8 + 4 * k + 1))) 77 5 (nI k)) 77 1 0) 77 2 0))) fun v55 H55 => (hp_gR H55 0 8 7).bind fun v61 => (hp_gI H55 v61 7 2).bind fun v64 => if v64 = 0 then (some (v55, H55)) else (if hp_is H55 0 8 = true then (ob2 (fm_X10_refuse 0 (-1000000006) H55) fun v74 H74 => some (v74, H74)) else none) := by
        unfold fm_X10_voice fm_X9_hear
        rw [below20, ea, if_neg one_ne, below4, eb, if_neg one_ne, gR_0_7, Option.bind_some, gR_0_0, Option.bind_some, gR_1_0, Option.bind_some, gR_2_0, Option.bind_some, al_3 m hk, Option.bind_some, Option.bind_some, gR_1_0, Option.bind_some, gR_2_1, Option.bind_some, al_4 m hk, Option.bind_some, if_pos (his_77 m), v3, v4, mP_77_3, Option.bind_some, mP_77_4, Option.bind_some, mP_77_5, Option.bind_some, mP_77_1, Option.bind_some, mP_77_2, Option.bind_some, gI_77_3, Option.bind_some, if_pos (his_77 _), ob2_eta]
        rfl
      have kn : ∀ x : xM2, x.1 90 = m.1 90 → fm_X11_kindNow 89 (mk (sF (sF (sF x 89 16 0) 89 17 (nI k)) 89 18 0)) = some (nI kd) := fun x hx => by
        rw [fm_X11_kindNow, gI_89_17, Option.bind_some, if_pos (his_89 _)]
        simp only [sF_s]
        show (fm_X11_its 89 (nI k) 0 (mk _)).bind _ = _
        rw [its0 hk, Option.bind_some]
        show some (x.1 90 (8 + 4 * k)) = _
        rw [hx, ekd]
      have hRp : ∀ x : xM2, x.1 90 = m.1 90 → fm_X11_voice 89 (nI k) (nI v) c (mk x) = if nI v = 0 then (ob2 (fm_X11_holdsAs 6 89 (nI kd) c (mk (sF (sF (sF x 89 16 0) 89 17 (nI k)) 89 18 0))) fun v51 H51 => fm_X11_voice_b94 89 v51 H51) else (if nI v = 1 then (ob2 (fm_X11_slipsAs 6 89 (nI kd) c (mk (sF (sF (sF x 89 16 0) 89 17 (nI k)) 89 18 0))) fun v66 H66 => fm_X11_voice_b94 89 v66 H66) else (if nI v = 2 then (ob2 (fm_X11_tiesAs 6 89 (nI kd) c (mk (sF (sF (sF x 89 16 0) 89 17 (nI k)) 89 18 0))) fun v81 H81 => fm_X11_voice_b94 89 v81 H81) else (ob2 (fm_X11_partsAs 6 89 (nI kd) c (mk (sF (sF (sF x 89 16 0) 89 17 (nI k)) 89 18 0))) fun v91 H91 => fm_X11_voice_b94 89 v91 H91))) := fun x hx => by
        unfold fm_X11_voice fm_X11_isKnot
        rw [ea, if_neg one_ne, eb, if_neg one_ne, mP_89_16, Option.bind_some, mP_89_17, Option.bind_some, mP_89_18, Option.bind_some, if_pos (his_89 _), kn x hx, Option.bind_some]
      have : v = 0 ∨ v = 1 ∨ v = 2 ∨ v = 3 := by omega
      rcases this with rfl | rfl | rfl | rfl
      · exact voice_fin h (fun r0 hr => (j_hold kd hkd6).mono (by decide)) hC fun x hx => by rw [hRp x hx, if_pos (show nI 0 = 0 from rfl)]
      · exact voice_fin h (fun r0 hr => (j_slip hk hkd6 (by rw [hr]; exact ekd) (by rw [hr]) kd hkd6).mono (by decide)) hC fun x hx => by rw [hRp x hx, if_neg (by decide), if_pos (show nI 1 = 1 from rfl)]
      · exact voice_fin h (fun r0 hr => j_tie hk hkd6 (by rw [hr]; exact ekd) (by rw [hr]) kd hkd6) hC fun x hx => by rw [hRp x hx, if_neg (by decide), if_neg (by decide), if_pos (show nI 2 = 2 from rfl)]
      · exact voice_fin h (fun r0 hr => j_part hk hkd6 (by rw [hr]; exact ekd) (by rw [hr]) kd hkd6) hC fun x hx => by rw [hRp x hx, if_neg (by decide), if_neg (by decide), if_neg (by decide)]
    · refine h.e1 ?_ fun m' e => ?_ <;> simp only [fm_X10_voice, fm_X11_voice, fm_X10_voice_b17, fm_X11_voice_b16, below2, below3, below4, below5, below6, below7, below20, below31, below70, within_in, fm_X11_isKnot, fm_X11_isThread, fm_X11_isHand, fm_X11_isSheet, his_0, his_89, Option.bind_some, ob2_some, if_true, if_false, reduceIte, ob2_eta, one_ne, ea, eb]
  · refine h.e1 ?_ fun m' e => ?_ <;> simp only [fm_X10_voice, fm_X11_voice, fm_X10_voice_b17, fm_X11_voice_b16, below2, below3, below4, below5, below6, below7, below20, below31, below70, within_in, fm_X11_isKnot, fm_X11_isThread, fm_X11_isHand, fm_X11_isSheet, his_0, his_89, Option.bind_some, ob2_some, if_true, if_false, reduceIte, ob2_eta, one_ne, ea]
