/-! TEXTS READ: ONE VALUE -/
theorem rk5 {c : Int32} : rk c = 5 ↔ c = 42 ∨ c = 47 ∨ c = 37 := by
  constructor
  · intro h
    rcases rk_sg (c := c) (by omega) with rfl | rfl | rfl | rfl | rfl | rfl | rfl | rfl | rfl | rfl <;> first | exact absurd h (by decide) | decide
  · rintro (rfl | rfl | rfl) <;> decide
theorem rk4 {c : Int32} : rk c = 4 ↔ c = 43 ∨ c = 45 := by
  constructor
  · intro h
    rcases rk_sg (c := c) (by omega) with rfl | rfl | rfl | rfl | rfl | rfl | rfl | rfl | rfl | rfl <;> first | exact absurd h (by decide) | decide
  · rintro (rfl | rfl) <;> decide
theorem rk3 {c : Int32} : rk c = 3 ↔ c = 60 ∨ c = 61 ∨ c = 62 := by
  constructor
  · intro h
    rcases rk_sg (c := c) (by omega) with rfl | rfl | rfl | rfl | rfl | rfl | rfl | rfl | rfl | rfl <;> first | exact absurd h (by decide) | decide
  · rintro (rfl | rfl | rfl) <;> decide
theorem rk2 {c : Int32} : rk c = 2 ↔ c = 38 := by
  constructor
  · intro h
    rcases rk_sg (c := c) (by omega) with rfl | rfl | rfl | rfl | rfl | rfl | rfl | rfl | rfl | rfl <;> first | exact absurd h (by decide) | rfl
  · rintro rfl; decide
theorem rk1 {c : Int32} : rk c = 1 ↔ c = 124 := by
  constructor
  · intro h
    rcases rk_sg (c := c) (by omega) with rfl | rfl | rfl | rfl | rfl | rfl | rfl | rfl | rfl | rfl <;> first | exact absurd h (by decide) | rfl
  · rintro rfl; decide
section LV
variable {m0 r0 : xM2} {n u ob : Nat} {T : Nat → Int32} {rc : Nat → qx_H → Option (Int32 × qx_H)}
theorem px_product (hn : n ≤ 60) (hT : m0.1 17 = T) (h2 : r0.1 90 2 = nI n) (hT2 : ∀ j, j < 60 → r0.1 90 (431 + j) = T j) (ho : PX m0 r0 n u T ob 6 (fun H => rc 89 H)) : PX m0 r0 n u T ob 5 (fun H => fm_X11_product rc 89 H) := by
  have b36 : ∀ (k9 : Nat → qx_H → Option (Int32 × qx_H)) mr S op at', rs r0 mr S op at' → at' ≤ n → fm_X11_product_b36 rc k9 89 (mk mr) = ob2 (rc 89 (mk (sF mr 89 5 (nI (at' + 1))))) fun v52 H52 => if v52 = 0 then (some (0, H52)) else (if hp_is H52 89 9 = true then ((fm_X11_step1 89 3 (lk n T at') H52).bind fun H63 => k9 89 H63) else none) := fun k9 mr S op at' hr ha => by
    rw [fm_X11_product_b36, if_pos (his_89 mr), look_ok hr hn ha h2 hT2, Option.bind_some, gI_89_5, Option.bind_some, hr.2.1, nI_1, mP_89_5, Option.bind_some, if_pos (his_89 _)]
  have eq : ∀ k mr S op at', rs r0 mr S op at' → at' ≤ n → rk (lk n T at') = 5 → fm_X11_product_b9 rc (k + 1) 89 (mk mr) = fm_X11_product_b36 rc (fm_X11_product_b9 rc k) 89 (mk mr) := fun k mr S op at' hr ha hk => by
    rw [fm_X11_product_b9, if_pos (his_89 mr), look_ok hr hn ha h2 hT2, Option.bind_some]
    rcases rk5.mp hk with q | q | q
    · rw [if_pos q]
    · rw [if_neg (by rw [q]; decide), Option.bind_some, if_pos q]
    · rw [if_neg (by rw [q]; decide), Option.bind_some, if_neg (by rw [q]; decide), Option.bind_some, if_pos q]
  refine bin_px (loop := fm_X11_product_b9 rc) hn hT (by decide) (by decide) (by decide) ho (fun k mr S op at' hr ha hk => ?_) (fun k mr S op at' a hr ha hk h => ?_) (fun k mr S op at' a b hr ha hk h hs => ?_) (fun mr a h => ?_) (fun mr a h => ?_)
  · rw [fm_X11_product_b9, if_pos (his_89 mr), look_ok hr hn ha h2 hT2, Option.bind_some, if_neg (fun q => hk (rk5.mpr (Or.inl q))), Option.bind_some, if_neg (fun q => hk (rk5.mpr (Or.inr (Or.inl q)))), Option.bind_some, if_neg (fun q => hk (rk5.mpr (Or.inr (Or.inr q))))]
  · rw [eq k mr S op at' hr ha hk, b36 _ mr S op at' hr ha]
    have h' : rc 89 (mk (sF mr 89 5 (nI (at' + 1)))) = some (0, mk a) := h
    rw [h', ob2_some, if_pos rfl]
  · rw [eq k mr S op at' hr ha hk, b36 _ mr S op at' hr ha]
    have h' : rc 89 (mk (sF mr 89 5 (nI (at' + 1)))) = some (1, mk a) := h
    rw [h', ob2_some, if_neg one_ne, if_pos (his_89 a), hs, Option.bind_some]
  · have h' : rc 89 (mk mr) = some (0, mk a) := h
    show fm_X11_product rc 89 (mk mr) = _
    rw [fm_X11_product, if_pos (his_89 mr), h', ob2_some, if_pos rfl]
  · have h' : rc 89 (mk mr) = some (1, mk a) := h
    show fm_X11_product rc 89 (mk mr) = _
    rw [fm_X11_product, if_pos (his_89 mr), h', ob2_some, if_neg one_ne]
theorem px_sum (hn : n ≤ 60) (hT : m0.1 17 = T) (h2 : r0.1 90 2 = nI n) (hT2 : ∀ j, j < 60 → r0.1 90 (431 + j) = T j) (ho : PX m0 r0 n u T ob 5 (fun H => fm_X11_product rc 89 H)) : PX m0 r0 n u T ob 4 (fun H => fm_X11_sum rc 89 H) := by
  have b27 : ∀ (k9 : Nat → qx_H → Option (Int32 × qx_H)) mr S op at', rs r0 mr S op at' → at' ≤ n → fm_X11_sum_b27 rc k9 89 (mk mr) = ob2 (fm_X11_product rc 89 (mk (sF mr 89 5 (nI (at' + 1))))) fun v52 H52 => if v52 = 0 then (some (0, H52)) else (if hp_is H52 89 9 = true then ((fm_X11_step1 89 3 (lk n T at') H52).bind fun H63 => k9 89 H63) else none) := fun k9 mr S op at' hr ha => by
    rw [fm_X11_sum_b27, if_pos (his_89 mr), look_ok hr hn ha h2 hT2, Option.bind_some, gI_89_5, Option.bind_some, hr.2.1, nI_1, mP_89_5, Option.bind_some, if_pos (his_89 _)]
  have eq : ∀ k mr S op at', rs r0 mr S op at' → at' ≤ n → rk (lk n T at') = 4 → fm_X11_sum_b9 rc (k + 1) 89 (mk mr) = fm_X11_sum_b27 rc (fm_X11_sum_b9 rc k) 89 (mk mr) := fun k mr S op at' hr ha hk => by
    rw [fm_X11_sum_b9, if_pos (his_89 mr), look_ok hr hn ha h2 hT2, Option.bind_some]
    rcases rk4.mp hk with q | q
    · rw [if_pos q]
    · rw [if_neg (by rw [q]; decide), Option.bind_some, if_pos q]
  refine bin_px (loop := fm_X11_sum_b9 rc) hn hT (by decide) (by decide) (by decide) ho (fun k mr S op at' hr ha hk => ?_) (fun k mr S op at' a hr ha hk h => ?_) (fun k mr S op at' a b hr ha hk h hs => ?_) (fun mr a h => ?_) (fun mr a h => ?_)
  · rw [fm_X11_sum_b9, if_pos (his_89 mr), look_ok hr hn ha h2 hT2, Option.bind_some, if_neg (fun q => hk (rk4.mpr (Or.inl q))), Option.bind_some, if_neg (fun q => hk (rk4.mpr (Or.inr q)))]
  · rw [eq k mr S op at' hr ha hk, b27 _ mr S op at' hr ha]
    have h' : fm_X11_product rc 89 (mk (sF mr 89 5 (nI (at' + 1)))) = some (0, mk a) := h
    rw [h', ob2_some, if_pos rfl]
  · rw [eq k mr S op at' hr ha hk, b27 _ mr S op at' hr ha]
    have h' : fm_X11_product rc 89 (mk (sF mr 89 5 (nI (at' + 1)))) = some (1, mk a) := h
    rw [h', ob2_some, if_neg one_ne, if_pos (his_89 a), hs, Option.bind_some]
  · have h' : fm_X11_product rc 89 (mk mr) = some (0, mk a) := h
    show fm_X11_sum rc 89 (mk mr) = _
    rw [fm_X11_sum, if_pos (his_89 mr), h', ob2_some, if_pos rfl]
  · have h' : fm_X11_product rc 89 (mk mr) = some (1, mk a) := h
    show fm_X11_sum rc 89 (mk mr) = _
    rw [fm_X11_sum, if_pos (his_89 mr), h', ob2_some, if_neg one_ne]
theorem px_compared (hn : n ≤ 60) (hT : m0.1 17 = T) (h2 : r0.1 90 2 = nI n) (hT2 : ∀ j, j < 60 → r0.1 90 (431 + j) = T j) (ho : PX m0 r0 n u T ob 4 (fun H => fm_X11_sum rc 89 H)) : PX m0 r0 n u T ob 3 (fun H => fm_X11_compared rc 89 H) := by
  have b34 : ∀ mr S op at' c, rs r0 mr S op at' → fm_X11_compared_b34 rc 89 c (mk mr) = ob2 (fm_X11_sum rc 89 (mk (sF mr 89 5 (nI (at' + 1))))) fun v45 H45 => if v45 = 0 then (some (0, H45)) else (if hp_is H45 89 9 = true then ((fm_X11_step1 89 3 c H45).bind fun H56 => some (1, H56)) else none) := fun mr S op at' c hr => by
    rw [fm_X11_compared_b34, gI_89_5, Option.bind_some, hr.2.1, nI_1, mP_89_5, Option.bind_some, if_pos (his_89 _)]
  have eq : ∀ mr a S op at', fm_X11_sum rc 89 (mk mr) = some (1, mk a) → rs r0 a S op at' → at' ≤ n → rk (lk n T at') = 3 → fm_X11_compared rc 89 (mk mr) = fm_X11_compared_b34 rc 89 (lk n T at') (mk a) := fun mr a S op at' h hr ha hk => by
    rw [fm_X11_compared, if_pos (his_89 mr), h, ob2_some, if_neg one_ne, if_pos (his_89 a), look_ok hr hn ha h2 hT2, Option.bind_some]
    rcases rk3.mp hk with q | q | q
    · rw [if_pos q]
    · rw [if_neg (by rw [q]; decide), if_pos q]
    · rw [if_neg (by rw [q]; decide), if_neg (by rw [q]; decide), if_pos q]
  refine cmp_px hn hT ho (fun mr a S op at' h hr ha hk => ?_) (fun mr a h => ?_) (fun mr a b S op at' h hr ha hk h3 => ?_) (fun mr a b c S op at' h hr ha hk h3 hs => ?_)
  · have h' : fm_X11_sum rc 89 (mk mr) = some (1, mk a) := h
    show fm_X11_compared rc 89 (mk mr) = _
    rw [fm_X11_compared, if_pos (his_89 mr), h', ob2_some, if_neg one_ne, if_pos (his_89 a), look_ok hr hn ha h2 hT2, Option.bind_some, if_neg (fun q => hk (rk3.mpr (Or.inl q))), if_neg (fun q => hk (rk3.mpr (Or.inr (Or.inl q)))), if_neg (fun q => hk (rk3.mpr (Or.inr (Or.inr q))))]
  · have h' : fm_X11_sum rc 89 (mk mr) = some (0, mk a) := h
    show fm_X11_compared rc 89 (mk mr) = _
    rw [fm_X11_compared, if_pos (his_89 mr), h', ob2_some, if_pos rfl]
  · show fm_X11_compared rc 89 (mk mr) = _
    have h3' : fm_X11_sum rc 89 (mk (sF a 89 5 (nI (at' + 1)))) = some (0, mk b) := h3
    rw [eq mr a S op at' h hr ha hk, b34 a S op at' _ hr, h3', ob2_some, if_pos rfl]
  · show fm_X11_compared rc 89 (mk mr) = _
    have h3' : fm_X11_sum rc 89 (mk (sF a 89 5 (nI (at' + 1)))) = some (1, mk b) := h3
    rw [eq mr a S op at' h hr ha hk, b34 a S op at' _ hr, h3', ob2_some, if_neg one_ne, if_pos (his_89 b), hs, Option.bind_some]
theorem px_both (hn : n ≤ 60) (hT : m0.1 17 = T) (h2 : r0.1 90 2 = nI n) (hT2 : ∀ j, j < 60 → r0.1 90 (431 + j) = T j) (ho : PX m0 r0 n u T ob 3 (fun H => fm_X11_compared rc 89 H)) : PX m0 r0 n u T ob 2 (fun H => fm_X11_both rc 89 H) := by
  have eq : ∀ k mr S op at', rs r0 mr S op at' → at' ≤ n → rk (lk n T at') = 2 → fm_X11_both_b9 rc (k + 1) 89 (mk mr) = ob2 (fm_X11_compared rc 89 (mk (sF mr 89 5 (nI (at' + 1))))) fun v29 H29 => if v29 = 0 then (some (0, H29)) else (if hp_is H29 89 9 = true then ((fm_X11_step1 89 3 (lk n T at') H29).bind fun H41 => fm_X11_both_b9 rc k 89 H41) else none) := fun k mr S op at' hr ha hk => by
    rw [fm_X11_both_b9, if_pos (his_89 mr), look_ok hr hn ha h2 hT2, Option.bind_some, if_pos (rk2.mp hk), gI_89_5, Option.bind_some, hr.2.1, nI_1, mP_89_5, Option.bind_some, if_pos (his_89 _), rk2.mp hk]
  refine bin_px (loop := fm_X11_both_b9 rc) hn hT (by decide) (by decide) (by decide) ho (fun k mr S op at' hr ha hk => ?_) (fun k mr S op at' a hr ha hk h => ?_) (fun k mr S op at' a b hr ha hk h hs => ?_) (fun mr a h => ?_) (fun mr a h => ?_)
  · rw [fm_X11_both_b9, if_pos (his_89 mr), look_ok hr hn ha h2 hT2, Option.bind_some, if_neg (fun q => hk (rk2.mpr q))]
  · have h' : fm_X11_compared rc 89 (mk (sF mr 89 5 (nI (at' + 1)))) = some (0, mk a) := h
    rw [eq k mr S op at' hr ha hk, h', ob2_some, if_pos rfl]
  · have h' : fm_X11_compared rc 89 (mk (sF mr 89 5 (nI (at' + 1)))) = some (1, mk a) := h
    rw [eq k mr S op at' hr ha hk, h', ob2_some, if_neg one_ne, if_pos (his_89 a), hs, Option.bind_some]
  · have h' : fm_X11_compared rc 89 (mk mr) = some (0, mk a) := h
    show fm_X11_both rc 89 (mk mr) = _
    rw [fm_X11_both, if_pos (his_89 mr), h', ob2_some, if_pos rfl]
  · have h' : fm_X11_compared rc 89 (mk mr) = some (1, mk a) := h
    show fm_X11_both rc 89 (mk mr) = _
    rw [fm_X11_both, if_pos (his_89 mr), h', ob2_some, if_neg one_ne]
theorem px_whole (hn : n ≤ 60) (hT : m0.1 17 = T) (h2 : r0.1 90 2 = nI n) (hT2 : ∀ j, j < 60 → r0.1 90 (431 + j) = T j) (ho : PX m0 r0 n u T ob 2 (fun H => fm_X11_both rc 89 H)) : PX m0 r0 n u T ob 1 (fun H => fm_X11_whole rc 89 H) := by
  have eq : ∀ k mr S op at', rs r0 mr S op at' → at' ≤ n → rk (lk n T at') = 1 → fm_X11_whole_b9 rc (k + 1) 89 (mk mr) = ob2 (fm_X11_both rc 89 (mk (sF mr 89 5 (nI (at' + 1))))) fun v29 H29 => if v29 = 0 then (some (0, H29)) else (if hp_is H29 89 9 = true then ((fm_X11_step1 89 3 (lk n T at') H29).bind fun H41 => fm_X11_whole_b9 rc k 89 H41) else none) := fun k mr S op at' hr ha hk => by
    rw [fm_X11_whole_b9, if_pos (his_89 mr), look_ok hr hn ha h2 hT2, Option.bind_some, if_pos (rk1.mp hk), gI_89_5, Option.bind_some, hr.2.1, nI_1, mP_89_5, Option.bind_some, if_pos (his_89 _), rk1.mp hk]
  refine bin_px (loop := fm_X11_whole_b9 rc) hn hT (by decide) (by decide) (by decide) ho (fun k mr S op at' hr ha hk => ?_) (fun k mr S op at' a hr ha hk h => ?_) (fun k mr S op at' a b hr ha hk h hs => ?_) (fun mr a h => ?_) (fun mr a h => ?_)
  · rw [fm_X11_whole_b9, if_pos (his_89 mr), look_ok hr hn ha h2 hT2, Option.bind_some, if_neg (fun q => hk (rk1.mpr q))]
  · have h' : fm_X11_both rc 89 (mk (sF mr 89 5 (nI (at' + 1)))) = some (0, mk a) := h
    rw [eq k mr S op at' hr ha hk, h', ob2_some, if_pos rfl]
  · have h' : fm_X11_both rc 89 (mk (sF mr 89 5 (nI (at' + 1)))) = some (1, mk a) := h
    rw [eq k mr S op at' hr ha hk, h', ob2_some, if_neg one_ne, if_pos (his_89 a), hs, Option.bind_some]
  · have h' : fm_X11_both rc 89 (mk mr) = some (0, mk a) := h
    show fm_X11_whole rc 89 (mk mr) = _
    rw [fm_X11_whole, if_pos (his_89 mr), h', ob2_some, if_pos rfl]
  · have h' : fm_X11_both rc 89 (mk mr) = some (1, mk a) := h
    show fm_X11_whole rc 89 (mk mr) = _
    rw [fm_X11_whole, if_pos (his_89 mr), h', ob2_some, if_neg one_ne]
end LV
theorem nm_dec {u : Nat} (hu : u < 2) (c : Int32) : (isNm u c ∧ fm_X8_nameOf c (nI u) = nmC u c ∧ nmC u c ≠ 0 ∧ c ≠ 33 ∧ c ≠ 40 ∧ c ≠ -1 ∧ fm_X11_in c 48 57 = 0) ∨ (¬ isNm u c ∧ fm_X8_nameOf c (nI u) = 0) := by
  have : u = 0 ∨ u = 1 := by omega
  rcases this with rfl | rfl
  · by_cases a : c = 109
    · left; subst a; exact ⟨(show (109 : Int32) = 109 ∨ (109 : Int32) = 100 ∨ (109 : Int32) = 104 from Or.inl rfl), by decide⟩
    · by_cases b : c = 100
      · left; subst b; exact ⟨(show (100 : Int32) = 109 ∨ (100 : Int32) = 100 ∨ (100 : Int32) = 104 from Or.inr (Or.inl rfl)), by decide⟩
      · by_cases d : c = 104
        · left; subst d; exact ⟨(show (104 : Int32) = 109 ∨ (104 : Int32) = 100 ∨ (104 : Int32) = 104 from Or.inr (Or.inr rfl)), by decide⟩
        · right
          refine ⟨fun q => ?_, ?_⟩
          · rcases (show c = 109 ∨ c = 100 ∨ c = 104 from q) with z | z | z
            · exact a z
            · exact b z
            · exact d z
          · show (if c = 109 then (-1 : Int32) else if c = 100 then -2 else if c = 104 then -3 else 0) = 0
            rw [if_neg a, if_neg b, if_neg d]
  · by_cases a : c = 116
    · left; subst a; exact ⟨(show (116 : Int32) = 116 ∨ (116 : Int32) = 119 ∨ (116 : Int32) = 97 from Or.inl rfl), by decide⟩
    · by_cases b : c = 119
      · left; subst b; exact ⟨(show (119 : Int32) = 116 ∨ (119 : Int32) = 119 ∨ (119 : Int32) = 97 from Or.inr (Or.inl rfl)), by decide⟩
      · by_cases d : c = 97
        · left; subst d; exact ⟨(show (97 : Int32) = 116 ∨ (97 : Int32) = 119 ∨ (97 : Int32) = 97 from Or.inr (Or.inr rfl)), by decide⟩
        · right
          refine ⟨fun q => ?_, ?_⟩
          · rcases (show c = 116 ∨ c = 119 ∨ c = 97 from q) with z | z | z
            · exact a z
            · exact b z
            · exact d z
          · show (if c = 116 then (-1 : Int32) else if c = 119 then -2 else if c = 97 then -3 else 0) = 0
            rw [if_neg a, if_neg b, if_neg d]
theorem isName_ok {mr : xM2} {u : Nat} (hu : u < 2) (h8 : mr.2 89 8 = nI u) (c : Int32) : (isNm u c → fm_X11_isName 89 c (mk mr) = some 1) ∧ (¬ isNm u c → fm_X11_isName 89 c (mk mr) = some 0) := by
  have : u = 0 ∨ u = 1 := by omega
  rcases this with rfl | rfl
  · have e : fm_X11_isName 89 c (mk mr) = if c = 109 then some 1 else if c = 100 then some 1 else if c = 104 then some 1 else some 0 := by
      rw [fm_X11_isName, gI_89_8, Option.bind_some, h8, if_pos (show nI 0 = 0 from rfl)]
    rw [e]
    constructor
    · intro q
      rcases (show c = 109 ∨ c = 100 ∨ c = 104 from q) with rfl | rfl | rfl <;> rfl
    · intro q
      have q' : ¬ (c = 109 ∨ c = 100 ∨ c = 104) := q
      rw [if_neg (fun z => q' (Or.inl z)), if_neg (fun z => q' (Or.inr (Or.inl z))), if_neg (fun z => q' (Or.inr (Or.inr z)))]
  · have e : fm_X11_isName 89 c (mk mr) = if c = 116 then some 1 else if c = 119 then some 1 else if c = 97 then some 1 else some 0 := by
      rw [fm_X11_isName, gI_89_8, Option.bind_some, h8, if_neg (show ¬ nI 1 = 0 by decide)]
    rw [e]
    constructor
    · intro q
      rcases (show c = 116 ∨ c = 119 ∨ c = 97 from q) with rfl | rfl | rfl <;> rfl
    · intro q
      have q' : ¬ (c = 116 ∨ c = 119 ∨ c = 97) := q
      rw [if_neg (fun z => q' (Or.inl z)), if_neg (fun z => q' (Or.inr (Or.inl z))), if_neg (fun z => q' (Or.inr (Or.inr z)))]
