/-! TEXTS READ: THE CLASS'S READER -/
def inS (f : Nat → Int32) : List Int32 → Prop
  | [] => True
  | c :: r => f r.length = c ∧ inS f r
theorem inS_upd {f : Nat → Int32} {k : Nat} {x : Int32} : ∀ {r : List Int32}, inS f r → r.length ≤ k → inS (upd f k x) r
  | [], _, _ => trivial
  | c :: r, h, hk => by
    have hk' : r.length + 1 ≤ k := hk
    exact ⟨by rw [upd_n (by omega)]; exact h.1, inS_upd h.2 (by omega)⟩
def rk (c : Int32) : Nat := (fm_X8_rankOf c).toNatClampNeg
theorem rk_eq (c : Int32) : fm_X8_rankOf c = nI (rk c) ∧ rk c ≤ 5 := by
  unfold rk fm_X8_rankOf
  repeat' split
  all_goals exact ⟨by decide, by decide⟩
def cs (m0 m : xM2) (out stk : List Int32) (op : Nat) (want : Bool) : Prop :=
  ((∀ a, a ≠ 67 → a ≠ 69 → m.1 a = m0.1 a) ∧ ∀ o, o ≠ 65 → o ≠ 66 → m.2 o = m0.2 o) ∧ m.2 65 2 = nI stk.length ∧ inS (m.1 69) stk ∧ m.2 65 3 = nI op ∧ m.2 65 4 = (if want then 1 else 0) ∧ m.2 66 2 = nI out.length ∧ inS (m.1 67) out
section RD
variable {m0 m : xM2} {out stk : List Int32} {op : Nat} {want : Bool}
theorem c_add (h : cs m0 m out stk op want) (hl : out.length < 60) (x : Int32) : ∃ m', fm_X3_add 66 x (mk m) = some (mk m') ∧ cs m0 m' (x :: out) stk op want := by
  obtain ⟨⟨f1, f2⟩, h1, h2, h3, h4, h5, h6⟩ := h
  have g : ¬ (60 : Int32) ≤ nI out.length := nI_ge (b := 60) hl (by decide)
  refine ⟨sF (sA m 67 (upd (m.1 67) out.length x)) 66 2 (nI (out.length + 1)), ?_, ⟨fun a a1 a2 => (sA_n a1).trans (f1 a a1 a2), fun o o1 o2 => (sF_n o2).trans (f2 o o1 o2)⟩, ?_, ?_, ?_, ?_, ?_, ?_, ?_⟩
  · unfold fm_X3_add
    rw [gI_66_2, Option.bind_some, h5, if_neg g, gR_66_0, Option.bind_some, Option.bind_some, as_67 m hl, Option.bind_some, gI_66_2, Option.bind_some, sA_2, h5, nI_1, mP_66_2, Option.bind_some]
  · rw [sF_n (by decide)]; exact h1
  · show inS ((sA m 67 (upd (m.1 67) out.length x)).1 69) stk
    rw [sA_n (by decide)]; exact h2
  · rw [sF_n (by decide)]; exact h3
  · rw [sF_n (by decide)]; exact h4
  · rw [sF_s, upd_s]; rfl
  · show (sA m 67 (upd (m.1 67) out.length x)).1 67 out.length = x
    rw [sA_s, upd_s]
  · show inS ((sA m 67 (upd (m.1 67) out.length x)).1 67) out
    rw [sA_s]; exact inS_upd h6 (Nat.le_refl _)
theorem c_push (h : cs m0 m out stk op want) (hl : stk.length < 60) (x : Int32) : ∃ m', fm_X8_push 65 x (mk m) = some (mk m') ∧ cs m0 m' out (x :: stk) op want := by
  obtain ⟨⟨f1, f2⟩, h1, h2, h3, h4, h5, h6⟩ := h
  have g : ¬ (60 : Int32) ≤ nI stk.length := nI_ge (b := 60) hl (by decide)
  refine ⟨sF (sA m 69 (upd (m.1 69) stk.length x)) 65 2 (nI (stk.length + 1)), ?_, ⟨fun a a1 a2 => (sA_n a2).trans (f1 a a1 a2), fun o o1 o2 => (sF_n o1).trans (f2 o o1 o2)⟩, ?_, ⟨?_, ?_⟩, ?_, ?_, ?_, ?_⟩
  · unfold fm_X8_push
    rw [gI_65_2, Option.bind_some, h1, if_neg g, gR_65_1, Option.bind_some, Option.bind_some, as_69 m hl, Option.bind_some, gI_65_2, Option.bind_some, sA_2, h1, nI_1, mP_65_2, Option.bind_some]
  · rw [sF_s, upd_s]; rfl
  · show (sA m 69 (upd (m.1 69) stk.length x)).1 69 stk.length = x
    rw [sA_s, upd_s]
  · show inS ((sA m 69 (upd (m.1 69) stk.length x)).1 69) stk
    rw [sA_s]; exact inS_upd h2 (Nat.le_refl _)
  · rw [sF_s, upd_n (by decide)]; exact h3
  · rw [sF_s, upd_n (by decide)]; exact h4
  · rw [sF_n (by decide)]; exact h5
  · show inS ((sA m 69 (upd (m.1 69) stk.length x)).1 67) out
    rw [sA_n (by decide)]; exact h6
/-- a field of the reader, not the stack's height -/
theorem c_fld {x : Int32} (h : cs m0 m out stk op want) {op' : Nat} {want' : Bool} {k : Nat} (hk : (k = 3 ∧ x = nI op' ∧ want' = want) ∨ (k = 4 ∧ x = (if want' then 1 else 0) ∧ op' = op)) : cs m0 (sF m 65 k x) out stk op' want' := by
  obtain ⟨⟨f1, f2⟩, h1, h2, h3, h4, h5, h6⟩ := h
  refine ⟨⟨f1, fun o o1 o2 => (sF_n o1).trans (f2 o o1 o2)⟩, ?_, h2, ?_, ?_, ?_, h6⟩
  · rw [sF_s, upd_n (by omega)]; exact h1
  · rcases hk with ⟨rfl, rfl, rfl⟩ | ⟨rfl, rfl, rfl⟩
    · rw [sF_s, upd_s]
    · rw [sF_s, upd_n (by decide)]; exact h3
  · rcases hk with ⟨rfl, rfl, rfl⟩ | ⟨rfl, rfl, rfl⟩
    · rw [sF_s, upd_n (by decide)]; exact h4
    · rw [sF_s, upd_s]
  · rw [sF_n (by decide)]; exact h5
theorem c_pop {c : Int32} (h : cs m0 m out (c :: stk) op want) : cs m0 (sF m 65 2 (nI stk.length)) out stk op want := by
  obtain ⟨⟨f1, f2⟩, h1, h2, h3, h4, h5, h6⟩ := h
  exact ⟨⟨f1, fun o o1 o2 => (sF_n o1).trans (f2 o o1 o2)⟩, by rw [sF_s, upd_s], h2.2, by rw [sF_s, upd_n (by decide)]; exact h3, by rw [sF_s, upd_n (by decide)]; exact h4, by rw [sF_n (by decide)]; exact h5, h6⟩
def flush : List Int32 → List Int32 → List Int32
  | [], o => o
  | c :: P, o => flush P (-c :: o)
theorem flush_len : ∀ (P o : List Int32), (flush P o).length = P.length + o.length
  | [], o => by simp [flush]
  | c :: P, o => by rw [flush, flush_len P]; simp; omega
theorem flush_app : ∀ (P Q o : List Int32), flush (P ++ Q) o = flush Q (flush P o)
  | [], _, _ => rfl
  | c :: P, Q, o => by simp only [List.cons_append, flush]; exact flush_app P Q _
def low (k : Nat) : List Int32 → Prop
  | [] => True
  | c :: _ => rk c < k
theorem c_settle {k : Nat} (hk5 : k ≤ 5) : ∀ (P : List Int32) (m : xM2) (out stk : List Int32) (n : Nat), P.length < n → cs m0 m out (P ++ stk) op want → (∀ c, c ∈ P → k ≤ rk c) → low k stk → P.length + out.length ≤ 60 → (P ++ stk).length ≤ 60 → ∃ m', fm_X8_settle_b0 n 65 (nI k) (mk m) = some (mk m') ∧ cs m0 m' (flush P out) stk op want
  | [], m, out, stk, n, hn, h, hP, hs, hl, hl2 => by
    obtain ⟨n, rfl⟩ : ∃ z, n = z + 1 := ⟨n - 1, by omega⟩
    have h1 : m.2 65 2 = nI stk.length := h.2.1
    refine ⟨m, ?_, h⟩
    rw [fm_X8_settle_b0, gI_65_2, Option.bind_some, h1]
    cases stk with
    | nil => rw [if_pos (show nI ([] : List Int32).length ≤ 0 by decide)]
    | cons c r =>
      have l2 : r.length + 1 ≤ 60 := hl2
      have top : m.1 69 r.length = c := h.2.2.1.1
      obtain ⟨re, r5⟩ := rk_eq c
      have ck : rk c < k := hs
      rw [show (c :: r).length = r.length + 1 from rfl, if_neg (nI_nle (by omega) (by omega)), gR_65_1, Option.bind_some, Option.bind_some, nI_pred, al_69 m (show r.length < 60 by omega), Option.bind_some, top, re, if_pos (nI_lt ck (by omega))]
  | c :: P, m, out, stk, n, hn, h, hP, hs, hl, hl2 => by
    have hn' : P.length + 1 < n := hn
    obtain ⟨n, rfl⟩ : ∃ z, n = z + 1 := ⟨n - 1, by omega⟩
    have h1 : m.2 65 2 = nI ((P ++ stk).length + 1) := h.2.1
    have l1 : P.length + 1 + out.length ≤ 60 := hl
    have l2 : (P ++ stk).length + 1 ≤ 60 := hl2
    have top : m.1 69 (P ++ stk).length = c := h.2.2.1.1
    obtain ⟨re, r5⟩ := rk_eq c
    have ck : k ≤ rk c := hP c (List.mem_cons_self ..)
    have h' : cs m0 m out (c :: (P ++ stk)) op want := h
    have cp := c_pop h'
    obtain ⟨m1, a1, a2⟩ := c_add cp (by omega) (-c)
    obtain ⟨m2, b1, b2⟩ := c_settle hk5 P m1 (-c :: out) stk n (by omega) a2 (fun d hd => hP d (List.mem_cons_of_mem _ hd)) hs (by show P.length + (out.length + 1) ≤ 60; omega) (by omega)
    refine ⟨m2, ?_, b2⟩
    rw [fm_X8_settle_b0, gI_65_2, Option.bind_some, h1, if_neg (nI_nle (by omega) (by omega)), gR_65_1, Option.bind_some, Option.bind_some, nI_pred, al_69 m (show (P ++ stk).length < 60 by omega), Option.bind_some, top, re, if_neg (nI_nlt ck (by omega)), Option.bind_some, nI_pred, mP_65_2, Option.bind_some, gR_65_0, Option.bind_some, gR_65_1, Option.bind_some, gI_65_2, Option.bind_some, sF_s, upd_s, al_69 _ (show (P ++ stk).length < 60 by omega), Option.bind_some, if_pos (his_66 _), sF_1, top, a1, Option.bind_some]
    exact b1
/-- a value is read: the ! ahead of it have what they asked for -/
theorem c_end_l : ∀ (j : Nat) (m : xM2) (out stk : List Int32) (op n : Nat), j < n → cs m0 m out (List.replicate j 33 ++ stk) (op + j) want → (∀ c r, stk = c :: r → c ≠ 33) → j + out.length ≤ 60 → j + stk.length ≤ 60 → op + j ≤ 5 → ∃ m', fm_X8_endValue_b5 n 65 (mk m) = some (mk m') ∧ cs m0 m' (List.replicate j (-33) ++ out) stk op want
  | 0, m, out, stk, op, n, hn, h, hs, hl, hl2, ho => by
    obtain ⟨n, rfl⟩ : ∃ z, n = z + 1 := ⟨n - 1, by omega⟩
    have h1 : m.2 65 2 = nI stk.length := h.2.1
    refine ⟨m, ?_, h⟩
    rw [fm_X8_endValue_b5, gI_65_2, Option.bind_some, h1]
    cases stk with
    | nil => rw [if_pos (show nI ([] : List Int32).length ≤ 0 by decide)]
    | cons c r =>
      have l2 : 0 + (r.length + 1) ≤ 60 := hl2
      have top : m.1 69 r.length = c := h.2.2.1.1
      have c33 : ¬ c = 33 := hs c r rfl
      rw [show (c :: r).length = r.length + 1 from rfl, if_neg (nI_nle (by omega) (by omega)), gR_65_1, Option.bind_some, Option.bind_some, nI_pred, al_69 m (show r.length < 60 by omega), Option.bind_some, top, if_neg c33]
  | j + 1, m, out, stk, op, n, hn, h, hs, hl, hl2, ho => by
    obtain ⟨n, rfl⟩ : ∃ z, n = z + 1 := ⟨n - 1, by omega⟩
    have ll : (List.replicate j (33 : Int32) ++ stk).length = j + stk.length := by simp
    have h' : cs m0 m out (33 :: (List.replicate j 33 ++ stk)) (op + (j + 1)) want := h
    have h1 : m.2 65 2 = nI (j + stk.length + 1) := by rw [← ll]; exact h'.2.1
    have h3 : m.2 65 3 = nI (op + j + 1) := h'.2.2.2.1
    have top : m.1 69 (j + stk.length) = 33 := by rw [← ll]; exact h'.2.2.1.1
    have cp := c_fld (op' := op + j) (want' := want) (x := nI (op + j)) (k := 3) (c_pop h') (Or.inl ⟨rfl, rfl, rfl⟩)
    rw [ll] at cp
    obtain ⟨m1, a1, a2⟩ := c_add cp (by omega) (-33)
    obtain ⟨m2, b1, b2⟩ := c_end_l j m1 (-33 :: out) stk op n (by omega) a2 hs (by show j + (out.length + 1) ≤ 60; omega) (by omega) (by omega)
    refine ⟨m2, ?_, by
      have e : List.replicate (j + 1) (-33 : Int32) ++ out = List.replicate j (-33) ++ (-33 :: out) := by
        rw [List.replicate_succ']
        simp
      rw [e]; exact b2⟩
    rw [fm_X8_endValue_b5, gI_65_2, Option.bind_some, h1, if_neg (nI_nle (by omega) (by omega)), gR_65_1, Option.bind_some, Option.bind_some, nI_pred, al_69 m (show j + stk.length < 60 by omega), Option.bind_some, top, if_pos rfl, Option.bind_some, nI_pred, mP_65_2, Option.bind_some, gI_65_3, Option.bind_some, sF_s, upd_n (by decide), h3, nI_pred, mP_65_3, Option.bind_some, gR_65_0, Option.bind_some, if_pos (his_66 _), a1, Option.bind_some]
    exact b1
theorem c_end {j : Nat} {stk : List Int32} {op : Nat} (h : cs m0 m out (List.replicate j 33 ++ stk) (op + j) want) (hs : ∀ c r, stk = c :: r → c ≠ 33) (hl : j + out.length ≤ 60) (hl2 : j + stk.length ≤ 60) (ho : op + j ≤ 5) : ∃ m', fm_X8_endValue 65 (mk m) = some (mk m') ∧ cs m0 m' (List.replicate j (-33) ++ out) stk op false := by
  obtain ⟨m', a, b⟩ := c_end_l (want := false) j (sF m 65 4 0) out stk op 5000 (by omega) (c_fld h (Or.inr ⟨rfl, rfl, rfl⟩)) hs hl hl2 ho
  refine ⟨m', ?_, b⟩
  rw [fm_X8_endValue, mP_65_4, Option.bind_some]
  exact a
end RD
/-! THE READER'S LOOP -/
section RL
variable {m0 m : xM2} {out stk : List Int32} {op n at' u f : Nat} {T : Nat → Int32} {want : Bool}
theorem tape_at (h : cs m0 m out stk op want) (hT : m0.1 17 = T) (ha : at' < 60) : hp_ald (mk m) 17 (nI at') = some (T at') := by
  rw [al_17 m ha, h.1.1 17 (by decide) (by decide), hT]
/-- the class's reader at a place of the tape -/
def CR (n u f at' : Nat) (m : xM2) : Option (Int32 × qx_H) := fm_X8_read_b25 f 65 17 (nI n) (nI u) (nI at') (mk m)
theorem cr_end (h : cs m0 m out stk op true) : CR n u (f + 1) n m = some (nI n, mk m) := by
  unfold CR
  rw [fm_X8_read_b25, if_pos (Int32.le_refl _), gI_65_4, Option.bind_some, h.2.2.2.2.1, if_pos rfl, if_neg one_ne]
theorem cr_open (h : cs m0 m out stk (op + 1) false) (ho : op + 1 ≤ 5) : CR n u (f + 1) n m = some (nI n, mk m) := by
  unfold CR
  rw [fm_X8_read_b25, if_pos (Int32.le_refl _), gI_65_4, Option.bind_some, h.2.2.2.2.1, if_pos (by decide), gI_65_3, Option.bind_some, h.2.2.2.1, if_neg (nI_nle (by omega) (by omega))]
theorem cr_done (h : cs m0 m out stk 0 false) (hl : stk.length + out.length ≤ 60) : ∃ m', CR n u (f + 1) n m = some (-1, mk m') ∧ cs m0 m' (flush stk out) [] 0 false := by
  obtain ⟨m', a, b⟩ := c_settle (m0 := m0) (op := 0) (want := false) (k := 0) (by decide) stk m out [] 5000 (by omega) (by rw [List.append_nil]; exact h) (fun _ _ => Nat.zero_le _) trivial hl (by simp; omega)
  refine ⟨m', ?_, b⟩
  have a' : fm_X8_settle 65 0 (mk m) = some (mk m') := a
  unfold CR
  rw [fm_X8_read_b25, if_pos (Int32.le_refl _), gI_65_4, Option.bind_some, h.2.2.2.2.1, if_pos (by decide), gI_65_3, Option.bind_some, h.2.2.2.1, if_pos (by decide), if_pos (his_65 m), a', Option.bind_some]
/-- where a value is wanted -/
theorem cr_val (h : cs m0 m out stk op true) (hn : n ≤ 60) (ha : at' < n) : CR n u (f + 1) at' m = ob2 (fm_X8_takeValue 65 17 (nI n) (nI at') (nI u) (mk m)) fun v44 H44 => fm_X8_read_b58 (fm_X8_read_b25 f) 65 17 (nI n) (nI u) (nI at') v44 H44 := by
  unfold CR
  rw [fm_X8_read_b25, if_neg (nI_ge ha (by omega)), gI_65_4, Option.bind_some, h.2.2.2.2.1, if_pos rfl, if_neg one_ne, if_pos (his_65 m)]
theorem cr_sig (h : cs m0 m out stk op false) (hT : m0.1 17 = T) (hn : n ≤ 60) (ha : at' < n) : CR n u (f + 1) at' m = ob2 (fm_X8_takeSign 65 (T at') (mk m)) fun v55 H55 => fm_X8_read_b58 (fm_X8_read_b25 f) 65 17 (nI n) (nI u) (nI at') v55 H55 := by
  unfold CR
  rw [fm_X8_read_b25, if_neg (nI_ge ha (by omega)), gI_65_4, Option.bind_some, h.2.2.2.2.1, if_pos (by decide), tape_at h hT (by omega), Option.bind_some, if_pos (his_65 m)]
theorem b58_go {k : Nat} (hk : 1 ≤ k) (hk2 : k < 100) : fm_X8_read_b58 (fm_X8_read_b25 f) 65 17 (nI n) (nI u) (nI at') (nI k) (mk m) = CR n u f (at' + k) m := by
  have z : (0 : Int32) < nI k := nI_lt (a := 0) (by omega) (by omega)
  rw [fm_X8_read_b58, if_pos z, nI_add]
  rfl
theorem b58_no : fm_X8_read_b58 (fm_X8_read_b25 f) 65 17 (nI n) (nI u) (nI at') 0 (mk m) = some (nI at', mk m) := by
  rw [fm_X8_read_b58, if_neg (by decide)]
theorem cr_open_sign (h : cs m0 m out stk op true) (hT : m0.1 17 = T) (hn : n ≤ 60) (ha : at' < n) (hc : T at' = 33 ∨ T at' = 40) (ho : op < 5) (hl : stk.length < 60) : ∃ m', CR n u (f + 1) at' m = CR n u f (at' + 1) m' ∧ cs m0 m' out (T at' :: stk) (op + 1) true := by
  have h1 := c_fld (op' := op + 1) (want' := true) (x := nI (op + 1)) (k := 3) h (Or.inl ⟨rfl, rfl, rfl⟩)
  obtain ⟨m', a, b⟩ := c_push h1 hl (T at')
  refine ⟨m', ?_, b⟩
  have o5 : nI op < 5 := nI_lt (b := 5) ho (by decide)
  have b19 : fm_X8_takeValue_b19 65 (T at') (mk m) = some (1, mk m') := by
    rw [fm_X8_takeValue_b19, gI_65_3, Option.bind_some, h.2.2.2.1, if_pos o5, Option.bind_some, nI_1, mP_65_3, Option.bind_some, if_pos (his_65 _), a, Option.bind_some]
  have tv : fm_X8_takeValue 65 17 (nI n) (nI at') (nI u) (mk m) = some (1, mk m') := by
    rw [fm_X8_takeValue, tape_at h hT (by omega), Option.bind_some]
    rcases hc with q | q
    · rw [if_pos q, b19]
    · rw [if_neg (by rw [q]; decide), if_pos q, b19]
  rw [cr_val h hn ha, tv, ob2_some]
  exact b58_go (k := 1) (by decide) (by decide)
theorem cr_open_no (h : cs m0 m out stk 5 true) (hT : m0.1 17 = T) (hn : n ≤ 60) (ha : at' < n) (hc : T at' = 33 ∨ T at' = 40) : CR n u (f + 1) at' m = some (nI at', mk m) := by
  have b19 : fm_X8_takeValue_b19 65 (T at') (mk m) = some (0, mk m) := by
    rw [fm_X8_takeValue_b19, gI_65_3, Option.bind_some, h.2.2.2.1, if_neg (by decide)]
  have tv : fm_X8_takeValue 65 17 (nI n) (nI at') (nI u) (mk m) = some (0, mk m) := by
    rw [fm_X8_takeValue, tape_at h hT (by omega), Option.bind_some]
    rcases hc with q | q
    · rw [if_pos q, b19]
    · rw [if_neg (by rw [q]; decide), if_pos q, b19]
  rw [cr_val h hn ha, tv, ob2_some, b58_no]
/-- a value of k bytes -/
theorem cr_item {j k : Nat} {x : Int32} (h : cs m0 m out (List.replicate j 33 ++ stk) (op + j) true) (hn : n ≤ 60) (ha : at' < n) (hs : ∀ c r, stk = c :: r → c ≠ 33) (hk : 1 ≤ k) (hk2 : k ≤ 4) (hl : j + out.length + 1 ≤ 60) (hl2 : j + stk.length ≤ 60) (ho : op + j ≤ 5) (hv : fm_X8_takeValue 65 17 (nI n) (nI at') (nI u) (mk m) = fm_X8_takeValue_b116 65 (nI k) x (mk m)) : ∃ m', CR n u (f + 1) at' m = CR n u f (at' + k) m' ∧ cs m0 m' (List.replicate j (-33) ++ (x :: out)) stk op false := by
  obtain ⟨m1, a1, a2⟩ := c_add h (by omega) x
  obtain ⟨m2, b1, b2⟩ := c_end a2 hs (by show j + (out.length + 1) ≤ 60; omega) hl2 ho
  refine ⟨m2, ?_, b2⟩
  rw [cr_val h hn ha, hv, fm_X8_takeValue_b116, if_neg (nI_nle (by omega) (by omega)), gR_65_0, Option.bind_some, if_pos (his_66 m), a1, Option.bind_some, if_pos (his_65 m1), b1, Option.bind_some, ob2_some]
  exact b58_go hk (by omega)
theorem cr_bad (h : cs m0 m out stk op true) (hn : n ≤ 60) (ha : at' < n) {x : Int32} (hv : fm_X8_takeValue 65 17 (nI n) (nI at') (nI u) (mk m) = fm_X8_takeValue_b116 65 0 x (mk m)) : CR n u (f + 1) at' m = some (nI at', mk m) := by
  rw [cr_val h hn ha, hv, fm_X8_takeValue_b116, if_pos (by decide), ob2_some, b58_no]
/-- a sign between values -/
theorem cr_sign {k : Nat} {P : List Int32} (h : cs m0 m out (P ++ stk) op false) (hT : m0.1 17 = T) (hn : n ≤ 60) (ha : at' < n) (hk : rk (T at') = k) (hk1 : 1 ≤ k) (hk3 : k ≠ 3) (hP : ∀ c, c ∈ P → k ≤ rk c) (hs : low k stk) (hl : P.length + out.length ≤ 60) (hl2 : (P ++ stk).length < 60) : ∃ m', CR n u (f + 1) at' m = CR n u f (at' + 1) m' ∧ cs m0 m' (flush P out) (T at' :: stk) op true := by
  obtain ⟨re, r5⟩ := rk_eq (T at')
  rw [hk] at re r5
  obtain ⟨m1, a1, a2⟩ := c_settle r5 P m out stk 5000 (by omega) h hP hs hl (by omega)
  obtain ⟨m2, b1, b2⟩ := c_push a2 (by rw [List.length_append] at hl2; omega) (T at')
  have b3 := c_fld (op' := op) (want' := true) (x := 1) (k := 4) b2 (Or.inr ⟨rfl, rfl, rfl⟩)
  refine ⟨_, ?_, b3⟩
  have a1' : fm_X8_settle 65 (nI k) (mk m) = some (mk m1) := a1
  have n41 : ¬ T at' = 41 := fun q => by
    rw [q] at hk
    have : rk 41 = 0 := by decide
    omega
  have nk3 : ¬ nI k = 3 := fun q => hk3 ((nI_eq (b := 3) (by omega) (by decide)).mp q)
  rw [cr_sig h hT hn ha, fm_X8_takeSign, if_neg n41, re, if_neg (nI_ne0 (by omega) (by omega)), if_pos (his_65 m), if_neg nk3, a1', Option.bind_some, if_neg nk3, fm_X8_takeSign_b105, if_pos (his_65 m1), b1, Option.bind_some, mP_65_4, Option.bind_some, ob2_some]
  exact b58_go (k := 1) (by decide) (by decide)
/-- a comparison -/
theorem cr_cmp {P : List Int32} (h : cs m0 m out (P ++ stk) op false) (hT : m0.1 17 = T) (hn : n ≤ 60) (ha : at' < n) (hk : rk (T at') = 3) (hP : ∀ c, c ∈ P → 4 ≤ rk c) (hs : low 4 stk) (hl : P.length + out.length ≤ 60) (hl2 : (P ++ stk).length < 60) : (low 3 stk → ∃ m', CR n u (f + 1) at' m = CR n u f (at' + 1) m' ∧ cs m0 m' (flush P out) (T at' :: stk) op true) ∧ (¬ low 3 stk → ∃ m', CR n u (f + 1) at' m = some (nI at', mk m') ∧ cs m0 m' (flush P out) stk op false) := by
  obtain ⟨re, -⟩ := rk_eq (T at')
  rw [hk] at re
  obtain ⟨m1, a1, a2⟩ := c_settle (k := 4) (by decide) P m out stk 5000 (by omega) h hP hs hl (by omega)
  have a1' : fm_X8_settle 65 (nI 3 + 1) (mk m) = some (mk m1) := a1
  have ls : stk.length < 60 := by rw [List.length_append] at hl2; omega
  obtain ⟨m2, b1, b2⟩ := c_push a2 ls (T at')
  have b3 := c_fld (op' := op) (want' := true) (x := 1) (k := 4) b2 (Or.inr ⟨rfl, rfl, rfl⟩)
  have n41 : ¬ T at' = 41 := fun q => by
    rw [q] at hk
    exact absurd hk (by decide)
  have go : fm_X8_takeSign_b105 65 (T at') (mk m1) = some (1, mk (sF m2 65 4 1)) := by
    rw [fm_X8_takeSign_b105, if_pos (his_65 m1), b1, Option.bind_some, mP_65_4, Option.bind_some]
  have h1 : m1.2 65 2 = nI stk.length := a2.2.1
  have top : fm_X8_takeSign 65 (T at') (mk m) = if nI stk.length ≤ 0 then some (1, mk (sF m2 65 4 1)) else ((hp_gR (mk m1) 65 6 1).bind fun v86 => (hp_gI (mk m1) 65 6 2).bind fun v90 => (hp_ald (mk m1) v86 (v90 - 1)).bind fun v95 => if (fm_X8_rankOf v95) = 3 then (some (0, mk m1)) else some (1, mk (sF m2 65 4 1))) := by
    rw [fm_X8_takeSign, if_neg n41, re, if_neg (by decide), if_pos (his_65 m), if_pos (show nI 3 = 3 from rfl), a1', Option.bind_some, if_pos (show nI 3 = 3 from rfl), gI_65_2, Option.bind_some, h1, go]
  cases stk with
  | nil =>
    refine ⟨fun _ => ⟨_, ?_, b3⟩, fun q => absurd trivial q⟩
    rw [cr_sig h hT hn ha, top, if_pos (show nI ([] : List Int32).length ≤ 0 by decide), ob2_some]
    exact b58_go (k := 1) (by decide) (by decide)
  | cons c r =>
    have lr : r.length + 1 < 60 := ls
    have tp : m1.1 69 r.length = c := a2.2.2.1.1
    obtain ⟨rc, -⟩ := rk_eq c
    have c4 : rk c < 4 := hs
    have tt : fm_X8_takeSign 65 (T at') (mk m) = if nI (rk c) = 3 then (some (0, mk m1)) else some (1, mk (sF m2 65 4 1)) := by
      rw [top, show (c :: r).length = r.length + 1 from rfl, if_neg (nI_nle (by omega) (by omega)), gR_65_1, Option.bind_some, gI_65_2, Option.bind_some, h1, show (c :: r).length = r.length + 1 from rfl, nI_pred, al_69 m1 (show r.length < 60 by omega), Option.bind_some, tp, rc]
    refine ⟨fun q => ⟨_, ?_, b3⟩, fun q => ⟨m1, ?_, a2⟩⟩
    · have q' : rk c < 3 := q
      have n3 : ¬ nI (rk c) = 3 := fun z => by have := (nI_eq (b := 3) (by omega) (by decide)).mp z; omega
      rw [cr_sig h hT hn ha, tt, if_neg n3, ob2_some]
      exact b58_go (k := 1) (by decide) (by decide)
    · have q' : ¬ rk c < 3 := q
      have e3 : rk c = 3 := by omega
      rw [cr_sig h hT hn ha, tt, e3, if_pos (show nI 3 = 3 from rfl), ob2_some, b58_no]
/-- a bracket shut -/
theorem cr_shut {j : Nat} {P : List Int32} (h : cs m0 m out (P ++ (40 :: (List.replicate j 33 ++ stk))) (op + j + 1) false) (hT : m0.1 17 = T) (hn : n ≤ 60) (ha : at' < n) (hc : T at' = 41) (hP : ∀ c, c ∈ P → 1 ≤ rk c) (hs : ∀ c r, stk = c :: r → c ≠ 33) (hl : P.length + out.length + j ≤ 60) (hl2 : P.length + (j + stk.length) + 1 ≤ 60) (ho : op + j + 1 ≤ 5) : ∃ m', CR n u (f + 1) at' m = CR n u f (at' + 1) m' ∧ cs m0 m' (List.replicate j (-33) ++ flush P out) stk op false := by
  have ll : (List.replicate j (33 : Int32) ++ stk).length = j + stk.length := by simp
  obtain ⟨m1, a1, a2⟩ := c_settle (k := 1) (by decide) P m out (40 :: (List.replicate j 33 ++ stk)) 5000 (by omega) h hP (show rk 40 < 1 by decide) (by omega) (by simp; omega)
  have a1' : fm_X8_settle 65 1 (mk m) = some (mk m1) := a1
  have h1 : m1.2 65 2 = nI (j + stk.length + 1) := by rw [← ll]; exact a2.2.1
  have h3 : m1.2 65 3 = nI (op + j + 1) := a2.2.2.2.1
  have cp := c_fld (op' := op + j) (want' := false) (x := nI (op + j)) (k := 3) (c_pop a2) (Or.inl ⟨rfl, rfl, rfl⟩)
  rw [ll] at cp
  obtain ⟨m2, b1, b2⟩ := c_end cp hs (by rw [flush_len]; omega) (by omega) (by omega)
  refine ⟨m2, ?_, b2⟩
  rw [cr_sig h hT hn ha, fm_X8_takeSign, if_pos hc, if_pos (his_65 m), a1', Option.bind_some, gI_65_2, Option.bind_some, h1, if_neg (nI_ne0 (by omega) (by omega)), Option.bind_some, nI_pred, mP_65_2, Option.bind_some, gI_65_3, Option.bind_some, sF_s, upd_n (by decide), h3, nI_pred, mP_65_3, Option.bind_some, if_pos (his_65 _), b1, Option.bind_some, ob2_some]
  exact b58_go (k := 1) (by decide) (by decide)
theorem cr_shut_no {P : List Int32} (h : cs m0 m out P op false) (hT : m0.1 17 = T) (hn : n ≤ 60) (ha : at' < n) (hc : T at' = 41) (hP : ∀ c, c ∈ P → 1 ≤ rk c) (hl : P.length + out.length ≤ 60) : ∃ m', CR n u (f + 1) at' m = some (nI at', mk m') ∧ cs m0 m' (flush P out) [] op false := by
  obtain ⟨m1, a1, a2⟩ := c_settle (k := 1) (by decide) P m out [] 5000 (by omega) (by rw [List.append_nil]; exact h) hP trivial hl (by simp; omega)
  have a1' : fm_X8_settle 65 1 (mk m) = some (mk m1) := a1
  have h1 : m1.2 65 2 = 0 := a2.2.1
  refine ⟨m1, ?_, a2⟩
  rw [cr_sig h hT hn ha, fm_X8_takeSign, if_pos hc, if_pos (his_65 m), a1', Option.bind_some, gI_65_2, Option.bind_some, h1, if_pos rfl, ob2_some, b58_no]
theorem cr_other (h : cs m0 m out stk op false) (hT : m0.1 17 = T) (hn : n ≤ 60) (ha : at' < n) (hc : ¬ T at' = 41) (hk : rk (T at') = 0) : CR n u (f + 1) at' m = some (nI at', mk m) := by
  obtain ⟨re, -⟩ := rk_eq (T at')
  rw [hk] at re
  rw [cr_sig h hT hn ha, fm_X8_takeSign, if_neg hc, re, if_pos (show nI 0 = 0 from rfl), ob2_some, b58_no]
end RL
