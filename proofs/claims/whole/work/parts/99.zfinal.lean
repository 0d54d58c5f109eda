-- ===== end of PART A; then your names; then what follows =====
/-! THE CLAIM OUT OF ONE WALK OF THE LAW'S BODY. Your part is whole_start (and what it stands on); all else here is the same for every law, but numbers. -/
def R_law : String := "NetMenderLaw"
def lw_P (b : Addr) (xs : List Int32) (args : Array Value) (s : State) : Prop := args = #[.ref b] ∧ s.IntsAt b xs ∧ xs.length ≤ 3072 ∧ (Jvm.Cond.and given_1 narrow_1).before args s = true
def lw_Q (_ : Array Value) (s : State) (o : Outcome) (t : State) : Prop := o = .returned (some (.int 1)) ∧ Framed s o t [] 600000 7302250
def lw_Z (below : List Frame) (a : Array Value) (s : State) : State → Prop := fun t => ∃ o, t.status = .running ∧ Ended t below o ∧ lw_Q a s o t
/-- the law's own end, with 1 on the stack, nothing written that was there before, its room as the claim has it -/
theorem lw_ret {p : Program} {l : Launch} {e : Env} {s : State} {m : MethodId} {below : List Frame} {meth : Method} {c : Code} {b : Nat} (hx : p.tables.exec = Jvm.exec) (hb : c.code = code) (hr : meth.sig.returnType = ret) (hlocks : meth.locks = false) {pc : Nat} {H : Heap} {ls : Array Slot} (hdg : decode code pc = .ok (.ireturn, 1)) : W p l e room_1 s m #[Value.ref b] below meth c H [] 600000 7302250 (lw_Z below #[Value.ref b] s) (F0 m pc ls [.int 1]) := by
  intro T hT X
  obtain ⟨fs, hret, hrun, hended, hW, hframe⟩ := X.leave (v := some (.int 1)) (hlocks := hlocks) (fun h => by rw [hr] at h; cases h)
  have hmeth' : T.vm.method? m = some meth := X.method'
  refine ⟨T.setFrames fs, ?_, .returned (some (.int 1)), hrun, hended, rfl, ⟨_, rfl⟩, hW, hframe⟩
  jvm_step X.here [X.here.top, hx, hb, hdg, hmeth', hr, ret, narrow_b1]
  (try refine ⟨rfl, ?_⟩); (try refine ⟨rfl, ?_⟩)
  first | (intro acts; rw [hret _ acts rfl rfl rfl]) | rw [hret _ _ rfl rfl rfl]
  exact Steps.refl _
/-- what holds at the law's entry: the machine, the code, the tables' words (any of lw_tbl by 'hts w (by decide +kernel)'), the script of L ints xs at the cell b, what the Statement gives of the start (any of its parts by flat_of_before) -/
def lw_At (p : Program) (s : State) (m : MethodId) (meth : Method) (c : Code) (b L : Nat) (xs : Nat → Int32) : Prop :=
  p.tables.exec = Jvm.exec ∧ c.code = code ∧ meth.sig.returnType = ret ∧ c.maxLocals = 4 ∧ s.vm.findClass R_law = some m.cls ∧ (∀ w ∈ lw_tbl, w.before #[Value.ref b] s = true) ∧ va_X b L xs s s.heap ∧ b < s.heap.size ∧ meth.locks = false ∧ (Jvm.Cond.and given_1 narrow_1).before #[Value.ref b] s = true

theorem xb_bodies {b : Nat} {s : State} (hgv : (Jvm.Cond.and given_1 narrow_1).before #[Value.ref b] s = true) : ∃ t : Nat, (Term.static "NetMender$Voices" "BODIES" "[I").eval #[Value.ref b] s none [] s = some (.ref t) ∧ va_T .int t 28 (fun j => .int (xb_list.getD j 0)) (fun q : Nat => s.heap.size ≤ q) s s.heap := by
  have hs := flat_of_before _ hgv
  refine va_Tof (by decide) (hs _ (by decide +kernel)) (va_eqt (hs _ (by decide +kernel))) (fun j hj => ?_) (fun a h => Nat.not_le.mpr h)
  match j, hj with
  | 0, _ => exact va_eqt (hs (Jvm.Cond.eq (Jvm.Term.elem (Jvm.Term.static "NetMender$Voices" "BODIES" "[I") (Jvm.Term.int (0 : Int32))) (Jvm.Term.int (10 : Int32))) (by decide +kernel))
  | 1, _ => exact va_eqt (hs (Jvm.Cond.eq (Jvm.Term.elem (Jvm.Term.static "NetMender$Voices" "BODIES" "[I") (Jvm.Term.int (1 : Int32))) (Jvm.Term.int (11 : Int32))) (by decide +kernel))
  | 2, _ => exact va_eqt (hs (Jvm.Cond.eq (Jvm.Term.elem (Jvm.Term.static "NetMender$Voices" "BODIES" "[I") (Jvm.Term.int (2 : Int32))) (Jvm.Term.int (12 : Int32))) (by decide +kernel))
  | 3, _ => exact va_eqt (hs (Jvm.Cond.eq (Jvm.Term.elem (Jvm.Term.static "NetMender$Voices" "BODIES" "[I") (Jvm.Term.int (3 : Int32))) (Jvm.Term.int (13 : Int32))) (by decide +kernel))
  | 4, _ => exact va_eqt (hs (Jvm.Cond.eq (Jvm.Term.elem (Jvm.Term.static "NetMender$Voices" "BODIES" "[I") (Jvm.Term.int (4 : Int32))) (Jvm.Term.int (20 : Int32))) (by decide +kernel))
  | 5, _ => exact va_eqt (hs (Jvm.Cond.eq (Jvm.Term.elem (Jvm.Term.static "NetMender$Voices" "BODIES" "[I") (Jvm.Term.int (5 : Int32))) (Jvm.Term.int (0 : Int32))) (by decide +kernel))
  | 6, _ => exact va_eqt (hs (Jvm.Cond.eq (Jvm.Term.elem (Jvm.Term.static "NetMender$Voices" "BODIES" "[I") (Jvm.Term.int (6 : Int32))) (Jvm.Term.int (0 : Int32))) (by decide +kernel))
  | 7, _ => exact va_eqt (hs (Jvm.Cond.eq (Jvm.Term.elem (Jvm.Term.static "NetMender$Voices" "BODIES" "[I") (Jvm.Term.int (7 : Int32))) (Jvm.Term.int (21 : Int32))) (by decide +kernel))
  | 8, _ => exact va_eqt (hs (Jvm.Cond.eq (Jvm.Term.elem (Jvm.Term.static "NetMender$Voices" "BODIES" "[I") (Jvm.Term.int (8 : Int32))) (Jvm.Term.int (0 : Int32))) (by decide +kernel))
  | 9, _ => exact va_eqt (hs (Jvm.Cond.eq (Jvm.Term.elem (Jvm.Term.static "NetMender$Voices" "BODIES" "[I") (Jvm.Term.int (9 : Int32))) (Jvm.Term.int (30 : Int32))) (by decide +kernel))
  | 10, _ => exact va_eqt (hs (Jvm.Cond.eq (Jvm.Term.elem (Jvm.Term.static "NetMender$Voices" "BODIES" "[I") (Jvm.Term.int (10 : Int32))) (Jvm.Term.int (0 : Int32))) (by decide +kernel))
  | 11, _ => exact va_eqt (hs (Jvm.Cond.eq (Jvm.Term.elem (Jvm.Term.static "NetMender$Voices" "BODIES" "[I") (Jvm.Term.int (11 : Int32))) (Jvm.Term.int (0 : Int32))) (by decide +kernel))
  | 12, _ => exact va_eqt (hs (Jvm.Cond.eq (Jvm.Term.elem (Jvm.Term.static "NetMender$Voices" "BODIES" "[I") (Jvm.Term.int (12 : Int32))) (Jvm.Term.int (0 : Int32))) (by decide +kernel))
  | 13, _ => exact va_eqt (hs (Jvm.Cond.eq (Jvm.Term.elem (Jvm.Term.static "NetMender$Voices" "BODIES" "[I") (Jvm.Term.int (13 : Int32))) (Jvm.Term.int (0 : Int32))) (by decide +kernel))
  | 14, _ => exact va_eqt (hs (Jvm.Cond.eq (Jvm.Term.elem (Jvm.Term.static "NetMender$Voices" "BODIES" "[I") (Jvm.Term.int (14 : Int32))) (Jvm.Term.int (40 : Int32))) (by decide +kernel))
  | 15, _ => exact va_eqt (hs (Jvm.Cond.eq (Jvm.Term.elem (Jvm.Term.static "NetMender$Voices" "BODIES" "[I") (Jvm.Term.int (15 : Int32))) (Jvm.Term.int (0 : Int32))) (by decide +kernel))
  | 16, _ => exact va_eqt (hs (Jvm.Cond.eq (Jvm.Term.elem (Jvm.Term.static "NetMender$Voices" "BODIES" "[I") (Jvm.Term.int (16 : Int32))) (Jvm.Term.int (50 : Int32))) (by decide +kernel))
  | 17, _ => exact va_eqt (hs (Jvm.Cond.eq (Jvm.Term.elem (Jvm.Term.static "NetMender$Voices" "BODIES" "[I") (Jvm.Term.int (17 : Int32))) (Jvm.Term.int (0 : Int32))) (by decide +kernel))
  | 18, _ => exact va_eqt (hs (Jvm.Cond.eq (Jvm.Term.elem (Jvm.Term.static "NetMender$Voices" "BODIES" "[I") (Jvm.Term.int (18 : Int32))) (Jvm.Term.int (51 : Int32))) (by decide +kernel))
  | 19, _ => exact va_eqt (hs (Jvm.Cond.eq (Jvm.Term.elem (Jvm.Term.static "NetMender$Voices" "BODIES" "[I") (Jvm.Term.int (19 : Int32))) (Jvm.Term.int (0 : Int32))) (by decide +kernel))
  | 20, _ => exact va_eqt (hs (Jvm.Cond.eq (Jvm.Term.elem (Jvm.Term.static "NetMender$Voices" "BODIES" "[I") (Jvm.Term.int (20 : Int32))) (Jvm.Term.int (0 : Int32))) (by decide +kernel))
  | 21, _ => exact va_eqt (hs (Jvm.Cond.eq (Jvm.Term.elem (Jvm.Term.static "NetMender$Voices" "BODIES" "[I") (Jvm.Term.int (21 : Int32))) (Jvm.Term.int (60 : Int32))) (by decide +kernel))
  | 22, _ => exact va_eqt (hs (Jvm.Cond.eq (Jvm.Term.elem (Jvm.Term.static "NetMender$Voices" "BODIES" "[I") (Jvm.Term.int (22 : Int32))) (Jvm.Term.int (0 : Int32))) (by decide +kernel))
  | 23, _ => exact va_eqt (hs (Jvm.Cond.eq (Jvm.Term.elem (Jvm.Term.static "NetMender$Voices" "BODIES" "[I") (Jvm.Term.int (23 : Int32))) (Jvm.Term.int (0 : Int32))) (by decide +kernel))
  | 24, _ => exact va_eqt (hs (Jvm.Cond.eq (Jvm.Term.elem (Jvm.Term.static "NetMender$Voices" "BODIES" "[I") (Jvm.Term.int (24 : Int32))) (Jvm.Term.int (70 : Int32))) (by decide +kernel))
  | 25, _ => exact va_eqt (hs (Jvm.Cond.eq (Jvm.Term.elem (Jvm.Term.static "NetMender$Voices" "BODIES" "[I") (Jvm.Term.int (25 : Int32))) (Jvm.Term.int (71 : Int32))) (by decide +kernel))
  | 26, _ => exact va_eqt (hs (Jvm.Cond.eq (Jvm.Term.elem (Jvm.Term.static "NetMender$Voices" "BODIES" "[I") (Jvm.Term.int (26 : Int32))) (Jvm.Term.int (0 : Int32))) (by decide +kernel))
  | 27, _ => exact va_eqt (hs (Jvm.Cond.eq (Jvm.Term.elem (Jvm.Term.static "NetMender$Voices" "BODIES" "[I") (Jvm.Term.int (27 : Int32))) (Jvm.Term.int (0 : Int32))) (by decide +kernel))
  | n + 28, h => exact absurd h (by omega)
set_option maxHeartbeats 4000000 in
theorem whole_start {p : Program} {e : Env} {s : State} {m : MethodId} {below : List Frame} {meth : Method} {c : Code} (l : Launch) (hflags : l.flags = flags0) {b L : Nat} {xs : Nat → Int32} (hL : L ≤ 3072) (C0 : lw_At p s m meth c b L xs) : W p l e room_1 s m #[Value.ref b] below meth c s.heap [] 0 0 (lw_Z below #[Value.ref b] s) (entryFrame m ([Value.ref b] : List Value).toArray 4) := by
  obtain ⟨hx, hb, hr, hml, hown, hts, hX, hbl, hlocks, hgv⟩ := id C0
  obtain ⟨c0, iS0, hKn0⟩ := u_known (C := RX1) (T := TX1) (N := 5) (n := 5) hts (fun w h => xw_sub w (wl_X1 w h)) (hts _ (xw_sub _ ww_166))
  obtain ⟨c1, iS1, hKn1⟩ := u_known (C := RX3) (T := TX3) (N := 3) (n := 3) hts (fun w h => xw_sub w (wl_X3 w h)) (hts _ (xw_sub _ ww_37))
  obtain ⟨c2, iS2, hKn2⟩ := u_known (C := RX4) (T := TX4) (N := 1) (n := 1) hts (fun w h => xw_sub w (wl_X4 w h)) (hts _ (xw_sub _ ww_155))
  obtain ⟨c3, iS3, hKn3⟩ := u_known (C := RX5) (T := TX5) (N := 11) (n := 11) hts (fun w h => xw_sub w (wl_X5 w h)) (hts _ (xw_sub _ ww_31))
  obtain ⟨c4, iS4, hKn4⟩ := u_known (C := RX6) (T := TX6) (N := 8) (n := 8) hts (fun w h => xw_sub w (wl_X6 w h)) (hts _ (xw_sub _ ww_25))
  obtain ⟨c5, iS5, hKn5⟩ := u_known (C := RX7) (T := TX7) (N := 3) (n := 3) hts (fun w h => xw_sub w (wl_X7 w h)) (hts _ (xw_sub _ ww_219))
  obtain ⟨c6, iS6, hKn6⟩ := u_known (C := RX8) (T := TX8) (N := 5) (n := 5) hts (fun w h => xw_sub w (wl_X8 w h)) (hts _ (xw_sub _ ww_130))
  obtain ⟨c7, iS7, hKn7⟩ := u_known (C := RX9) (T := TX9) (N := 6) (n := 6) hts (fun w h => xw_sub w (wl_X9 w h)) (hts _ (xw_sub _ ww_190))
  obtain ⟨c8, iS8, hKn8⟩ := u_known (C := RX10) (T := TX10) (N := 11) (n := 11) hts (fun w h => xw_sub w (wl_X10 w h)) (hts _ (xw_sub _ ww_17))
  obtain ⟨c9, iS9, hKn9⟩ := u_known (C := RX11) (T := TX11) (N := 23) (n := 23) hts (fun w h => xw_sub w (wl_X11 w h)) (hts _ (xw_sub _ ww_762))
  obtain ⟨dC, dI, hKc⟩ : ∃ (dC : Nat → ClassId) (dI : Nat → Nat → Nat), qx_KC vwCl (dC, dI) s := by
    refine ⟨fun k => ([c0, c1, c2, c3, c4, c5, c6, c7, c8, c9] : List ClassId).getD k 0, fun k => ([iS0, iS1, iS2, iS3, iS4, iS5, iS6, iS7, iS8, iS9] : List (Nat → Nat)).getD k (fun _ => 0), ?_⟩
    intro k q hq
    match k, hq with
    | 0, hq => cases hq; exact hKn0
    | 1, hq => cases hq; exact hKn1
    | 2, hq => cases hq; exact hKn2
    | 3, hq => cases hq; exact hKn3
    | 4, hq => cases hq; exact hKn4
    | 5, hq => cases hq; exact hKn5
    | 6, hq => cases hq; exact hKn6
    | 7, hq => cases hq; exact hKn7
    | 8, hq => cases hq; exact hKn8
    | 9, hq => cases hq; exact hKn9
    | k + 10, hq => simp [vwCl] at hq
  obtain ⟨t, ht, hT⟩ := xb_bodies hgv
  have hZ : va_Z "NetMender$Voices" "BODIES" "[I" (.ref t) (fun q : Nat => s.heap.size ≤ q) s s.heap := va_Zref (hts _ (List.mem_append_right _ (List.mem_of_getElem? (i := 675) (by decide +kernel)))) (hts _ (xw_sub _ ww_8)) ht (fun a h => Nat.not_le.mpr h)
  have hTs : va_T .int b L (fun i => .int (xs i)) (fun q : Nat => s.heap.size ≤ q) s s.heap := by
    obtain ⟨scr, h1, h2, h3, h4, h5⟩ := hX
    exact ⟨scr, h1, h2, h3, by omega, by rw [h4], h5, Nat.not_le.mpr hbl⟩
  obtain ⟨H', hf, hlen, hwt⟩ := law_pure L hL xs
  have hSF : qx_SF "NetMender$Voices" "BODIES" "[I" (xb_st L xs) (fun w => if w = 0 then t else b) (fun q : Nat => s.heap.size ≤ q) s s.heap := by
    refine ⟨fun w n f hw => ?_, hZ⟩
    unfold xb_st at hw
    by_cases h0 : w = 0
    · subst h0
      simp only [if_true, Option.some.injEq, Prod.mk.injEq] at hw
      obtain ⟨rfl, rfl⟩ := hw
      exact hT
    · rw [if_neg h0] at hw
      by_cases h1 : w = 1
      · subst h1
        simp only [if_true, Option.some.injEq, Prod.mk.injEq] at hw
        obtain ⟨rfl, rfl⟩ := hw
        show va_T .int (if (1 : UInt32) = 0 then t else b) L _ _ s s.heap
        rw [if_neg (by decide)]
        exact hTs
      · rw [if_neg h1] at hw
        cases hw
  have hF : qx_F vwCl "NetMender$Voices" "BODIES" "[I" (xb_st L xs) xw_ALL R_law false code 4 60 lw_tbl (dC, dI) (fun w => if w = 0 then t else b) (fun q : Nat => s.heap.size ≤ q) p room_1 s m #[Value.ref b] meth c 0 0 H'.length (qx_wt H') :=
    ⟨⟨hx, hb, hml, hown, hts⟩, xw_sub, hKc, hSF, (fun h => nomatch h), by decide, by decide, (show H'.length - 0 ≤ 600000 by omega), (show qx_wt H' - 0 ≤ 7302250 by omega), fun q h => h⟩
  have hρ : qx_Rt vwCl "NetMender$Sheet" code (some .boolean) (dC, dI) (fun w => if w = 0 then t else b) (fun q : Nat => s.heap.size ≤ q) p l e room_1 s m #[Value.ref b] below meth c 0 0 (fun _ => 0) (fun _ => 0) (lw_Z below #[Value.ref b] s) (fun v1 H1 => v1 = some (.int 1) ∧ H1 = H') := by
    rintro v1 H1 ⟨rfl, rfl⟩ ad cs HH locs arr pc stk hI hret
    obtain ⟨rfl, hret⟩ := hret
    have hd : decode code pc = .ok (.ireturn, 1) := by
      rcases hret with h | h | h
      · exact h.1
      · obtain ⟨_, i, hi, _⟩ := h
        cases hi
      · obtain ⟨_, a, C, hi, _⟩ := h
        cases hi
    refine va_forget (fun q hq => hI.2.2.2.2 q hq) ?_
    refine W.widen (k := 600000) (n := 7302250) (by omega) (by omega) ?_
    exact lw_ret hx hb hr hlocks hd
  have hV := tb_L_law_0 (st := xb_st L xs) (d := 60) (R := fun v1 H1 => v1 = some (.int 1) ∧ H1 = H') (by omega) ⟨rfl, rfl⟩ [] hf
  have hP := qx_frame (cl := vwCl) (isI := false) (ad0 := fun _ => 0) (cs0 := fun _ => 0) (xm_ok (xb_st L xs) 60) hF (fun op h => by obtain ⟨_, z⟩ := (xs233 (xb_st L xs)).len op h; exact z.2) (fun pc op h => by have z := ((xs233 (xb_st L xs)).get h).1; rw [Nat.zero_add] at z; exact z) hρ (fun v1 H1 z => by rw [z.2]; exact ⟨Nat.le_refl _, Nat.le_refl _⟩) hV
  have hl := lv_entry ([.ref b]) (n := 4) (Nat.le_of_ble_eq_true rfl)
  have hg := hP.2 (fun _ => 0) (fun _ => 0) s.heap [] ((lg_sl ([.ref b]) ++ List.replicate (4 - (lg_sl ([.ref b])).length) Slot.unset).toArray) ⟨⟨Nat.le_refl _, Nat.le_refl _, fun _ h => absurd h (by omega), fun _ => ⟨rfl, rfl⟩⟩, ⟨fun k q h => by simp [qx_ws] at h, ⟨fun i j p q h => by simp [qx_ws] at h, fun k q h => by simp [qx_ws] at h⟩, fun i c ty h => by simp at h⟩, va_S.rf⟩ (by
    have h2 := qx_L.entry (sd := fun w => if w = 0 then t else b) (ad := fun _ => 0) (as := [.float 1]) (n := 4) (by decide)
    exact h2)
  rw [lg_entry_eq]
  exact hg
-- ===== YOUR PART ENDS =====
set_option maxHeartbeats 4000000 in
theorem lw_walk (l : Launch) (hflags : l.flags = flags0) (b : Addr) (xs : List Int32) : MetFree l x (headSpec (Jvm.Cond.code x code maxLocals ret :: tables_1) room_1) (lw_P b xs) (fun _ _ _ _ _ => True) lw_Q := by
  refine MetFree.of_bodyS (code := code) (maxLocals := maxLocals) (ret := ret) (by decide) ?_ ?_
  · intro args s m h hn
    obtain ⟨meth, c, h1, h2, h3, h4, h5, h6, -, -⟩ := Cond.code_spec hn (atoms_spec (ws := Jvm.Cond.code x code maxLocals ret :: tables_1) h _ List.mem_cons_self)
    exact ⟨meth, c, h1, h2, h3, h4, h5, h6⟩
  · intro p e s m args below meth c s₁ B hml0 hP _
    obtain ⟨rfl, hx, hbd, hgv⟩ := hP
    obtain ⟨scr, harrAt, hlist, hof, hsmall⟩ := hx
    obtain ⟨hcb, hkn, -, -⟩ := State.arrayAt?_spec harrAt
    have hown : s.vm.findClass R_law = some m.cls := findClass_of_methodNamed B.named
    have hts0 : ∀ c ∈ (Jvm.Cond.code x code maxLocals ret :: tables_1), c.before #[Value.ref b] s = true := atoms_spec (ws := Jvm.Cond.code x code maxLocals ret :: tables_1) B.pre
    have hts : ∀ w ∈ lw_tbl, w.before #[Value.ref b] s = true := k2_hts_sels lw_privs (fun w hw => hts0 w (List.mem_cons_of_mem _ hw)) lw_privs_ok
    have hml : c.maxLocals = 4 := B.maxLocals_eq (hts0 _ List.mem_cons_self)
    have X₀ : Stand p l e room_1 s m #[Value.ref b] below meth c s₁ [] 0 0 := Stand.of_body B
    have hh0 : s₁.heap = s.heap := by rw [B.state]; rfl
    have hsz : scr.slots.size = xs.length := by rw [← Array.length_toList, hlist, List.length_map]
    have hval : ∀ j : Nat, j < xs.length → scr.slots[j]? = some (.int (xs.getD j 0)) := fun j hj => by
      rw [← Array.getElem?_toList, hlist]
      simp [hj]
    have hbl : b < s.heap.size := (Array.getElem?_eq_some_iff.mp hcb).1
    have hX : va_X b xs.length (fun j => xs.getD j 0) s s.heap := ⟨scr, hcb, hof, hkn, hsz, hval⟩
    have K : W p l e room_1 s m #[Value.ref b] below meth c s₁.heap [] 0 0 (lw_Z below #[Value.ref b] s) (entryFrame m ([Value.ref b] : List Value).toArray 4) := by
      rw [hh0]
      exact whole_start l hflags hbd ⟨B.exec, B.bytes, B.returns, hml, hown, hts, hX, hbl, B.notSynchronized, hgv⟩
    obtain ⟨t, a1, o, b1, b2, b3⟩ := K s₁ rfl X₀
    exact ⟨t, o, a1, b1, b2, b3⟩
theorem lw_pre_spec {args : Array Value} {s : State} (h : (Jvm.Cond.and given_1 narrow_1).before args s = true) (hr : rest_1_c.before args s = true) : ∃ (b : Addr) (xs : List Int32), lw_P b xs args s := by
  have hs := flat_of_before _ h
  have hq := flat_of_before _ hr
  have hc : (Cond.count 1).before args s = true := hs _ (by decide +kernel)
  have harr : (Cond.arrayOf (.arg 0) .int).before args s = true := hs _ (by decide +kernel)
  have hle : (Cond.le (.length (.arg 0)) (.int 3072)).before args s = true := hs _ (by decide +kernel)
  have hlen : (Cond.isInt (.length (.arg 0))).before args s = true := hq _ (by decide +kernel)
  have hall : (Cond.all (.arg 0) (.isInt (.elem (.arg 0) (.index 0)))).before args s = true := hq _ (by decide +kernel)
  obtain ⟨b, xs, hb, hx⟩ := State.ints_of_pre rfl harr hlen hall
  have hsm : xs.length < 2 ^ 31 := hx.choose_spec.2.2.2
  have hev : (Term.length (.arg 0)).eval args s none [] s = some (.int xs.length.toInt32) := hx.length_eval hb
  have hv := Cond.le_ints hev (show (Term.int 3072).eval args s none [] s = some (.int 3072) from rfl)
  have hd : xs.length.toInt32 ≤ 3072 := by
    simpa [Cond.before, Cond.holds, hv] using hle
  have hN : xs.length ≤ 3072 := (Int32.ofNat_le_ofNat hsm (by decide)).mp (show Int32.ofNat xs.length ≤ Int32.ofNat 3072 from hd)
  exact ⟨b, xs, Cond.one_arg hc (show args[0]? = some (.ref b) from hb), hx, hN, h⟩
theorem lw_comes (l : Launch) (hflags : l.flags = flags0) : Comes l x (Jvm.Cond.code x code maxLocals ret :: tables_1) room_1 (fun tb e args s => Calls_1 tb e args s ∧ rest_1 tb e args s ∧ Pre_1 tb e args s)
    (fun _ _ args s o t => lw_Q args s o t) := by
  intro p e ha hc hk s m args below hf hfit hheap happ hpre
  obtain ⟨b, xs, hP⟩ := lw_pre_spec hpre.2.2 hpre.2.1
  obtain ⟨k, o, h1, h2, h3, hQ⟩ := lw_walk l hflags b xs p e ha hc hk s m args below hf ((Spec.applies_iff_loose hf).mp happ).1 hP trivial
  exact ⟨k, o, h1, h2, h3, hQ⟩
theorem lw_frame {s t : State} {o : Outcome} {args : Array Value} (h : Framed s o t [] 600000 7302250) :
    Framed s o t (fieldLocs frame_1_writes args s ++ arrayLocs frame_1_arrays args s ++ staticLocs frame_1_statics s) 600000 7302250 := h
theorem lw_limb (L : Cond) (hL : ∀ (args : Array Value) (s t : State), L.after args s (.returned (some (.int 1))) t = true) :
    ArmFor flags0 classFile x code maxLocals ret World_1 tables_1 room_1 Calls_1 rest_1 Pre_1
      (fun tb e a s o t => postC L tb e a s o t ∧ Framed s o t (fieldLocs frame_1_writes a s ++ arrayLocs frame_1_arrays a s ++ staticLocs frame_1_statics s) 600000 7302250) := by
  intro l hflags _ _ p e ha hc hk s m args below hf hfit hheap happ hpre
  obtain ⟨k, o, h1, h2, h3, rfl, hF⟩ := lw_comes l hflags p e ha hc hk s m args below hf hfit hheap happ hpre
  exact ⟨k, _, h1, h2, h3, hL args s _, lw_frame hF⟩
theorem i_vc : Claimed_1_1 ∧ Claimed_1_2 := ⟨lw_limb limb_1_1 (fun args s t => by simp [limb_1_1, Cond.after, Cond.holds, Cond.value]), lw_limb limb_1_2 (fun args s t => Cond.after_iff.mpr (by
  first | (rw [show limb_1_2 = Cond.eq .result (.int 1) from rfl, Cond.eq_ints (x := 1) (y := 1) rfl rfl]; simp; done) | (simp [limb_1_2, Cond.value, Term.eval]; done)))⟩

