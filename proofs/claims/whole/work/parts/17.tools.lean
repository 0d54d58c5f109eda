/-! CODE TABLES: a list of operations by place, the bytes between them filled up -/
def qx_sws (P : Nat → qx_O → Prop) : Nat → List qx_O → Prop
  | _, [] => True
  | pc, op :: l => P pc op ∧ qx_sws P (pc + 1) l
theorem qx_sws.get {P : Nat → qx_O → Prop} : ∀ {pc : Nat} {l : List qx_O} {i : Nat} {op : qx_O}, qx_sws P pc l → l[i]? = some op → P (pc + i) op
  | _, [], _, _, _, h => by simp at h
  | pc, a :: l, 0, op, h, e => by
    simp at e
    subst e
    exact h.1
  | pc, a :: l, i + 1, op, h, e => by
    have := qx_sws.get h.2 (i := i) (op := op) (by simpa using e)
    rw [show pc + (i + 1) = pc + 1 + i by omega]
    exact this
theorem qx_sws.app {P : Nat → qx_O → Prop} : ∀ {pc pc' : Nat} {a b : List qx_O}, pc' = pc + a.length → qx_sws P pc a → qx_sws P pc' b → qx_sws P pc (a ++ b)
  | pc, pc', [], b, e, _, hb => by
    have : pc' = pc := by simpa using e
    subst this
    exact hb
  | pc, pc', x :: a, b, e, ha, hb => ⟨ha.1, qx_sws.app (by simp at e; omega) ha.2 hb⟩
def qx_pads (n : Nat) (l : List qx_O) : List qx_O := match n with
  | 0 => l
  | n + 1 => qx_no :: qx_pads n l
def qx_okP (P : Nat → qx_O → Prop) : Prop := ∀ pc, P pc qx_no
theorem qx_sws.pads {P : Nat → qx_O → Prop} (h0 : qx_okP P) : ∀ {n pc pc' : Nat} {l : List qx_O}, pc' = pc + n → qx_sws P pc' l → qx_sws P pc (qx_pads n l)
  | 0, pc, pc', l, e, h => by
    have : pc' = pc := by omega
    subst this
    exact h
  | n + 1, pc, pc', l, e, h => ⟨h0 pc, qx_sws.pads h0 (by omega) h⟩
theorem qx_c1 {P : Nat → qx_O → Prop} {pc : Nat} {op : qx_O} {l : List qx_O} (h : P pc op) (t : qx_sws P (pc + 1) l) : qx_sws P pc (op :: l) := ⟨h, t⟩
theorem qx_c2 {P : Nat → qx_O → Prop} (h0 : qx_okP P) {pc : Nat} {op : qx_O} {l : List qx_O} (h : P pc op) (t : qx_sws P (pc + 2) l) : qx_sws P pc (op :: qx_no :: l) := ⟨h, h0 _, t⟩
theorem qx_c3 {P : Nat → qx_O → Prop} (h0 : qx_okP P) {pc : Nat} {op : qx_O} {l : List qx_O} (h : P pc op) (t : qx_sws P (pc + 3) l) : qx_sws P pc (op :: qx_no :: qx_no :: l) := ⟨h, h0 _, h0 _, t⟩
theorem qx_cN {P : Nat → qx_O → Prop} (h0 : qx_okP P) {pc : Nat} (n : Nat) {op : qx_O} {l : List qx_O} (h : P pc op) (t : qx_sws P (pc + (n + 1)) l) : qx_sws P pc (op :: qx_pads n l) := ⟨h, qx_sws.pads h0 (by omega) t⟩
def qx_nth : List qx_O → Nat → Option qx_O
  | [], _ => none
  | a :: _, 0 => some a
  | _ :: l, n + 1 => qx_nth l n
theorem qx_nth_eq : ∀ (l : List qx_O) (n : Nat), qx_nth l n = l[n]?
  | [], _ => by simp [qx_nth]
  | a :: l, 0 => by simp [qx_nth]
  | a :: l, n + 1 => by simp [qx_nth, qx_nth_eq l n]
theorem qx_sws.len {P : Nat → qx_O → Prop} : ∀ {l : List qx_O}, qx_sws P 0 l → ∀ op ∈ l, ∃ pc, P pc op := by
  intro l h op ho
  obtain ⟨i, hi⟩ := List.mem_iff_getElem?.mp ho
  exact ⟨_, qx_sws.get h hi⟩
