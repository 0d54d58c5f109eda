/-! THE WAY: FLEURY -/
def kb (k : Nat) : Int32 := ji_shl 1 (nI k)
theorem bt_kb {k i : Nat} (hk : k < 32) (hi : i < 32) : bt (kb k) i = true ↔ i = k := bt_shl1' hk hi
theorem kb_lo {k : Nat} (hk : k < 20) : lo 31 (kb k) := shl_lo (by omega)
def clos (F B : Int32) : Prop := ∀ t, t < 31 → bt F t = true → tch B t = true → bt B (kL t) = true ∧ bt B (kR t) = true
theorem clo_clos {F r : Int32} (h : lo 31 r) : clos F (clo eJ F r) := fun t ht hx hc => clo_tch h ht hx hc
theorem tch_iff {B : Int32} {t : Nat} : tch B t = true ↔ bt B (kL t) = true ∨ bt B (kR t) = true := by unfold tch; rw [Bool.or_eq_true]
/-- from a start outside a closed set the closure stays outside -/
theorem clo_sep {F r B : Int32} (hr : lo 31 r) (hB : clos F B) (hs : ∀ i, i < 32 → bt r i = true → bt B i = false) : ∀ i, i < 32 → bt (clo eJ F r) i = true → bt B i = false := by
  have hD : ∀ i, i < 32 → bt (clo eJ F r &&& (B ^^^ (-1))) i = (bt (clo eJ F r) i && !bt B i) := fun i hi => by rw [b_and, bt_not _ hi]
  have m := clo_min (x := F) (r := r) (D := clo eJ F r &&& (B ^^^ (-1))) (fun i hi q => by rw [hD i hi, clo_from i hi q, hs i hi q]; rfl) (fun t ht hx hc => by
    have k1 := kL_lt t ht
    have k2 := kR_lt t ht
    rw [hD _ (by omega), hD _ (by omega)]
    rw [tch_iff, hD _ (by omega), hD _ (by omega), Bool.and_eq_true, Bool.and_eq_true] at hc
    have c : bt (clo eJ F r) (kL t) = true ∧ bt (clo eJ F r) (kR t) = true := clo_tch hr ht hx (tch_iff.mpr (hc.imp (fun q => q.1) (fun q => q.1)))
    have nb : tch B t = false := by
      cases q : tch B t
      · rfl
      · obtain ⟨b1, b2⟩ := hB t ht hx q
        rcases hc with q2 | q2
        · rw [b1] at q2; exact absurd q2.2 (by decide)
        · rw [b2] at q2; exact absurd q2.2 (by decide)
    unfold tch at nb
    rw [Bool.or_eq_false_iff] at nb
    rw [c.1, c.2, nb.1, nb.2]
    exact ⟨rfl, rfl⟩)
  intro i hi q
  have := m i hi q
  rw [hD i hi, Bool.and_eq_true] at this
  have := this.2
  cases w : bt B i
  · rfl
  · rw [w] at this; exact absurd this (by decide)
def conF (F : Int32) (k : Nat) : Prop := ∀ t, t < 31 → bt F t = true → tch (clo eJ F (kb k)) t = true
theorem deg_pos {F : Int32} {k : Nat} : 0 < deg F k ↔ ∃ t, t < 31 ∧ bt F t = true ∧ at_ k t = true := by
  constructor
  · intro h
    apply Classical.byContradiction
    intro q
    have : deg F k = 0 := cnt_0 31 fun t ht => by
      cases w : (bt F t && at_ k t)
      · rfl
      · rw [Bool.and_eq_true] at w
        exact absurd ⟨t, ht, w.1, w.2⟩ q
    omega
  · rintro ⟨t, ht, h1, h2⟩
    exact cnt_pos (i := t) (by rw [h1, h2]; rfl) 31 ht
theorem at_end {k t : Nat} : at_ k t = true ↔ kL t = k ∨ kR t = k := by unfold at_; simp
theorem eJ_bt {t i : Nat} (ht : t < 31) (hi : i < 32) : bt (eJ t) i = true ↔ kL t = i ∨ kR t = i := by
  unfold eJ
  rw [bt_ends t ht i hi]
  exact at_end
theorem con_iff {F : Int32} {k : Nat} (h0 : ¬ F = 0) (hl : lo 31 F) (hk : k < 20) : (hol F = F ∧ 0 < deg F k) ↔ conF F k := by
  obtain ⟨t1, t2, -⟩ := lst_ok h0 hl
  have k1 := kL_lt _ t1
  have k2 := kR_lt _ t1
  have cK := clo_clos (F := F) (kb_lo hk)
  have cT := clo_clos (F := F) (r := eJ (lst F)) (eJ_lo t1)
  have inK : bt (clo eJ F (kb k)) k = true := clo_from k (by omega) ((bt_kb (by omega) (by omega)).mpr rfl)
  constructor
  · rintro ⟨e, d⟩ t ht hx
    obtain ⟨u, u1, u2, u3⟩ := deg_pos.mp d
    have tc : ∀ t, t < 31 → bt F t = true → tch (clo eJ F (eJ (lst F))) t = true := fun t ht hx => by
      have : bt (hol F) t = true := by rw [e]; exact hx
      unfold hol at this
      rw [bt_thr ht, Bool.and_eq_true] at this
      exact this.2
    have kin : bt (clo eJ F (eJ (lst F))) k = true := by
      obtain ⟨a, b⟩ := cT u u1 u2 (tc u u1 u2)
      rcases at_end.mp u3 with q | q
      · rw [← q]; exact a
      · rw [← q]; exact b
    have st : sub (eJ (lst F)) (clo eJ F (kb k)) := by
      cases w : tch (clo eJ F (kb k)) (lst F)
      · exfalso
        unfold tch at w
        rw [Bool.or_eq_false_iff] at w
        have := clo_sep (F := F) (r := eJ (lst F)) (eJ_lo t1) cK (fun i hi q => by
          rcases (eJ_bt t1 hi).mp q with z | z
          · rw [← z]; exact w.1
          · rw [← z]; exact w.2) k (by omega) kin
        rw [inK] at this
        cases this
      · obtain ⟨a, b⟩ := cK _ t1 t2 w
        intro i hi q
        rcases (eJ_bt t1 hi).mp q with z | z
        · rw [← z]; exact a
        · rw [← z]; exact b
    have sb := clo_min (x := F) st cK
    have h1 := kL_lt t ht
    have h2 := kR_lt t ht
    rcases tch_iff.mp (tc t ht hx) with q | q
    · exact tch_iff.mpr (Or.inl (sb _ (by omega) q))
    · exact tch_iff.mpr (Or.inr (sb _ (by omega) q))
  · intro c
    have kin : bt (clo eJ F (eJ (lst F))) k = true := by
      cases w : bt (clo eJ F (eJ (lst F))) k
      · exfalso
        have sp := clo_sep (F := F) (r := kb k) (kb_lo hk) cT (fun i hi q => by rw [(bt_kb (by omega) hi).mp q]; exact w)
        have a := (cK _ t1 t2 (c _ t1 t2)).1
        have b := sp (kL (lst F)) (by omega) a
        have d : bt (clo eJ F (eJ (lst F))) (kL (lst F)) = true := clo_from _ (by omega) ((eJ_bt t1 (by omega)).mpr (Or.inl rfl))
        rw [d] at b
        cases b
      · rfl
    have sb : sub (clo eJ F (kb k)) (clo eJ F (eJ (lst F))) := clo_min (x := F) (fun i hi q => by rw [(bt_kb (by omega) hi).mp q]; exact kin) cT
    refine ⟨lo_ext (n := 31) (lo_thr _ _) hl fun t ht ht2 => ?_, ?_⟩
    · show bt (thr F (clo eJ F (eJ (lst F)))) t = bt F t
      rw [bt_thr ht]
      cases w : bt F t
      · rfl
      · have h1 := kL_lt t ht
        have h2 := kR_lt t ht
        rw [Bool.true_and, tch_iff]
        exact (tch_iff.mp (c t ht w)).imp (sb _ (by omega)) (sb _ (by omega))
    · apply Classical.byContradiction
      intro nd
      have none_ : ∀ t, t < 31 → bt F t = true → at_ k t = false := fun t ht hx => by
        cases w : at_ k t
        · rfl
        · exact absurd (deg_pos.mpr ⟨t, ht, hx, w⟩) nd
      have sb2 : sub (clo eJ F (kb k)) (kb k) := clo_min (x := F) sub.rf fun t ht hx hc => by
        exfalso
        have h1 := kL_lt t ht
        have h2 := kR_lt t ht
        have n := none_ t ht hx
        rcases tch_iff.mp hc with q | q
        · rw [bt_kb (by omega) (by omega)] at q
          rw [at_end.mpr (Or.inl q)] at n; cases n
        · rw [bt_kb (by omega) (by omega)] at q
          rw [at_end.mpr (Or.inr q)] at n; cases n
      have n := none_ _ t1 t2
      rcases tch_iff.mp (c _ t1 t2) with q | q
      · have := (bt_kb (by omega) (by omega)).mp (sb2 _ (by omega) q)
        rw [at_end.mpr (Or.inl this)] at n; cases n
      · have := (bt_kb (by omega) (by omega)).mp (sb2 _ (by omega) q)
        rw [at_end.mpr (Or.inr this)] at n; cases n
/-- a thread taken away -/
def sbt (F : Int32) (t : Nat) : Int32 := F &&& (ji_shl 1 (nI t) ^^^ (-1))
theorem bt_sbt {F : Int32} {t u : Nat} (ht : t < 31) (hu : u < 32) : bt (sbt F t) u = (bt F u && !decide (u = t)) := by
  unfold sbt
  rw [b_and, bt_not _ hu, bt_shl1 (by omega) hu]
theorem sbt_lo {F : Int32} {t : Nat} (hl : lo 31 F) (ht : t < 31) : lo 31 (sbt F t) := fun i hi h => by rw [bt_sbt ht hi, hl i hi h]; rfl
theorem sbt_cnt {F : Int32} {t : Nat} (ht : t < 31) (hx : bt F t = true) {q : Nat → Bool} : cnt (fun u => bt (sbt F t) u && q u) 31 + (if q t then 1 else 0) = cnt (fun u => bt F u && q u) 31 := by
  have e : cnt (fun u => bt (sbt F t) u && q u) 31 = cnt (fun u => (bt F u && q u) && !(decide (u = t) && q u)) 31 := cnt_cong fun u hu => by
    rw [bt_sbt ht (by omega)]
    cases bt F u <;> cases q u <;> cases decide (u = t) <;> rfl
  have c1 : cnt (fun u => decide (u = t) && q u) 31 = if q t then 1 else 0 := by
    have key : ∀ n, cnt (fun u => decide (u = t) && q u) n = if t < n ∧ q t = true then 1 else 0 := by
      intro n
      induction n with
      | zero => rw [if_neg (by omega)]; rfl
      | succ n ih =>
        rw [cnt, ih]
        by_cases e : n = t
        · subst e
          rw [if_neg (by omega)]
          by_cases w : q n = true
          · rw [if_pos (show n < n + 1 ∧ q n = true from ⟨by omega, w⟩)]; simp [w]
          · rw [if_neg (show ¬ (n < n + 1 ∧ q n = true) from fun z => w z.2)]; simp [w]
        · simp [e]
          by_cases w : t < n ∧ q t = true
          · rw [if_pos w, if_pos ⟨by omega, w.2⟩]
          · rw [if_neg w, if_neg fun z => w ⟨by omega, z.2⟩]
    rw [key 31]
    by_cases w : q t = true
    · rw [if_pos ⟨ht, w⟩, if_pos w]
    · rw [if_neg (fun z => w z.2), if_neg w]
  rw [e, ← c1]
  exact cnt_diff 31 fun u hu z => by
    rw [Bool.and_eq_true, decide_eq_true_iff] at z
    rw [z.1, hx, ← z.1, z.2]; rfl
theorem sbt_deg {F : Int32} {t : Nat} (ht : t < 31) (hx : bt F t = true) (k : Nat) : deg (sbt F t) k + (if at_ k t then 1 else 0) = deg F k := sbt_cnt ht hx
def pod (F : Int32) (k : Nat) : Bool := decide (deg F k % 2 = 1)
def oth (v t : Nat) : Nat := if kL t = v then kR t else kL t
theorem oth_ok : ∀ t, t < 31 → ∀ v, v < 20 → at_ v t = true → oth v t < 20 ∧ oth v t ≠ v ∧ fm_X11_between (nI v) (nI (oth v t)) = nI t ∧ ∀ k, k < 20 → (at_ k t = (decide (k = v) ^^ decide (k = oth v t))) := by decide +kernel
theorem bw_oth : ∀ v, v < 20 → ∀ w, w < 20 → ∀ t, t < 31 → fm_X11_between (nI v) (nI w) = nI t → at_ v t = true ∧ w = oth v t := by decide +kernel
theorem pod_sbt {F : Int32} {t v : Nat} (ht : t < 31) (hx : bt F t = true) (hv : v < 20) (ha : at_ v t = true) {k : Nat} (hk : k < 20) : pod (sbt F t) k = ((pod F k ^^ decide (k = v)) ^^ decide (k = oth v t)) := by
  have d := sbt_deg ht hx k
  have a := (oth_ok t ht v hv ha).2.2.2 k hk
  unfold pod
  rw [← d, a]
  rcases Nat.mod_two_eq_zero_or_one (deg (sbt F t) k) with q | q <;> cases decide (k = v) <;> cases decide (k = oth v t) <;> simp [q, Nat.add_mod]
theorem cnt_flip {p : Nat → Bool} {a : Nat} : ∀ n, a < n → cnt (fun k => p k ^^ decide (k = a)) n + (if p a then 1 else 0) = cnt p n + (if p a then 0 else 1)
  | 0, h => absurd h (by omega)
  | n + 1, h => by
    rw [cnt, cnt]
    by_cases e : n = a
    · subst e
      have same : cnt (fun k => p k ^^ decide (k = n)) n = cnt p n := cnt_cong fun k hk => by
        have : decide (k = n) = false := by simp; omega
        rw [this, Bool.xor_false]
      rw [same]
      cases p n <;> simp
    · have ih := cnt_flip (p := p) n (show a < n by omega)
      have : decide (n = a) = false := by simp [e]
      rw [this, Bool.xor_false]
      omega
theorem nOdd_pod (F : Int32) : nOdd F = cnt (pod F) 20 := rfl
theorem nOdd_sbt {F : Int32} {t v : Nat} (ht : t < 31) (hx : bt F t = true) (hv : v < 20) (ha : at_ v t = true) : nOdd (sbt F t) + (if pod F v then 1 else 0) + (if pod F (oth v t) then 1 else 0) = nOdd F + (if pod F v then 0 else 1) + (if pod F (oth v t) then 0 else 1) := by
  obtain ⟨o1, o2, -, -⟩ := oth_ok t ht v hv ha
  have e : nOdd (sbt F t) = cnt (fun k => (pod F k ^^ decide (k = v)) ^^ decide (k = oth v t)) 20 := by
    rw [nOdd_pod]
    exact cnt_cong fun k hk => pod_sbt ht hx hv ha hk
  have f1 := cnt_flip (p := pod F) (a := v) 20 hv
  have f2 := cnt_flip (p := fun k => pod F k ^^ decide (k = v)) (a := oth v t) 20 o1
  have z : decide (oth v t = v) = false := by simp [o2]
  simp only [z, Bool.xor_false] at f2
  rw [e, nOdd_pod]
  omega
/-- where a walk over all of F can begin -/
def goV (F : Int32) (k : Nat) : Prop := F = 0 ∨ (conF F k ∧ (nOdd F = 0 ∨ (nOdd F = 2 ∧ pod F k = true)))
theorem go_step {F : Int32} {v t : Nat} (hl : lo 31 F) (hv : v < 20) (hg : goV F v) (ht : t < 31) (hx : bt F t = true) (ha : at_ v t = true) : conF (sbt F t) (oth v t) ↔ goV (sbt F t) (oth v t) := by
  obtain ⟨o1, o2, -, -⟩ := oth_ok t ht v hv ha
  have F0 : ¬ F = 0 := fun q => by rw [q, b_0] at hx; cases hx
  constructor
  · intro c
    by_cases z : sbt F t = 0
    · exact Or.inl z
    · refine Or.inr ⟨c, ?_⟩
      have n := nOdd_sbt ht hx hv ha
      have po := pod_sbt ht hx hv ha o1
      have d1 : decide (oth v t = v) = false := by simp [o2]
      have d2 : decide (oth v t = oth v t) = true := by simp
      rw [d1, d2, Bool.xor_false] at po
      rcases hg with q | ⟨-, q | ⟨q, q2⟩⟩
      · exact absurd q F0
      · have all : ∀ k, k < 20 → pod F k = false := fun k hk => by
          cases w : pod F k
          · rfl
          · have := cnt_pos (p := pod F) w 20 hk
            rw [nOdd_pod] at q
            omega
        rw [all v hv, all _ o1, q] at n
        rw [all _ o1] at po
        exact Or.inr ⟨by simpa using n, by rw [po]; rfl⟩
      · rw [q2, q] at n
        cases w : pod F (oth v t)
        · rw [w] at n po
          exact Or.inr ⟨by simpa using n, by rw [po]; rfl⟩
        · rw [w] at n
          left
          simp at n
          exact n
  · rintro (q | ⟨q, -⟩)
    · intro u hu h2
      rw [q, b_0] at h2; cases h2
    · exact q
/-- a closed set has an even number of odd knots -/
theorem odd_in {G B : Int32} (hB : clos G B) : ∀ n, n ≤ 31 → cnt (bt (oddE G n &&& B)) 32 % 2 = 0
  | 0, _ => by
    rw [cnt_0 32 fun i _ => ?_]
    rw [b_and, oddE, b_0]; rfl
  | n + 1, hn => by
    have ih := odd_in hB n (by omega)
    have n31' : n < 31 := by omega
    have k1 := kL_lt n n31'
    have k2 := kR_lt n n31'
    cases w : bt G n
    · have e : oddE G (n + 1) = oddE G n := by rw [oddE, w, if_neg (by decide), xor_0]
      rw [e]; exact ih
    · have e : ∀ i, i < 32 → bt (oddE G (n + 1) &&& B) i = (bt (oddE G n &&& B) i ^^ bt (fm_X0_endsOf (nI n) &&& B) i) := fun i _ => by
        rw [b_and, b_and, b_and, oddE, w, if_pos rfl, b_xor]
        cases bt (oddE G n) i <;> cases bt (fm_X0_endsOf (nI n)) i <;> cases bt B i <;> rfl
      rw [cnt_cong e, cnt_xor]
      have two : cnt (bt (fm_X0_endsOf (nI n) &&& B)) 32 % 2 = 0 := by
        cases q : tch B n
        · rw [(ends_and n31' B).mpr q, cnt_0 32 fun i _ => b_0 i]
        · obtain ⟨b1, b2⟩ := hB n n31' w q
          have : fm_X0_endsOf (nI n) &&& B = fm_X0_endsOf (nI n) := b_ext fun i hi => by
            rw [b_and, bt_ends n n31' i hi]
            cases z : at_ i n
            · rfl
            · rcases at_end.mp z with y | y
              · rw [← y, b1]; rfl
              · rw [← y, b2]; rfl
          rw [this, ends_cnt n n31']
      omega
theorem fl_one {F : Int32} {v t : Nat} (hl : lo 31 F) (hv : v < 20) (ht : t < 31) (hx : bt F t = true) (ha : at_ v t = true) (hcon : conF F v) (hn : ¬ conF (sbt F t) (oth v t)) :
    bt (clo eJ (sbt F t) (kb (oth v t))) v = false ∧ ∃ b, b < 20 ∧ bt (clo eJ (sbt F t) (kb (oth v t))) b = true ∧ pod F b = true := by
  obtain ⟨o1, o2, o3, o4⟩ := oth_ok t ht v hv ha
  have cl := clo_clos (F := sbt F t) (kb_lo o1)
  have inn : bt (clo eJ (sbt F t) (kb (oth v t))) (oth v t) = true := clo_from _ (by omega) ((bt_kb (by omega) (by omega)).mpr rfl)
  have ends_t : ∀ k, k < 20 → (kL t = k ∨ kR t = k) → k = v ∨ k = oth v t := fun k hk q => by
    have := o4 k hk
    rw [at_end.mpr q] at this
    by_cases e1 : k = v
    · exact Or.inl e1
    · by_cases e2 : k = oth v t
      · exact Or.inr e2
      · simp [e1, e2] at this
  have hvn : bt (clo eJ (sbt F t) (kb (oth v t))) v = false := by
    cases w : bt (clo eJ (sbt F t) (kb (oth v t))) v
    · rfl
    · exfalso
      apply hn
      have clF : clos F (clo eJ (sbt F t) (kb (oth v t))) := fun u hu hx2 hc => by
        by_cases e : u = t
        · subst e
          have k1 := kL_lt u hu
          have k2 := kR_lt u hu
          constructor
          · rcases ends_t _ k1 (Or.inl rfl) with q | q <;> rw [q] <;> assumption
          · rcases ends_t _ k2 (Or.inr rfl) with q | q <;> rw [q] <;> assumption
        · exact cl u hu (by rw [bt_sbt ht (by omega), hx2]; simp [e]) hc
      have sb : sub (clo eJ F (kb v)) (clo eJ (sbt F t) (kb (oth v t))) := clo_min (x := F) (fun i hi q => by rw [(bt_kb (by omega) hi).mp q]; exact w) clF
      intro u hu hx2
      have k1 := kL_lt u hu
      have k2 := kR_lt u hu
      rw [bt_sbt ht (by omega), Bool.and_eq_true] at hx2
      exact tch_iff.mpr ((tch_iff.mp (hcon u hu hx2.1)).imp (sb _ (by omega)) (sb _ (by omega)))
  refine ⟨hvn, ?_⟩
  have ev := odd_in cl 31 (by decide)
  have e : ∀ j, j < 32 → bt (oddE (sbt F t) 31 &&& clo eJ (sbt F t) (kb (oth v t))) j = ((pod F j && bt (clo eJ (sbt F t) (kb (oth v t))) j) ^^ decide (j = oth v t)) := fun j hj => by
    rw [b_and, bt_oddE _ hj 31 (by decide)]
    show (pod (sbt F t) j && _) = _
    rcases Nat.lt_or_ge j 20 with q | q
    · rw [pod_sbt ht hx hv ha q]
      by_cases e1 : j = v
      · subst e1
        have : decide (j = oth j t) = false := by simp; exact fun z => o2 z.symm
        rw [hvn, this]; simp
      · by_cases e2 : j = oth v t
        · subst e2
          rw [inn]
          simp [e1]
        · simp [e1, e2]
    · have p1 : pod (sbt F t) j = false := by unfold pod; rw [deg_big _ q]; rfl
      have p2 : pod F j = false := by unfold pod; rw [deg_big _ q]; rfl
      have : decide (j = oth v t) = false := by simp; omega
      rw [p1, p2, this]; rfl
  rw [cnt_cong e] at ev
  have fl := cnt_flip (p := fun j => pod F j && bt (clo eJ (sbt F t) (kb (oth v t))) j) (a := oth v t) 32 (by omega)
  apply Classical.byContradiction
  intro no
  have z : cnt (fun j => pod F j && bt (clo eJ (sbt F t) (kb (oth v t))) j) 32 = 0 := cnt_0 32 fun j hj => by
    rcases Nat.lt_or_ge j 20 with q | q
    · cases w1 : pod F j
      · rfl
      · cases w2 : bt (clo eJ (sbt F t) (kb (oth v t))) j
        · rfl
        · exact absurd ⟨j, q, w2, w1⟩ no
    · have p2 : pod F j = false := by unfold pod; rw [deg_big _ q]; rfl
      rw [p2]; rfl
  have z2 : (pod F (oth v t) && bt (clo eJ (sbt F t) (kb (oth v t))) (oth v t)) = false := by
    cases w : (pod F (oth v t) && bt (clo eJ (sbt F t) (kb (oth v t))) (oth v t))
    · rfl
    · have := cnt_pos (p := fun j => pod F j && bt (clo eJ (sbt F t) (kb (oth v t))) j) w 32 (by omega)
      omega
  rw [z, z2] at fl
  simp at fl
  rw [fl] at ev
  exact absurd ev (by decide)
theorem fleury {F : Int32} {v : Nat} (hl : lo 31 F) (hv : v < 20) (h0 : ¬ F = 0) (hg : goV F v) : ∃ t, t < 31 ∧ bt F t = true ∧ at_ v t = true ∧ conF (sbt F t) (oth v t) := by
  apply Classical.byContradiction
  intro no
  rcases hg with q | ⟨hcon, hodd⟩
  · exact h0 q
  · have dp : 0 < deg F v := ((con_iff h0 hl hv).mpr hcon).2
    obtain ⟨t, ht, hx, ha⟩ := deg_pos.mp dp
    have hn : ¬ conF (sbt F t) (oth v t) := fun c => no ⟨t, ht, hx, ha, c⟩
    obtain ⟨v1, b, b1, b2, b3⟩ := fl_one hl hv ht hx ha hcon hn
    have bv : b ≠ v := fun q => by rw [q, v1] at b2; cases b2
    obtain ⟨o1, o2, o3, o4⟩ := oth_ok t ht v hv ha
    have cl := clo_clos (F := sbt F t) (kb_lo o1)
    rcases hodd with q | ⟨q, pv⟩
    · have := cnt_pos (p := pod F) b3 20 b1
      rw [nOdd_pod] at q
      omega
    · by_cases two : ∃ u, u < 31 ∧ bt F u = true ∧ at_ v u = true ∧ u ≠ t
      · obtain ⟨u, hu, hx2, ha2, hne⟩ := two
        have hn2 : ¬ conF (sbt F u) (oth v u) := fun c => no ⟨u, hu, hx2, ha2, c⟩
        obtain ⟨w1, c, c1, c2, c3⟩ := fl_one hl hv hu hx2 ha2 hcon hn2
        have cv : c ≠ v := fun q => by rw [q, w1] at c2; cases c2
        have cb : c = b := by
          apply Classical.byContradiction
          intro ne
          have f1 := cnt_flip (p := pod F) (a := v) 20 hv
          have f2 := cnt_flip (p := fun k => pod F k ^^ decide (k = v)) (a := b) 20 b1
          have d1 : decide (b = v) = false := by simp [bv]
          have d2 : decide (c = v) = false := by simp [cv]
          have d3 : decide (c = b) = false := by simp [ne]
          rw [pv] at f1
          simp only [d1, Bool.xor_false, b3] at f2
          have c0 := cnt_pos (p := fun k => (pod F k ^^ decide (k = v)) ^^ decide (k = b)) (i := c) (by rw [c3, d2, d3]; rfl) 20 c1
          rw [nOdd_pod] at q
          generalize cnt (fun k => (pod F k ^^ decide (k = v)) ^^ decide (k = b)) 20 = Y at f2 c0
          generalize cnt (fun k => pod F k ^^ decide (k = v)) 20 = X at f1 f2
          generalize cnt (pod F) 20 = Z at f1 q
          simp at f1 f2
          omega
        subst cb
        obtain ⟨p1, p2, p3, p4⟩ := oth_ok u hu v hv ha2
        have cl2 := clo_clos (F := sbt F u) (kb_lo p1)
        have uin : bt (clo eJ (sbt F t) (kb (oth v t))) (oth v u) = true := by
          cases w : bt (clo eJ (sbt F t) (kb (oth v t))) (oth v u)
          · exfalso
            have hD : ∀ i, i < 32 → bt (clo eJ (sbt F u) (kb (oth v u)) &&& (clo eJ (sbt F t) (kb (oth v t)) ^^^ (-1))) i = (bt (clo eJ (sbt F u) (kb (oth v u))) i && !bt (clo eJ (sbt F t) (kb (oth v t))) i) := fun i hi => by rw [b_and, bt_not _ hi]
            have m := clo_min (x := sbt F u) (r := kb (oth v u)) (D := clo eJ (sbt F u) (kb (oth v u)) &&& (clo eJ (sbt F t) (kb (oth v t)) ^^^ (-1))) (fun i hi z => by rw [hD i hi, clo_from i hi z, (bt_kb (by omega) hi).mp z, w]; rfl) (fun e he hxe hce => by
              have k1 := kL_lt e he
              have k2 := kR_lt e he
              rw [tch_iff, hD _ (by omega), hD _ (by omega), Bool.and_eq_true, Bool.and_eq_true] at hce
              have cc := cl2 e he hxe (tch_iff.mpr (hce.imp (fun z => z.1) (fun z => z.1)))
              have et : e ≠ t := fun z => by
                subst z
                rcases at_end.mp ha with y | y
                · rw [y] at cc; rw [w1] at cc; exact absurd cc.1 (by decide)
                · rw [y] at cc; rw [w1] at cc; exact absurd cc.2 (by decide)
              have hxF : bt (sbt F t) e = true := by
                rw [bt_sbt hu (by omega), Bool.and_eq_true] at hxe
                rw [bt_sbt ht (by omega), hxe.1]; simp [et]
              have nb : tch (clo eJ (sbt F t) (kb (oth v t))) e = false := by
                cases z : tch (clo eJ (sbt F t) (kb (oth v t))) e
                · rfl
                · obtain ⟨y1, y2⟩ := cl e he hxF z
                  rcases hce with y | y
                  · rw [y1] at y; exact absurd y.2 (by decide)
                  · rw [y2] at y; exact absurd y.2 (by decide)
              unfold tch at nb
              rw [Bool.or_eq_false_iff] at nb
              rw [hD _ (by omega), hD _ (by omega), cc.1, cc.2, nb.1, nb.2]
              exact ⟨rfl, rfl⟩)
            have := m c (by omega) c2
            rw [hD c (by omega), b2] at this
            simp at this
          · rfl
        have hxu : bt (sbt F t) u = true := by rw [bt_sbt ht (by omega), hx2]; simp [hne]
        have tu : tch (clo eJ (sbt F t) (kb (oth v t))) u = true := by
          unfold oth at uin
          by_cases z : kL u = v
          · rw [if_pos z] at uin; exact tch_iff.mpr (Or.inr uin)
          · rw [if_neg z] at uin; exact tch_iff.mpr (Or.inl uin)
        obtain ⟨y1, y2⟩ := cl u hu hxu tu
        rcases at_end.mp ha2 with z | z
        · rw [z, v1] at y1; cases y1
        · rw [z, v1] at y2; cases y2
      · -- the only thread at v
        apply hn
        have only : ∀ u, u < 31 → bt F u = true → u ≠ t → at_ v u = false := fun u hu hx2 hne => by
          cases w : at_ v u
          · rfl
          · exact absurd ⟨u, hu, hx2, w, hne⟩ two
        have hD : ∀ i, i < 32 → bt (clo eJ (sbt F t) (kb (oth v t)) ||| kb v) i = (bt (clo eJ (sbt F t) (kb (oth v t))) i || decide (i = v)) := fun i hi => by rw [b_or]; unfold kb; rw [bt_shl1 (show v < 32 by omega) hi]
        have sb : sub (clo eJ F (kb v)) (clo eJ (sbt F t) (kb (oth v t)) ||| kb v) := clo_min (x := F) (fun i hi z => by rw [hD i hi, (bt_kb (by omega) hi).mp z]; simp) (fun u hu hx2 hc => by
          have k1 := kL_lt u hu
          have k2 := kR_lt u hu
          rw [hD _ (by omega), hD _ (by omega)]
          by_cases e : u = t
          · subst e
            have inn : bt (clo eJ (sbt F u) (kb (oth v u))) (oth v u) = true := clo_from _ (by omega) ((bt_kb (by omega) (by omega)).mpr rfl)
            unfold oth at inn ⊢
            by_cases z : kL u = v
            · rw [if_pos z] at inn ⊢; rw [inn, z]; simp
            · have z2 : kR u = v := (at_end.mp ha).resolve_left z
              rw [if_neg z] at inn ⊢; rw [inn, z2]; simp
          · have na := only u hu hx2 e
            have nL : ¬ kL u = v := fun z => by rw [at_end.mpr (Or.inl z)] at na; cases na
            have nR : ¬ kR u = v := fun z => by rw [at_end.mpr (Or.inr z)] at na; cases na
            rw [tch_iff, hD _ (by omega), hD _ (by omega)] at hc
            simp [nL, nR] at hc
            obtain ⟨y1, y2⟩ := cl u hu (by rw [bt_sbt ht (by omega), hx2]; simp [e]) (tch_iff.mpr hc)
            rw [y1, y2]; exact ⟨rfl, rfl⟩)
        intro u hu hx2
        rw [bt_sbt ht (by omega), Bool.and_eq_true] at hx2
        have e : u ≠ t := fun z => by rw [z] at hx2; simp at hx2
        have na := only u hu hx2.1 e
        have nL : ¬ kL u = v := fun z => by rw [at_end.mpr (Or.inl z)] at na; cases na
        have nR : ¬ kR u = v := fun z => by rw [at_end.mpr (Or.inr z)] at na; cases na
        have k1 := kL_lt u hu
        have k2 := kR_lt u hu
        rcases tch_iff.mp (hcon u hu hx2.1) with z | z
        · have := sb _ (by omega) z
          rw [hD _ (by omega)] at this
          simp [nL] at this
          exact tch_iff.mpr (Or.inl this)
        · have := sb _ (by omega) z
          rw [hD _ (by omega)] at this
          simp [nR] at this
          exact tch_iff.mpr (Or.inr this)
