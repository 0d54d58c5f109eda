/-! further steps -/
section QW
variable {C : qx_K} {R : Option Value → qx_H → Prop} {cd : List qx_O} {pc : Nat} {ls ls' : List (Option Value)} {r : List Value} {H : qx_H}
def qx_ns : Option Value → Bool
  | some (.long _) => false
  | some (.double _) => false
  | _ => true
theorem qx_kl_ns {j : Nat} {z : Option Value} (h : ls[j]? = some z) (hz : qx_ns z = true) : qx_kl ls (j + 1) = ls := by
  simp only [qx_kl, h]
  match z, hz with
  | none, _ => rfl
  | some (.int _), _ => rfl
  | some (.ref _), _ => rfl
  | some (.float _), _ => rfl
  | some .null, _ => rfl
  | some (.retAddr _), _ => rfl
theorem qv_istN {n i : Nat} {x : Int32} (hf : qx_nth cd pc = some (qx_istore n i)) (hi : Nat.ble (i + 1) ls.length = true) (hk : qx_kl ls i = ls) (hs : ls.set i (some (.int x)) = ls') (kk : qx_V C R cd (pc + n, ls', r, H)) : qx_V C R cd (pc, ls, .int x :: r, H) :=
  qv_op (σ := (pc, ls, .int x :: r, H)) hf (by simp only [qx_istore, if_pos (show i < ls.length from Nat.le_of_ble_eq_true hi), qx_st, hk, hs]) kk
theorem qv_astN {n i : Nat} {x : Nat} (hf : qx_nth cd pc = some (qx_astore n i)) (hi : Nat.ble (i + 1) ls.length = true) (hk : qx_kl ls i = ls) (hs : ls.set i (some (.ref x)) = ls') (kk : qx_V C R cd (pc + n, ls', r, H)) : qx_V C R cd (pc, ls, .ref x :: r, H) :=
  qv_op (σ := (pc, ls, .ref x :: r, H)) hf (by simp only [qx_astore, if_pos (show i < ls.length from Nat.le_of_ble_eq_true hi), qx_st, hk, hs]) kk
theorem qv_incN {i : Nat} {x v : Int32} (hf : qx_nth cd pc = some (qx_iinc i v)) (hi : ls[i]? = some (some (.int x))) (hk : qx_kl ls i = ls) (hs : ls.set i (some (.int (x + v))) = ls') (kk : qx_V C R cd (pc + 3, ls', r, H)) : qx_V C R cd (pc, ls, r, H) :=
  qv_op (σ := (pc, ls, r, H)) hf (by simp only [qx_iinc, hi, qx_st, hk, hs]) kk
theorem qv_eq {σ σ' : qx_S} (h : σ' = σ) (k : qx_V C R cd σ') : qx_V C R cd σ := h ▸ k
theorem qv_dia {c : Prop} [Decidable c] {σ σ' a b : qx_S} (n : Nat) (e : qx_run n cd σ = some (if c then a else b)) (kk : qx_V C R cd σ') (ha : c → qx_V C R cd σ' → qx_V C R cd a) (hb : ¬ c → qx_V C R cd σ' → qx_V C R cd b) : qx_V C R cd σ :=
  qv_br n e (fun h => ha h kk) (fun h => hb h kk)
end QW
