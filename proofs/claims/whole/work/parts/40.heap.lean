/-! THE HEAP AS TWO FUNCTIONS: m.1 a i the i-th number of the array at a, m.2 o k the k-th (int) field of the object at o -/
abbrev xM2 : Type := (Nat → Nat → Int32) × (Nat → Nat → Int32)
def xh_sheets : Nat → Option Nat := va_up (va_up (va_up (va_up (fun _ => none) 0 (some 81)) 1 (some 83)) 2 (some 85)) 3 (some 87)
def mk (m : xM2) : qx_H := [.inr (8, [.ref 1, .ref 19, .ref 37, .ref 51, .ref 65, .ref 70, .ref 72, .ref 77, .ref 79, .ref 80, .int (m.2 0 10)]),
  .inr (4, [.ref 2, .ref 16, .ref 17, .ref 18, .int (m.2 1 4), .int (m.2 1 5), .int (m.2 1 6), .int (m.2 1 7)]),
  .inr (3, [.ref 3, .ref 4, .ref 5, .ref 6, .ref 7, .ref 8, .ref 9, .ref 10, .ref 13, .int (m.2 2 9), .int (m.2 2 10)]),
  .inl (20, .inl (m.1 3)),
  .inl (20, .inl (m.1 4)),
  .inl (20, .inl (m.1 5)),
  .inl (20, .inl (m.1 6)),
  .inl (31, .inl (m.1 7)),
  .inl (31, .inl (m.1 8)),
  .inl (20, .inl (m.1 9)),
  .inr (1, [.ref 11, .ref 12, .int (m.2 10 2)]),
  .inl (60, .inl (m.1 11)),
  .inl (60, .inl (m.1 12)),
  .inr (1, [.ref 14, .ref 15, .int (m.2 13 2)]),
  .inl (60, .inl (m.1 14)),
  .inl (60, .inl (m.1 15)),
  .inl (3, .inl (m.1 16)),
  .inl (60, .inl (m.1 17)),
  .inl (24, .inl (m.1 18)),
  .inr (4, [.ref 20, .ref 34, .ref 35, .ref 36, .int (m.2 19 4), .int (m.2 19 5), .int (m.2 19 6), .int (m.2 19 7)]),
  .inr (3, [.ref 21, .ref 22, .ref 23, .ref 24, .ref 25, .ref 26, .ref 27, .ref 28, .ref 31, .int (m.2 20 9), .int (m.2 20 10)]),
  .inl (20, .inl (m.1 21)),
  .inl (20, .inl (m.1 22)),
  .inl (20, .inl (m.1 23)),
  .inl (20, .inl (m.1 24)),
  .inl (31, .inl (m.1 25)),
  .inl (31, .inl (m.1 26)),
  .inl (20, .inl (m.1 27)),
  .inr (1, [.ref 29, .ref 30, .int (m.2 28 2)]),
  .inl (60, .inl (m.1 29)),
  .inl (60, .inl (m.1 30)),
  .inr (1, [.ref 32, .ref 33, .int (m.2 31 2)]),
  .inl (60, .inl (m.1 32)),
  .inl (60, .inl (m.1 33)),
  .inl (3, .inl (m.1 34)),
  .inl (60, .inl (m.1 35)),
  .inl (24, .inl (m.1 36)),
  .inr (3, [.ref 38, .ref 39, .ref 40, .ref 41, .ref 42, .ref 43, .ref 44, .ref 45, .ref 48, .int (m.2 37 9), .int (m.2 37 10)]),
  .inl (20, .inl (m.1 38)),
  .inl (20, .inl (m.1 39)),
  .inl (20, .inl (m.1 40)),
  .inl (20, .inl (m.1 41)),
  .inl (31, .inl (m.1 42)),
  .inl (31, .inl (m.1 43)),
  .inl (20, .inl (m.1 44)),
  .inr (1, [.ref 46, .ref 47, .int (m.2 45 2)]),
  .inl (60, .inl (m.1 46)),
  .inl (60, .inl (m.1 47)),
  .inr (1, [.ref 49, .ref 50, .int (m.2 48 2)]),
  .inl (60, .inl (m.1 49)),
  .inl (60, .inl (m.1 50)),
  .inr (3, [.ref 52, .ref 53, .ref 54, .ref 55, .ref 56, .ref 57, .ref 58, .ref 59, .ref 62, .int (m.2 51 9), .int (m.2 51 10)]),
  .inl (20, .inl (m.1 52)),
  .inl (20, .inl (m.1 53)),
  .inl (20, .inl (m.1 54)),
  .inl (20, .inl (m.1 55)),
  .inl (31, .inl (m.1 56)),
  .inl (31, .inl (m.1 57)),
  .inl (20, .inl (m.1 58)),
  .inr (1, [.ref 60, .ref 61, .int (m.2 59 2)]),
  .inl (60, .inl (m.1 60)),
  .inl (60, .inl (m.1 61)),
  .inr (1, [.ref 63, .ref 64, .int (m.2 62 2)]),
  .inl (60, .inl (m.1 63)),
  .inl (60, .inl (m.1 64)),
  .inr (6, [.ref 66, .ref 69, .int (m.2 65 2), .int (m.2 65 3), .int (m.2 65 4)]),
  .inr (1, [.ref 67, .ref 68, .int (m.2 66 2)]),
  .inl (60, .inl (m.1 67)),
  .inl (60, .inl (m.1 68)),
  .inl (60, .inl (m.1 69)),
  .inr (2, [.ref 71]),
  .inl (3, .inl (m.1 71)),
  .inr (0, [.ref 73, .ref 74, .ref 75, .ref 76, .int (m.2 72 4)]),
  .inl (6, .inl (m.1 73)),
  .inl (6, .inl (m.1 74)),
  .inl (6, .inl (m.1 75)),
  .inl (3, .inl (m.1 76)),
  .inr (7, [.ref 78, .int (m.2 77 1), .int (m.2 77 2), .int (m.2 77 3), .int (m.2 77 4), .int (m.2 77 5)]),
  .inl (30, .inl (m.1 78)),
  .inl (4, .inr (.inr (.inr (.inr xh_sheets)))),
  .inl (7, .inl (m.1 80)),
  .inr (5, [.ref 82, .int (m.2 81 1), .int (m.2 81 2)]),
  .inl (40, .inl (m.1 82)),
  .inr (5, [.ref 84, .int (m.2 83 1), .int (m.2 83 2)]),
  .inl (40, .inl (m.1 84)),
  .inr (5, [.ref 86, .int (m.2 85 1), .int (m.2 85 2)]),
  .inl (40, .inl (m.1 86)),
  .inr (5, [.ref 88, .int (m.2 87 1), .int (m.2 87 2)]),
  .inl (40, .inl (m.1 88)),
  .inr (9, [.ref 90, .ref 91, .ref 92, .int (m.2 89 3), .ref 93, .int (m.2 89 5), .int (m.2 89 6), .int (m.2 89 7), .int (m.2 89 8), .ref 94, .ref 95, .ref 96, .ref 97, .ref 98, .ref 99, .ref 100, .int (m.2 89 16), .int (m.2 89 17), .int (m.2 89 18), .ref 101, .ref 102, .ref 103, .ref 104]),
  .inl (515, .inl (m.1 90)),
  .inl (515, .inl (m.1 91)),
  .inl (181, .inl (m.1 92)),
  .inl (7, .inl (m.1 93)),
  .inl (124, .inl (m.1 94)),
  .inl (128, .inl (m.1 95)),
  .inl (64, .inl (m.1 96)),
  .inl (3, .inl (m.1 97)),
  .inl (31, .inl (m.1 98)),
  .inl (3, .inl (m.1 99)),
  .inl (30, .inl (m.1 100)),
  .inl (4, .inl (m.1 101)),
  .inl (4, .inl (m.1 102)),
  .inl (160, .inl (m.1 103)),
  .inl (40, .inl (m.1 104))]
def sA (m : xM2) (a : Nat) (f : Nat → Int32) : xM2 := (fun b => if b = a then f else m.1 b, m.2)
def sF (m : xM2) (o k : Nat) (x : Int32) : xM2 := (m.1, fun p => if p = o then upd (m.2 o) k x else m.2 p)
theorem mO_0 (m : xM2) : (mk m)[0]? = some (.inr (8, [.ref 1, .ref 19, .ref 37, .ref 51, .ref 65, .ref 70, .ref 72, .ref 77, .ref 79, .ref 80, .int (m.2 0 10)])) := rfl
theorem mP_0_10 (m : xM2) (x : Int32) : hp_put (mk m) 0 8 10 (.int x) = some (mk (sF m 0 10 x)) := rfl
theorem mO_1 (m : xM2) : (mk m)[1]? = some (.inr (4, [.ref 2, .ref 16, .ref 17, .ref 18, .int (m.2 1 4), .int (m.2 1 5), .int (m.2 1 6), .int (m.2 1 7)])) := rfl
theorem mP_1_4 (m : xM2) (x : Int32) : hp_put (mk m) 1 4 4 (.int x) = some (mk (sF m 1 4 x)) := rfl
theorem mP_1_5 (m : xM2) (x : Int32) : hp_put (mk m) 1 4 5 (.int x) = some (mk (sF m 1 5 x)) := rfl
theorem mP_1_6 (m : xM2) (x : Int32) : hp_put (mk m) 1 4 6 (.int x) = some (mk (sF m 1 6 x)) := rfl
theorem mP_1_7 (m : xM2) (x : Int32) : hp_put (mk m) 1 4 7 (.int x) = some (mk (sF m 1 7 x)) := rfl
theorem mO_2 (m : xM2) : (mk m)[2]? = some (.inr (3, [.ref 3, .ref 4, .ref 5, .ref 6, .ref 7, .ref 8, .ref 9, .ref 10, .ref 13, .int (m.2 2 9), .int (m.2 2 10)])) := rfl
theorem mP_2_9 (m : xM2) (x : Int32) : hp_put (mk m) 2 3 9 (.int x) = some (mk (sF m 2 9 x)) := rfl
theorem mP_2_10 (m : xM2) (x : Int32) : hp_put (mk m) 2 3 10 (.int x) = some (mk (sF m 2 10 x)) := rfl
theorem mA_3 (m : xM2) : (mk m)[3]? = some (.inl (20, .inl (m.1 3))) := rfl
theorem mS_3 (m : xM2) (f : Nat → Int32) : (mk m).set 3 (.inl (20, .inl f)) = mk (sA m 3 f) := rfl
theorem mA_4 (m : xM2) : (mk m)[4]? = some (.inl (20, .inl (m.1 4))) := rfl
theorem mS_4 (m : xM2) (f : Nat → Int32) : (mk m).set 4 (.inl (20, .inl f)) = mk (sA m 4 f) := rfl
theorem mA_5 (m : xM2) : (mk m)[5]? = some (.inl (20, .inl (m.1 5))) := rfl
theorem mS_5 (m : xM2) (f : Nat → Int32) : (mk m).set 5 (.inl (20, .inl f)) = mk (sA m 5 f) := rfl
theorem mA_6 (m : xM2) : (mk m)[6]? = some (.inl (20, .inl (m.1 6))) := rfl
theorem mS_6 (m : xM2) (f : Nat → Int32) : (mk m).set 6 (.inl (20, .inl f)) = mk (sA m 6 f) := rfl
theorem mA_7 (m : xM2) : (mk m)[7]? = some (.inl (31, .inl (m.1 7))) := rfl
theorem mS_7 (m : xM2) (f : Nat → Int32) : (mk m).set 7 (.inl (31, .inl f)) = mk (sA m 7 f) := rfl
theorem mA_8 (m : xM2) : (mk m)[8]? = some (.inl (31, .inl (m.1 8))) := rfl
theorem mS_8 (m : xM2) (f : Nat → Int32) : (mk m).set 8 (.inl (31, .inl f)) = mk (sA m 8 f) := rfl
theorem mA_9 (m : xM2) : (mk m)[9]? = some (.inl (20, .inl (m.1 9))) := rfl
theorem mS_9 (m : xM2) (f : Nat → Int32) : (mk m).set 9 (.inl (20, .inl f)) = mk (sA m 9 f) := rfl
theorem mO_10 (m : xM2) : (mk m)[10]? = some (.inr (1, [.ref 11, .ref 12, .int (m.2 10 2)])) := rfl
theorem mP_10_2 (m : xM2) (x : Int32) : hp_put (mk m) 10 1 2 (.int x) = some (mk (sF m 10 2 x)) := rfl
theorem mA_11 (m : xM2) : (mk m)[11]? = some (.inl (60, .inl (m.1 11))) := rfl
theorem mS_11 (m : xM2) (f : Nat → Int32) : (mk m).set 11 (.inl (60, .inl f)) = mk (sA m 11 f) := rfl
theorem mA_12 (m : xM2) : (mk m)[12]? = some (.inl (60, .inl (m.1 12))) := rfl
theorem mS_12 (m : xM2) (f : Nat → Int32) : (mk m).set 12 (.inl (60, .inl f)) = mk (sA m 12 f) := rfl
theorem mO_13 (m : xM2) : (mk m)[13]? = some (.inr (1, [.ref 14, .ref 15, .int (m.2 13 2)])) := rfl
theorem mP_13_2 (m : xM2) (x : Int32) : hp_put (mk m) 13 1 2 (.int x) = some (mk (sF m 13 2 x)) := rfl
theorem mA_14 (m : xM2) : (mk m)[14]? = some (.inl (60, .inl (m.1 14))) := rfl
theorem mS_14 (m : xM2) (f : Nat → Int32) : (mk m).set 14 (.inl (60, .inl f)) = mk (sA m 14 f) := rfl
theorem mA_15 (m : xM2) : (mk m)[15]? = some (.inl (60, .inl (m.1 15))) := rfl
theorem mS_15 (m : xM2) (f : Nat → Int32) : (mk m).set 15 (.inl (60, .inl f)) = mk (sA m 15 f) := rfl
theorem mA_16 (m : xM2) : (mk m)[16]? = some (.inl (3, .inl (m.1 16))) := rfl
theorem mS_16 (m : xM2) (f : Nat → Int32) : (mk m).set 16 (.inl (3, .inl f)) = mk (sA m 16 f) := rfl
theorem mA_17 (m : xM2) : (mk m)[17]? = some (.inl (60, .inl (m.1 17))) := rfl
theorem mS_17 (m : xM2) (f : Nat → Int32) : (mk m).set 17 (.inl (60, .inl f)) = mk (sA m 17 f) := rfl
theorem mA_18 (m : xM2) : (mk m)[18]? = some (.inl (24, .inl (m.1 18))) := rfl
theorem mS_18 (m : xM2) (f : Nat → Int32) : (mk m).set 18 (.inl (24, .inl f)) = mk (sA m 18 f) := rfl
theorem mO_19 (m : xM2) : (mk m)[19]? = some (.inr (4, [.ref 20, .ref 34, .ref 35, .ref 36, .int (m.2 19 4), .int (m.2 19 5), .int (m.2 19 6), .int (m.2 19 7)])) := rfl
theorem mP_19_4 (m : xM2) (x : Int32) : hp_put (mk m) 19 4 4 (.int x) = some (mk (sF m 19 4 x)) := rfl
theorem mP_19_5 (m : xM2) (x : Int32) : hp_put (mk m) 19 4 5 (.int x) = some (mk (sF m 19 5 x)) := rfl
theorem mP_19_6 (m : xM2) (x : Int32) : hp_put (mk m) 19 4 6 (.int x) = some (mk (sF m 19 6 x)) := rfl
theorem mP_19_7 (m : xM2) (x : Int32) : hp_put (mk m) 19 4 7 (.int x) = some (mk (sF m 19 7 x)) := rfl
theorem mO_20 (m : xM2) : (mk m)[20]? = some (.inr (3, [.ref 21, .ref 22, .ref 23, .ref 24, .ref 25, .ref 26, .ref 27, .ref 28, .ref 31, .int (m.2 20 9), .int (m.2 20 10)])) := rfl
theorem mP_20_9 (m : xM2) (x : Int32) : hp_put (mk m) 20 3 9 (.int x) = some (mk (sF m 20 9 x)) := rfl
theorem mP_20_10 (m : xM2) (x : Int32) : hp_put (mk m) 20 3 10 (.int x) = some (mk (sF m 20 10 x)) := rfl
theorem mA_21 (m : xM2) : (mk m)[21]? = some (.inl (20, .inl (m.1 21))) := rfl
theorem mS_21 (m : xM2) (f : Nat → Int32) : (mk m).set 21 (.inl (20, .inl f)) = mk (sA m 21 f) := rfl
theorem mA_22 (m : xM2) : (mk m)[22]? = some (.inl (20, .inl (m.1 22))) := rfl
theorem mS_22 (m : xM2) (f : Nat → Int32) : (mk m).set 22 (.inl (20, .inl f)) = mk (sA m 22 f) := rfl
theorem mA_23 (m : xM2) : (mk m)[23]? = some (.inl (20, .inl (m.1 23))) := rfl
theorem mS_23 (m : xM2) (f : Nat → Int32) : (mk m).set 23 (.inl (20, .inl f)) = mk (sA m 23 f) := rfl
theorem mA_24 (m : xM2) : (mk m)[24]? = some (.inl (20, .inl (m.1 24))) := rfl
theorem mS_24 (m : xM2) (f : Nat → Int32) : (mk m).set 24 (.inl (20, .inl f)) = mk (sA m 24 f) := rfl
theorem mA_25 (m : xM2) : (mk m)[25]? = some (.inl (31, .inl (m.1 25))) := rfl
theorem mS_25 (m : xM2) (f : Nat → Int32) : (mk m).set 25 (.inl (31, .inl f)) = mk (sA m 25 f) := rfl
theorem mA_26 (m : xM2) : (mk m)[26]? = some (.inl (31, .inl (m.1 26))) := rfl
theorem mS_26 (m : xM2) (f : Nat → Int32) : (mk m).set 26 (.inl (31, .inl f)) = mk (sA m 26 f) := rfl
theorem mA_27 (m : xM2) : (mk m)[27]? = some (.inl (20, .inl (m.1 27))) := rfl
theorem mS_27 (m : xM2) (f : Nat → Int32) : (mk m).set 27 (.inl (20, .inl f)) = mk (sA m 27 f) := rfl
theorem mO_28 (m : xM2) : (mk m)[28]? = some (.inr (1, [.ref 29, .ref 30, .int (m.2 28 2)])) := rfl
theorem mP_28_2 (m : xM2) (x : Int32) : hp_put (mk m) 28 1 2 (.int x) = some (mk (sF m 28 2 x)) := rfl
theorem mA_29 (m : xM2) : (mk m)[29]? = some (.inl (60, .inl (m.1 29))) := rfl
theorem mS_29 (m : xM2) (f : Nat → Int32) : (mk m).set 29 (.inl (60, .inl f)) = mk (sA m 29 f) := rfl
theorem mA_30 (m : xM2) : (mk m)[30]? = some (.inl (60, .inl (m.1 30))) := rfl
theorem mS_30 (m : xM2) (f : Nat → Int32) : (mk m).set 30 (.inl (60, .inl f)) = mk (sA m 30 f) := rfl
theorem mO_31 (m : xM2) : (mk m)[31]? = some (.inr (1, [.ref 32, .ref 33, .int (m.2 31 2)])) := rfl
theorem mP_31_2 (m : xM2) (x : Int32) : hp_put (mk m) 31 1 2 (.int x) = some (mk (sF m 31 2 x)) := rfl
theorem mA_32 (m : xM2) : (mk m)[32]? = some (.inl (60, .inl (m.1 32))) := rfl
theorem mS_32 (m : xM2) (f : Nat → Int32) : (mk m).set 32 (.inl (60, .inl f)) = mk (sA m 32 f) := rfl
theorem mA_33 (m : xM2) : (mk m)[33]? = some (.inl (60, .inl (m.1 33))) := rfl
theorem mS_33 (m : xM2) (f : Nat → Int32) : (mk m).set 33 (.inl (60, .inl f)) = mk (sA m 33 f) := rfl
theorem mA_34 (m : xM2) : (mk m)[34]? = some (.inl (3, .inl (m.1 34))) := rfl
theorem mS_34 (m : xM2) (f : Nat → Int32) : (mk m).set 34 (.inl (3, .inl f)) = mk (sA m 34 f) := rfl
theorem mA_35 (m : xM2) : (mk m)[35]? = some (.inl (60, .inl (m.1 35))) := rfl
theorem mS_35 (m : xM2) (f : Nat → Int32) : (mk m).set 35 (.inl (60, .inl f)) = mk (sA m 35 f) := rfl
theorem mA_36 (m : xM2) : (mk m)[36]? = some (.inl (24, .inl (m.1 36))) := rfl
theorem mS_36 (m : xM2) (f : Nat → Int32) : (mk m).set 36 (.inl (24, .inl f)) = mk (sA m 36 f) := rfl
theorem mO_37 (m : xM2) : (mk m)[37]? = some (.inr (3, [.ref 38, .ref 39, .ref 40, .ref 41, .ref 42, .ref 43, .ref 44, .ref 45, .ref 48, .int (m.2 37 9), .int (m.2 37 10)])) := rfl
theorem mP_37_9 (m : xM2) (x : Int32) : hp_put (mk m) 37 3 9 (.int x) = some (mk (sF m 37 9 x)) := rfl
theorem mP_37_10 (m : xM2) (x : Int32) : hp_put (mk m) 37 3 10 (.int x) = some (mk (sF m 37 10 x)) := rfl
theorem mA_38 (m : xM2) : (mk m)[38]? = some (.inl (20, .inl (m.1 38))) := rfl
theorem mS_38 (m : xM2) (f : Nat → Int32) : (mk m).set 38 (.inl (20, .inl f)) = mk (sA m 38 f) := rfl
theorem mA_39 (m : xM2) : (mk m)[39]? = some (.inl (20, .inl (m.1 39))) := rfl
theorem mS_39 (m : xM2) (f : Nat → Int32) : (mk m).set 39 (.inl (20, .inl f)) = mk (sA m 39 f) := rfl
theorem mA_40 (m : xM2) : (mk m)[40]? = some (.inl (20, .inl (m.1 40))) := rfl
theorem mS_40 (m : xM2) (f : Nat → Int32) : (mk m).set 40 (.inl (20, .inl f)) = mk (sA m 40 f) := rfl
theorem mA_41 (m : xM2) : (mk m)[41]? = some (.inl (20, .inl (m.1 41))) := rfl
theorem mS_41 (m : xM2) (f : Nat → Int32) : (mk m).set 41 (.inl (20, .inl f)) = mk (sA m 41 f) := rfl
theorem mA_42 (m : xM2) : (mk m)[42]? = some (.inl (31, .inl (m.1 42))) := rfl
theorem mS_42 (m : xM2) (f : Nat → Int32) : (mk m).set 42 (.inl (31, .inl f)) = mk (sA m 42 f) := rfl
theorem mA_43 (m : xM2) : (mk m)[43]? = some (.inl (31, .inl (m.1 43))) := rfl
theorem mS_43 (m : xM2) (f : Nat → Int32) : (mk m).set 43 (.inl (31, .inl f)) = mk (sA m 43 f) := rfl
theorem mA_44 (m : xM2) : (mk m)[44]? = some (.inl (20, .inl (m.1 44))) := rfl
theorem mS_44 (m : xM2) (f : Nat → Int32) : (mk m).set 44 (.inl (20, .inl f)) = mk (sA m 44 f) := rfl
theorem mO_45 (m : xM2) : (mk m)[45]? = some (.inr (1, [.ref 46, .ref 47, .int (m.2 45 2)])) := rfl
theorem mP_45_2 (m : xM2) (x : Int32) : hp_put (mk m) 45 1 2 (.int x) = some (mk (sF m 45 2 x)) := rfl
theorem mA_46 (m : xM2) : (mk m)[46]? = some (.inl (60, .inl (m.1 46))) := rfl
theorem mS_46 (m : xM2) (f : Nat → Int32) : (mk m).set 46 (.inl (60, .inl f)) = mk (sA m 46 f) := rfl
theorem mA_47 (m : xM2) : (mk m)[47]? = some (.inl (60, .inl (m.1 47))) := rfl
theorem mS_47 (m : xM2) (f : Nat → Int32) : (mk m).set 47 (.inl (60, .inl f)) = mk (sA m 47 f) := rfl
theorem mO_48 (m : xM2) : (mk m)[48]? = some (.inr (1, [.ref 49, .ref 50, .int (m.2 48 2)])) := rfl
theorem mP_48_2 (m : xM2) (x : Int32) : hp_put (mk m) 48 1 2 (.int x) = some (mk (sF m 48 2 x)) := rfl
theorem mA_49 (m : xM2) : (mk m)[49]? = some (.inl (60, .inl (m.1 49))) := rfl
theorem mS_49 (m : xM2) (f : Nat → Int32) : (mk m).set 49 (.inl (60, .inl f)) = mk (sA m 49 f) := rfl
theorem mA_50 (m : xM2) : (mk m)[50]? = some (.inl (60, .inl (m.1 50))) := rfl
theorem mS_50 (m : xM2) (f : Nat → Int32) : (mk m).set 50 (.inl (60, .inl f)) = mk (sA m 50 f) := rfl
theorem mO_51 (m : xM2) : (mk m)[51]? = some (.inr (3, [.ref 52, .ref 53, .ref 54, .ref 55, .ref 56, .ref 57, .ref 58, .ref 59, .ref 62, .int (m.2 51 9), .int (m.2 51 10)])) := rfl
theorem mP_51_9 (m : xM2) (x : Int32) : hp_put (mk m) 51 3 9 (.int x) = some (mk (sF m 51 9 x)) := rfl
theorem mP_51_10 (m : xM2) (x : Int32) : hp_put (mk m) 51 3 10 (.int x) = some (mk (sF m 51 10 x)) := rfl
theorem mA_52 (m : xM2) : (mk m)[52]? = some (.inl (20, .inl (m.1 52))) := rfl
theorem mS_52 (m : xM2) (f : Nat → Int32) : (mk m).set 52 (.inl (20, .inl f)) = mk (sA m 52 f) := rfl
theorem mA_53 (m : xM2) : (mk m)[53]? = some (.inl (20, .inl (m.1 53))) := rfl
theorem mS_53 (m : xM2) (f : Nat → Int32) : (mk m).set 53 (.inl (20, .inl f)) = mk (sA m 53 f) := rfl
theorem mA_54 (m : xM2) : (mk m)[54]? = some (.inl (20, .inl (m.1 54))) := rfl
theorem mS_54 (m : xM2) (f : Nat → Int32) : (mk m).set 54 (.inl (20, .inl f)) = mk (sA m 54 f) := rfl
theorem mA_55 (m : xM2) : (mk m)[55]? = some (.inl (20, .inl (m.1 55))) := rfl
theorem mS_55 (m : xM2) (f : Nat → Int32) : (mk m).set 55 (.inl (20, .inl f)) = mk (sA m 55 f) := rfl
theorem mA_56 (m : xM2) : (mk m)[56]? = some (.inl (31, .inl (m.1 56))) := rfl
theorem mS_56 (m : xM2) (f : Nat → Int32) : (mk m).set 56 (.inl (31, .inl f)) = mk (sA m 56 f) := rfl
theorem mA_57 (m : xM2) : (mk m)[57]? = some (.inl (31, .inl (m.1 57))) := rfl
theorem mS_57 (m : xM2) (f : Nat → Int32) : (mk m).set 57 (.inl (31, .inl f)) = mk (sA m 57 f) := rfl
theorem mA_58 (m : xM2) : (mk m)[58]? = some (.inl (20, .inl (m.1 58))) := rfl
theorem mS_58 (m : xM2) (f : Nat → Int32) : (mk m).set 58 (.inl (20, .inl f)) = mk (sA m 58 f) := rfl
theorem mO_59 (m : xM2) : (mk m)[59]? = some (.inr (1, [.ref 60, .ref 61, .int (m.2 59 2)])) := rfl
theorem mP_59_2 (m : xM2) (x : Int32) : hp_put (mk m) 59 1 2 (.int x) = some (mk (sF m 59 2 x)) := rfl
theorem mA_60 (m : xM2) : (mk m)[60]? = some (.inl (60, .inl (m.1 60))) := rfl
theorem mS_60 (m : xM2) (f : Nat → Int32) : (mk m).set 60 (.inl (60, .inl f)) = mk (sA m 60 f) := rfl
theorem mA_61 (m : xM2) : (mk m)[61]? = some (.inl (60, .inl (m.1 61))) := rfl
theorem mS_61 (m : xM2) (f : Nat → Int32) : (mk m).set 61 (.inl (60, .inl f)) = mk (sA m 61 f) := rfl
theorem mO_62 (m : xM2) : (mk m)[62]? = some (.inr (1, [.ref 63, .ref 64, .int (m.2 62 2)])) := rfl
theorem mP_62_2 (m : xM2) (x : Int32) : hp_put (mk m) 62 1 2 (.int x) = some (mk (sF m 62 2 x)) := rfl
theorem mA_63 (m : xM2) : (mk m)[63]? = some (.inl (60, .inl (m.1 63))) := rfl
theorem mS_63 (m : xM2) (f : Nat → Int32) : (mk m).set 63 (.inl (60, .inl f)) = mk (sA m 63 f) := rfl
theorem mA_64 (m : xM2) : (mk m)[64]? = some (.inl (60, .inl (m.1 64))) := rfl
theorem mS_64 (m : xM2) (f : Nat → Int32) : (mk m).set 64 (.inl (60, .inl f)) = mk (sA m 64 f) := rfl
theorem mO_65 (m : xM2) : (mk m)[65]? = some (.inr (6, [.ref 66, .ref 69, .int (m.2 65 2), .int (m.2 65 3), .int (m.2 65 4)])) := rfl
theorem mP_65_2 (m : xM2) (x : Int32) : hp_put (mk m) 65 6 2 (.int x) = some (mk (sF m 65 2 x)) := rfl
theorem mP_65_3 (m : xM2) (x : Int32) : hp_put (mk m) 65 6 3 (.int x) = some (mk (sF m 65 3 x)) := rfl
theorem mP_65_4 (m : xM2) (x : Int32) : hp_put (mk m) 65 6 4 (.int x) = some (mk (sF m 65 4 x)) := rfl
theorem mO_66 (m : xM2) : (mk m)[66]? = some (.inr (1, [.ref 67, .ref 68, .int (m.2 66 2)])) := rfl
theorem mP_66_2 (m : xM2) (x : Int32) : hp_put (mk m) 66 1 2 (.int x) = some (mk (sF m 66 2 x)) := rfl
theorem mA_67 (m : xM2) : (mk m)[67]? = some (.inl (60, .inl (m.1 67))) := rfl
theorem mS_67 (m : xM2) (f : Nat → Int32) : (mk m).set 67 (.inl (60, .inl f)) = mk (sA m 67 f) := rfl
theorem mA_68 (m : xM2) : (mk m)[68]? = some (.inl (60, .inl (m.1 68))) := rfl
theorem mS_68 (m : xM2) (f : Nat → Int32) : (mk m).set 68 (.inl (60, .inl f)) = mk (sA m 68 f) := rfl
theorem mA_69 (m : xM2) : (mk m)[69]? = some (.inl (60, .inl (m.1 69))) := rfl
theorem mS_69 (m : xM2) (f : Nat → Int32) : (mk m).set 69 (.inl (60, .inl f)) = mk (sA m 69 f) := rfl
theorem mO_70 (m : xM2) : (mk m)[70]? = some (.inr (2, [.ref 71])) := rfl
theorem mA_71 (m : xM2) : (mk m)[71]? = some (.inl (3, .inl (m.1 71))) := rfl
theorem mS_71 (m : xM2) (f : Nat → Int32) : (mk m).set 71 (.inl (3, .inl f)) = mk (sA m 71 f) := rfl
theorem mO_72 (m : xM2) : (mk m)[72]? = some (.inr (0, [.ref 73, .ref 74, .ref 75, .ref 76, .int (m.2 72 4)])) := rfl
theorem mP_72_4 (m : xM2) (x : Int32) : hp_put (mk m) 72 0 4 (.int x) = some (mk (sF m 72 4 x)) := rfl
theorem mA_73 (m : xM2) : (mk m)[73]? = some (.inl (6, .inl (m.1 73))) := rfl
theorem mS_73 (m : xM2) (f : Nat → Int32) : (mk m).set 73 (.inl (6, .inl f)) = mk (sA m 73 f) := rfl
theorem mA_74 (m : xM2) : (mk m)[74]? = some (.inl (6, .inl (m.1 74))) := rfl
theorem mS_74 (m : xM2) (f : Nat → Int32) : (mk m).set 74 (.inl (6, .inl f)) = mk (sA m 74 f) := rfl
theorem mA_75 (m : xM2) : (mk m)[75]? = some (.inl (6, .inl (m.1 75))) := rfl
theorem mS_75 (m : xM2) (f : Nat → Int32) : (mk m).set 75 (.inl (6, .inl f)) = mk (sA m 75 f) := rfl
theorem mA_76 (m : xM2) : (mk m)[76]? = some (.inl (3, .inl (m.1 76))) := rfl
theorem mS_76 (m : xM2) (f : Nat → Int32) : (mk m).set 76 (.inl (3, .inl f)) = mk (sA m 76 f) := rfl
theorem mO_77 (m : xM2) : (mk m)[77]? = some (.inr (7, [.ref 78, .int (m.2 77 1), .int (m.2 77 2), .int (m.2 77 3), .int (m.2 77 4), .int (m.2 77 5)])) := rfl
theorem mP_77_1 (m : xM2) (x : Int32) : hp_put (mk m) 77 7 1 (.int x) = some (mk (sF m 77 1 x)) := rfl
theorem mP_77_2 (m : xM2) (x : Int32) : hp_put (mk m) 77 7 2 (.int x) = some (mk (sF m 77 2 x)) := rfl
theorem mP_77_3 (m : xM2) (x : Int32) : hp_put (mk m) 77 7 3 (.int x) = some (mk (sF m 77 3 x)) := rfl
theorem mP_77_4 (m : xM2) (x : Int32) : hp_put (mk m) 77 7 4 (.int x) = some (mk (sF m 77 4 x)) := rfl
theorem mP_77_5 (m : xM2) (x : Int32) : hp_put (mk m) 77 7 5 (.int x) = some (mk (sF m 77 5 x)) := rfl
theorem mA_78 (m : xM2) : (mk m)[78]? = some (.inl (30, .inl (m.1 78))) := rfl
theorem mS_78 (m : xM2) (f : Nat → Int32) : (mk m).set 78 (.inl (30, .inl f)) = mk (sA m 78 f) := rfl
theorem mA_80 (m : xM2) : (mk m)[80]? = some (.inl (7, .inl (m.1 80))) := rfl
theorem mS_80 (m : xM2) (f : Nat → Int32) : (mk m).set 80 (.inl (7, .inl f)) = mk (sA m 80 f) := rfl
theorem mO_81 (m : xM2) : (mk m)[81]? = some (.inr (5, [.ref 82, .int (m.2 81 1), .int (m.2 81 2)])) := rfl
theorem mP_81_1 (m : xM2) (x : Int32) : hp_put (mk m) 81 5 1 (.int x) = some (mk (sF m 81 1 x)) := rfl
theorem mP_81_2 (m : xM2) (x : Int32) : hp_put (mk m) 81 5 2 (.int x) = some (mk (sF m 81 2 x)) := rfl
theorem mA_82 (m : xM2) : (mk m)[82]? = some (.inl (40, .inl (m.1 82))) := rfl
theorem mS_82 (m : xM2) (f : Nat → Int32) : (mk m).set 82 (.inl (40, .inl f)) = mk (sA m 82 f) := rfl
theorem mO_83 (m : xM2) : (mk m)[83]? = some (.inr (5, [.ref 84, .int (m.2 83 1), .int (m.2 83 2)])) := rfl
theorem mP_83_1 (m : xM2) (x : Int32) : hp_put (mk m) 83 5 1 (.int x) = some (mk (sF m 83 1 x)) := rfl
theorem mP_83_2 (m : xM2) (x : Int32) : hp_put (mk m) 83 5 2 (.int x) = some (mk (sF m 83 2 x)) := rfl
theorem mA_84 (m : xM2) : (mk m)[84]? = some (.inl (40, .inl (m.1 84))) := rfl
theorem mS_84 (m : xM2) (f : Nat → Int32) : (mk m).set 84 (.inl (40, .inl f)) = mk (sA m 84 f) := rfl
theorem mO_85 (m : xM2) : (mk m)[85]? = some (.inr (5, [.ref 86, .int (m.2 85 1), .int (m.2 85 2)])) := rfl
theorem mP_85_1 (m : xM2) (x : Int32) : hp_put (mk m) 85 5 1 (.int x) = some (mk (sF m 85 1 x)) := rfl
theorem mP_85_2 (m : xM2) (x : Int32) : hp_put (mk m) 85 5 2 (.int x) = some (mk (sF m 85 2 x)) := rfl
theorem mA_86 (m : xM2) : (mk m)[86]? = some (.inl (40, .inl (m.1 86))) := rfl
theorem mS_86 (m : xM2) (f : Nat → Int32) : (mk m).set 86 (.inl (40, .inl f)) = mk (sA m 86 f) := rfl
theorem mO_87 (m : xM2) : (mk m)[87]? = some (.inr (5, [.ref 88, .int (m.2 87 1), .int (m.2 87 2)])) := rfl
theorem mP_87_1 (m : xM2) (x : Int32) : hp_put (mk m) 87 5 1 (.int x) = some (mk (sF m 87 1 x)) := rfl
theorem mP_87_2 (m : xM2) (x : Int32) : hp_put (mk m) 87 5 2 (.int x) = some (mk (sF m 87 2 x)) := rfl
theorem mA_88 (m : xM2) : (mk m)[88]? = some (.inl (40, .inl (m.1 88))) := rfl
theorem mS_88 (m : xM2) (f : Nat → Int32) : (mk m).set 88 (.inl (40, .inl f)) = mk (sA m 88 f) := rfl
theorem mO_89 (m : xM2) : (mk m)[89]? = some (.inr (9, [.ref 90, .ref 91, .ref 92, .int (m.2 89 3), .ref 93, .int (m.2 89 5), .int (m.2 89 6), .int (m.2 89 7), .int (m.2 89 8), .ref 94, .ref 95, .ref 96, .ref 97, .ref 98, .ref 99, .ref 100, .int (m.2 89 16), .int (m.2 89 17), .int (m.2 89 18), .ref 101, .ref 102, .ref 103, .ref 104])) := rfl
theorem mP_89_3 (m : xM2) (x : Int32) : hp_put (mk m) 89 9 3 (.int x) = some (mk (sF m 89 3 x)) := rfl
theorem mP_89_5 (m : xM2) (x : Int32) : hp_put (mk m) 89 9 5 (.int x) = some (mk (sF m 89 5 x)) := rfl
theorem mP_89_6 (m : xM2) (x : Int32) : hp_put (mk m) 89 9 6 (.int x) = some (mk (sF m 89 6 x)) := rfl
theorem mP_89_7 (m : xM2) (x : Int32) : hp_put (mk m) 89 9 7 (.int x) = some (mk (sF m 89 7 x)) := rfl
theorem mP_89_8 (m : xM2) (x : Int32) : hp_put (mk m) 89 9 8 (.int x) = some (mk (sF m 89 8 x)) := rfl
theorem mP_89_16 (m : xM2) (x : Int32) : hp_put (mk m) 89 9 16 (.int x) = some (mk (sF m 89 16 x)) := rfl
theorem mP_89_17 (m : xM2) (x : Int32) : hp_put (mk m) 89 9 17 (.int x) = some (mk (sF m 89 17 x)) := rfl
theorem mP_89_18 (m : xM2) (x : Int32) : hp_put (mk m) 89 9 18 (.int x) = some (mk (sF m 89 18 x)) := rfl
theorem mA_90 (m : xM2) : (mk m)[90]? = some (.inl (515, .inl (m.1 90))) := rfl
theorem mS_90 (m : xM2) (f : Nat → Int32) : (mk m).set 90 (.inl (515, .inl f)) = mk (sA m 90 f) := rfl
theorem mA_91 (m : xM2) : (mk m)[91]? = some (.inl (515, .inl (m.1 91))) := rfl
theorem mS_91 (m : xM2) (f : Nat → Int32) : (mk m).set 91 (.inl (515, .inl f)) = mk (sA m 91 f) := rfl
theorem mA_92 (m : xM2) : (mk m)[92]? = some (.inl (181, .inl (m.1 92))) := rfl
theorem mS_92 (m : xM2) (f : Nat → Int32) : (mk m).set 92 (.inl (181, .inl f)) = mk (sA m 92 f) := rfl
theorem mA_93 (m : xM2) : (mk m)[93]? = some (.inl (7, .inl (m.1 93))) := rfl
theorem mS_93 (m : xM2) (f : Nat → Int32) : (mk m).set 93 (.inl (7, .inl f)) = mk (sA m 93 f) := rfl
theorem mA_94 (m : xM2) : (mk m)[94]? = some (.inl (124, .inl (m.1 94))) := rfl
theorem mS_94 (m : xM2) (f : Nat → Int32) : (mk m).set 94 (.inl (124, .inl f)) = mk (sA m 94 f) := rfl
theorem mA_95 (m : xM2) : (mk m)[95]? = some (.inl (128, .inl (m.1 95))) := rfl
theorem mS_95 (m : xM2) (f : Nat → Int32) : (mk m).set 95 (.inl (128, .inl f)) = mk (sA m 95 f) := rfl
theorem mA_96 (m : xM2) : (mk m)[96]? = some (.inl (64, .inl (m.1 96))) := rfl
theorem mS_96 (m : xM2) (f : Nat → Int32) : (mk m).set 96 (.inl (64, .inl f)) = mk (sA m 96 f) := rfl
theorem mA_97 (m : xM2) : (mk m)[97]? = some (.inl (3, .inl (m.1 97))) := rfl
theorem mS_97 (m : xM2) (f : Nat → Int32) : (mk m).set 97 (.inl (3, .inl f)) = mk (sA m 97 f) := rfl
theorem mA_98 (m : xM2) : (mk m)[98]? = some (.inl (31, .inl (m.1 98))) := rfl
theorem mS_98 (m : xM2) (f : Nat → Int32) : (mk m).set 98 (.inl (31, .inl f)) = mk (sA m 98 f) := rfl
theorem mA_99 (m : xM2) : (mk m)[99]? = some (.inl (3, .inl (m.1 99))) := rfl
theorem mS_99 (m : xM2) (f : Nat → Int32) : (mk m).set 99 (.inl (3, .inl f)) = mk (sA m 99 f) := rfl
theorem mA_100 (m : xM2) : (mk m)[100]? = some (.inl (30, .inl (m.1 100))) := rfl
theorem mS_100 (m : xM2) (f : Nat → Int32) : (mk m).set 100 (.inl (30, .inl f)) = mk (sA m 100 f) := rfl
theorem mA_101 (m : xM2) : (mk m)[101]? = some (.inl (4, .inl (m.1 101))) := rfl
theorem mS_101 (m : xM2) (f : Nat → Int32) : (mk m).set 101 (.inl (4, .inl f)) = mk (sA m 101 f) := rfl
theorem mA_102 (m : xM2) : (mk m)[102]? = some (.inl (4, .inl (m.1 102))) := rfl
theorem mS_102 (m : xM2) (f : Nat → Int32) : (mk m).set 102 (.inl (4, .inl f)) = mk (sA m 102 f) := rfl
theorem mA_103 (m : xM2) : (mk m)[103]? = some (.inl (160, .inl (m.1 103))) := rfl
theorem mS_103 (m : xM2) (f : Nat → Int32) : (mk m).set 103 (.inl (160, .inl f)) = mk (sA m 103 f) := rfl
theorem mA_104 (m : xM2) : (mk m)[104]? = some (.inl (40, .inl (m.1 104))) := rfl
theorem mS_104 (m : xM2) (f : Nat → Int32) : (mk m).set 104 (.inl (40, .inl f)) = mk (sA m 104 f) := rfl
