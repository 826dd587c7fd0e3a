/-! laid by wip/whole/gen.py: the shapes, and the pure function of each method -/
def LBook : List zD := [(0, 0, [3, 4, 0]), (1, 8, []), (1, 8, [])]
def LLeav : List zD := [(0, 1, [3, 0]), (1, 400, [])]
def LQ : List zD := [(0, 2, [3, 4, 5, 6]), (1, 5, []), (1, 5, []), (1, 405, []), (1, 405, [])]
def LSt : List zD := [(0, 3, [3, 4, 5, 10, 18, 20]), (1, 4, []), (1, 5, []), (0, 2, [6, 7, 8, 9]), (1, 5, []), (1, 5, []), (1, 405, []), (1, 405, []), (3, 4, [9, 10, 11, 12, 13, 14, 15]), (1, 400, []), (1, 400, []), (1, 400, []), (1, 400, []), (1, 400, []), (1, 400, []), (1, 400, []), (0, 1, [19, 0]), (1, 400, []), (0, 0, [21, 22, 0]), (1, 8, []), (1, 8, [])]
def LTx : List zD := [(0, 5, [3, 0, 0]), (1, 100, [])]
def LTr : List zD := [(0, 6, [3, 4, 5, 0]), (1, 20, []), (1, 20, []), (1, 20, [])]
def LTp : List zD := [(0, 4, [3, 0, 0]), (2, 60, [])]
def LM : List zD := [(0, 8, [3, 4, 5, 0, 6, 0, 7, 0, 8, 9, 10, 11, 0, 12, 13, 14, 21, 0, 0]), (1, 3253, []), (1, 3253, []), (1, 3253, []), (1, 400, []), (1, 100, []), (1, 120, []), (1, 120, []), (1, 120, []), (1, 6, []), (1, 6, []), (1, 6, []), (3, 5, [13, 14, 15, 16, 17, 18]), (2, 60, []), (2, 60, []), (2, 60, []), (2, 60, []), (2, 60, []), (2, 60, []), (2, 60, [])]
def LBook2 : List zD := [(0, 0, [3, 4, 0]), (1, 8, []), (1, 8, []), (0, 0, [6, 7, 0]), (1, 8, []), (1, 8, [])]
def LLeav2 : List zD := [(0, 1, [3, 0]), (1, 400, []), (0, 1, [5, 0]), (1, 400, [])]
def LQ2 : List zD := [(0, 2, [3, 4, 5, 6]), (1, 5, []), (1, 5, []), (1, 405, []), (1, 405, []), (0, 2, [8, 9, 10, 11]), (1, 5, []), (1, 5, []), (1, 405, []), (1, 405, [])]
def LQp : List zD := [(0, 2, [3, 4, 5, 6]), (1, 5, []), (1, 5, []), (1, 405, []), (1, 405, []), (1, 400, [])]
def LSt2 : List zD := [(0, 3, [3, 4, 5, 10, 18, 20]), (1, 4, []), (1, 5, []), (0, 2, [6, 7, 8, 9]), (1, 5, []), (1, 5, []), (1, 405, []), (1, 405, []), (3, 4, [9, 10, 11, 12, 13, 14, 15]), (1, 400, []), (1, 400, []), (1, 400, []), (1, 400, []), (1, 400, []), (1, 400, []), (1, 400, []), (0, 1, [19, 0]), (1, 400, []), (0, 0, [21, 22, 0]), (1, 8, []), (1, 8, []), (0, 3, [24, 25, 26, 31, 39, 41]), (1, 4, []), (1, 5, []), (0, 2, [27, 28, 29, 30]), (1, 5, []), (1, 5, []), (1, 405, []), (1, 405, []), (3, 4, [30, 31, 32, 33, 34, 35, 36]), (1, 400, []), (1, 400, []), (1, 400, []), (1, 400, []), (1, 400, []), (1, 400, []), (1, 400, []), (0, 1, [40, 0]), (1, 400, []), (0, 0, [42, 43, 0]), (1, 8, []), (1, 8, [])]
def LStTr : List zD := [(0, 3, [3, 4, 5, 10, 18, 20]), (1, 4, []), (1, 5, []), (0, 2, [6, 7, 8, 9]), (1, 5, []), (1, 5, []), (1, 405, []), (1, 405, []), (3, 4, [9, 10, 11, 12, 13, 14, 15]), (1, 400, []), (1, 400, []), (1, 400, []), (1, 400, []), (1, 400, []), (1, 400, []), (1, 400, []), (0, 1, [19, 0]), (1, 400, []), (0, 0, [21, 22, 0]), (1, 8, []), (1, 8, []), (0, 6, [24, 25, 26, 0]), (1, 20, []), (1, 20, []), (1, 20, [])]
def LTxTr : List zD := [(0, 5, [3, 0, 0]), (1, 100, []), (0, 6, [5, 6, 7, 0]), (1, 20, []), (1, 20, []), (1, 20, [])]
def LCp : List zD := [(1, 3253, []), (1, 3253, [])]
def LNo : List zD := []
def LX (κ : Bool) : List zD := [(0, 7, [3, 24, (if κ then 85 else 1), 45, 47, 0, 72]), (0, 3, [4, 5, 6, 11, 19, 21]), (1, 4, []), (1, 5, []), (0, 2, [7, 8, 9, 10]), (1, 5, []), (1, 5, []), (1, 405, []), (1, 405, []), (3, 4, [10, 11, 12, 13, 14, 15, 16]), (1, 400, []), (1, 400, []), (1, 400, []), (1, 400, []), (1, 400, []), (1, 400, []), (1, 400, []), (0, 1, [20, 0]), (1, 400, []), (0, 0, [22, 23, 0]), (1, 8, []), (1, 8, []), (0, 3, [25, 26, 27, 32, 40, 42]), (1, 4, []), (1, 5, []), (0, 2, [28, 29, 30, 31]), (1, 5, []), (1, 5, []), (1, 405, []), (1, 405, []), (3, 4, [31, 32, 33, 34, 35, 36, 37]), (1, 400, []), (1, 400, []), (1, 400, []), (1, 400, []), (1, 400, []), (1, 400, []), (1, 400, []), (0, 1, [41, 0]), (1, 400, []), (0, 0, [43, 44, 0]), (1, 8, []), (1, 8, []), (0, 5, [46, 0, 0]), (1, 100, []), (3, 3, [46, 50, 54, 58, 62, 66]), (0, 6, [49, 50, 51, 0]), (1, 20, []), (1, 20, []), (1, 20, []), (0, 6, [53, 54, 55, 0]), (1, 20, []), (1, 20, []), (1, 20, []), (0, 6, [57, 58, 59, 0]), (1, 20, []), (1, 20, []), (1, 20, []), (0, 6, [61, 62, 63, 0]), (1, 20, []), (1, 20, []), (1, 20, []), (0, 6, [65, 66, 67, 0]), (1, 20, []), (1, 20, []), (1, 20, []), (0, 6, [69, 70, 71, 0]), (1, 20, []), (1, 20, []), (1, 20, []), (3, 2, [71, 73, 75, 77, 79, 81]), (0, 4, [74, 0, 0]), (2, 60, []), (0, 4, [76, 0, 0]), (2, 60, []), (0, 4, [78, 0, 0]), (2, 60, []), (0, 4, [80, 0, 0]), (2, 60, []), (0, 4, [82, 0, 0]), (2, 60, []), (0, 4, [84, 0, 0]), (2, 60, [])] ++ (if κ then [(0, 3, [86, 87, 88, 93, 101, 103]), (1, 4, []), (1, 5, []), (0, 2, [89, 90, 91, 92]), (1, 5, []), (1, 5, []), (1, 405, []), (1, 405, []), (3, 4, [92, 93, 94, 95, 96, 97, 98]), (1, 400, []), (1, 400, []), (1, 400, []), (1, 400, []), (1, 400, []), (1, 400, []), (1, 400, []), (0, 1, [102, 0]), (1, 400, []), (0, 0, [104, 105, 0]), (1, 8, []), (1, 8, [])] else [])
def fX0_copyFrom (N : Nat) (M : zM) : Option zM :=
  zl (zcp M 4 1 0 0 8) fun M1 =>
  zl (zcp M1 5 2 0 0 8) fun M2 =>
  zl (zup M2 0 2 (M2 3 2)) fun M3 =>
  some M3
def fX1_copyFrom (N : Nat) (M : zM) : Option zM :=
  zl (zcp M 3 1 0 0 400) fun M1 =>
  zl (zup M1 0 1 (M1 2 1)) fun M2 =>
  some M2
def sJ9_floorMod_7cf53_18 (N : Nat) (x2 : Int) : Option Int :=
  some x2
def fJ9_floorMod_7cf53 (N : Nat) (a1 : Int) (a2 : Int) : Option Int :=
  zg ((0 ≤ a1 ∧ a1 ≤ 2147483647) ∧ 0 < a2 ∧ a2 ≤ 2147483647) <|
  zl ((a1 % a2)) fun v2 =>
  zg (zR (zxor a1 a2)) <|
  zi (0 ≤ (zxor a1 a2)) (
    sJ9_floorMod_7cf53_18 N v2) <|
  zg (zR v2) <|
  zi (v2 = 0) (
    sJ9_floorMod_7cf53_18 N v2) <|
  some (v2 + a2)
def fX1_add (N : Nat) (a1 : Int) (M : zM) : Option zM :=
  zc (fJ9_floorMod_7cf53 N (M 0 1) (400:Int)) fun r1 =>
  zg (0 ≤ r1 ∧ r1 < (400:Int)) <|
  zl (zup M 1 r1.toNat a1) fun M4 =>
  zl (zup M4 0 1 ((M4 0 1) + (1:Int))) fun M5 =>
  some M5
def fX1_at (N : Nat) (a1 : Int) (M : zM) : Option (Int × zM) :=
  zc (fJ9_floorMod_7cf53 N a1 (400:Int)) fun r1 =>
  zg (0 ≤ r1 ∧ r1 < (400:Int)) <|
  some ((M 1 r1.toNat), M)
def fX2_copyFrom (N : Nat) (M : zM) : Option zM :=
  zl (zcp M 6 1 0 0 5) fun M1 =>
  zl (zcp M1 7 2 0 0 5) fun M2 =>
  zl (zcp M2 8 3 0 0 405) fun M3 =>
  zl (zcp M3 9 4 0 0 405) fun M4 =>
  some M4
def fX2_add (N : Nat) (a1 : Int) (a2 : Int) (a3 : Int) (M : zM) : Option zM :=
  zl (((400:Int) + a1)) fun v1 =>
  zg (0 ≤ v1 ∧ v1 < (405:Int)) <|
  zl ((M 4 v1.toNat)) fun v3 =>
  zg (0 ≤ v3 ∧ v3 < (405:Int)) <|
  zl (zup M 3 v3.toNat a2) fun M5 =>
  zg (0 ≤ a2 ∧ a2 < (405:Int)) <|
  zl (zup M5 4 a2.toNat v3) fun M7 =>
  zl (zup M7 3 a2.toNat v1) fun M8 =>
  zl (zup M8 4 v1.toNat a2) fun M9 =>
  zg (0 ≤ a1 ∧ a1 < (5:Int)) <|
  zl (zup M9 1 a1.toNat ((M9 1 a1.toNat) + (1:Int))) fun M11 =>
  zl (zup M11 2 a1.toNat ((M11 2 a1.toNat) + a3)) fun M12 =>
  some M12
def fX2_remove (N : Nat) (a1 : Int) (a2 : Int) (a3 : Int) (M : zM) : Option zM :=
  zg (0 ≤ a2 ∧ a2 < (405:Int)) <|
  zg (0 ≤ (M 4 a2.toNat) ∧ (M 4 a2.toNat) < (405:Int)) <|
  zl (zup M 3 (M 4 a2.toNat).toNat (M 3 a2.toNat)) fun M3 =>
  zg (0 ≤ (M3 3 a2.toNat) ∧ (M3 3 a2.toNat) < (405:Int)) <|
  zl (zup M3 4 (M3 3 a2.toNat).toNat (M3 4 a2.toNat)) fun M5 =>
  zg (0 ≤ a1 ∧ a1 < (5:Int)) <|
  zl (zup M5 1 a1.toNat ((M5 1 a1.toNat) - (1:Int))) fun M7 =>
  zl (zup M7 2 a1.toNat ((M7 2 a1.toNat) - a3)) fun M8 =>
  some M8
def fX2_oldest (N : Nat) (a1 : Int) (M : zM) : Option (Int × zM) :=
  zg (0 ≤ ((400:Int) + a1) ∧ ((400:Int) + a1) < (405:Int)) <|
  some ((M 3 ((400:Int) + a1).toNat), M)
def sX2_keyAt_9 (N : Nat) (k9 : Int → Int → Int → Int → zM → Option (Int × zM)) (x1 : Int) (x2 : Int) (x3 : Int) (x4 : Int) (M0 : zM) : Option (Int × zM) :=
  zg (0 ≤ x1 ∧ x1 < (5:Int)) <|
  zg (zR x4) <|
  zg (zR (M0 1 x1.toNat)) <|
  zi ((M0 1 x1.toNat) ≤ x4) (
    some ((-5:Int), M0)) <|
  zg (zR x2) <|
  zi (x4 = x2) (
    some (x3, M0)) <|
  zg (0 ≤ x3 ∧ x3 < (405:Int)) <|
  zl ((M0 3 x3.toNat)) fun v11 =>
  zl (x4 + (1:Int)) fun v12 =>
  k9 x1 x2 v11 v12 M0
def fX2_keyAt_9 (N : Nat) : Nat → Int → Int → Int → Int → zM → Option (Int × zM)
  | 0, _, _, _, _, _ => none
  | n + 1, x1, x2, x3, x4, M0 => sX2_keyAt_9 N (fun x1 x2 x3 x4 M0 => fX2_keyAt_9 N n x1 x2 x3 x4 M0) x1 x2 x3 x4 M0
def fX2_keyAt (N : Nat) (a1 : Int) (a2 : Int) (M : zM) : Option (Int × zM) :=
  zc2 (fX2_oldest N a1 M) fun r3 M2 =>
  zl (r3) fun v4 =>
  zl ((0:Int)) fun v5 =>
  fX2_keyAt_9 N N a1 a2 v4 v5 M2
def sX2_placeOf_9 (N : Nat) (k9 : Int → Int → Int → Int → zM → Option (Int × zM)) (x1 : Int) (x2 : Int) (x3 : Int) (x4 : Int) (M0 : zM) : Option (Int × zM) :=
  zg (0 ≤ x1 ∧ x1 < (5:Int)) <|
  zg (zR x4) <|
  zg (zR (M0 1 x1.toNat)) <|
  zi ((M0 1 x1.toNat) ≤ x4) (
    some ((-5:Int), M0)) <|
  zg (zR x3) <|
  zg (zR x2) <|
  zi (x3 = x2) (
    some (x4, M0)) <|
  zg (0 ≤ x3 ∧ x3 < (405:Int)) <|
  zl ((M0 3 x3.toNat)) fun v12 =>
  zl (x4 + (1:Int)) fun v13 =>
  k9 x1 x2 v12 v13 M0
def fX2_placeOf_9 (N : Nat) : Nat → Int → Int → Int → Int → zM → Option (Int × zM)
  | 0, _, _, _, _, _ => none
  | n + 1, x1, x2, x3, x4, M0 => sX2_placeOf_9 N (fun x1 x2 x3 x4 M0 => fX2_placeOf_9 N n x1 x2 x3 x4 M0) x1 x2 x3 x4 M0
def fX2_placeOf (N : Nat) (a1 : Int) (a2 : Int) (M : zM) : Option (Int × zM) :=
  zc2 (fX2_oldest N a1 M) fun r3 M2 =>
  zl (r3) fun v4 =>
  zl ((0:Int)) fun v5 =>
  fX2_placeOf_9 N N a1 a2 v4 v5 M2
def is_0n5 : List Nat := [0, 1, 2, 3, 4]
def sX2_oldestLoose_9 (N : Nat) (k9 : Int → Int → Int → zM → Option (Int × zM)) (x1 : Int) (x3 : Int) (x4 : Int) (M0 : zM) : Option (Int × zM) :=
  zg (0 ≤ x1 ∧ x1 < (5:Int)) <|
  zg (zR x4) <|
  zg (zR (M0 1 x1.toNat)) <|
  zi ((M0 1 x1.toNat) ≤ x4) (
    some ((-5:Int), M0)) <|
  zg (0 ≤ x3 ∧ x3 < (400:Int)) <|
  zg (zR (M0 5 x3.toNat)) <|
  zi ((M0 5 x3.toNat) = 0) (
    some (x3, M0)) <|
  zg (0 ≤ x3 ∧ x3 < (405:Int)) <|
  zl ((M0 3 x3.toNat)) fun v13 =>
  zl (x4 + (1:Int)) fun v14 =>
  k9 x1 v13 v14 M0
def fX2_oldestLoose_9 (N : Nat) : Nat → Int → Int → Int → zM → Option (Int × zM)
  | 0, _, _, _, _ => none
  | n + 1, x1, x3, x4, M0 => sX2_oldestLoose_9 N (fun x1 x3 x4 M0 => fX2_oldestLoose_9 N n x1 x3 x4 M0) x1 x3 x4 M0
def fX2_oldestLoose (N : Nat) (a1 : Int) (M : zM) : Option (Int × zM) :=
  zc2 (fX2_oldest N a1 (zpk is_0n5 M)) fun r3 M2 =>
  zl (zpt is_0n5 M M2) fun M4 =>
  zl (r3) fun v5 =>
  zl ((0:Int)) fun v6 =>
  fX2_oldestLoose_9 N N a1 v5 v6 M4
def is_3n5_24n5 : List Nat := [3, 4, 5, 6, 7, 24, 25, 26, 27, 28]
def is_16n2_37n2 : List Nat := [16, 17, 37, 38]
def is_18n3_39n3 : List Nat := [18, 19, 20, 39, 40, 41]
def sX3_copyFrom_41 (N : Nat) (k41 : Int → zM → Option zM) (x2 : Int) (M0 : zM) : Option zM :=
  zg (zR x2) <|
  zi ((7:Int) ≤ x2) (
    zc (fX1_copyFrom N (zpk is_16n2_37n2 M0)) fun M9 =>
    zl (zpt is_16n2_37n2 M0 M9) fun M10 =>
    zc (fX0_copyFrom N (zpk is_18n3_39n3 M10)) fun M12 =>
    zl (zpt is_18n3_39n3 M10 M12) fun M13 =>
    some M13) <|
  zg (0 ≤ x2 ∧ x2 < (7:Int)) <|
  zl (zcp M0 (30 + 1 * x2.toNat) (9 + 1 * x2.toNat) 0 0 400) fun M16 =>
  zl (x2 + (1:Int)) fun v17 =>
  k41 v17 M16
def fX3_copyFrom_41 (N : Nat) : Nat → Int → zM → Option zM
  | 0, _, _ => none
  | n + 1, x2, M0 => sX3_copyFrom_41 N (fun x2 M0 => fX3_copyFrom_41 N n x2 M0) x2 M0
def fX3_copyFrom (N : Nat) (M : zM) : Option zM :=
  zl (zcp M 22 1 0 0 4) fun M1 =>
  zl (zcp M1 23 2 0 0 5) fun M2 =>
  zc (fX2_copyFrom N (zpk is_3n5_24n5 M2)) fun M4 =>
  zl (zpt is_3n5_24n5 M2 M4) fun M5 =>
  zl ((0:Int)) fun v6 =>
  fX3_copyFrom_41 N N v6 M5
def sX3_isThing_19 (N : Nat) (M0 : zM) : Option (Int × zM) :=
  some ((1:Int), M0)
def fX3_isThing (N : Nat) (a1 : Int) (M : zM) : Option (Int × zM) :=
  zg (0 ≤ a1 ∧ a1 < (400:Int)) <|
  zl ((M 9 a1.toNat)) fun v2 =>
  zg (zR v2) <|
  zi (v2 = (1:Int)) (
    sX3_isThing_19 N M) <|
  zi (v2 = (2:Int)) (
    sX3_isThing_19 N M) <|
  some ((0:Int), M)
def fX3_thingCount (N : Nat) (M : zM) : Option (Int × zM) :=
  some (((M 4 1) + (M 4 2)), M)
def fX3_weightOfThings (N : Nat) (M : zM) : Option (Int × zM) :=
  some (((M 5 1) + (M 5 2)), M)
def is_3n5 : List Nat := [3, 4, 5, 6, 7]
def fX3_placeOf (N : Nat) (a1 : Int) (M : zM) : Option (Int × zM) :=
  zg (0 ≤ a1 ∧ a1 < (400:Int)) <|
  zl ((M 9 a1.toNat)) fun v2 =>
  zg (zR v2) <|
  zi (v2 = 0) (
    some ((-5:Int), M)) <|
  zc2 (fX2_placeOf N v2 a1 (zpk is_3n5 M)) fun r6 M5 =>
  zl (zpt is_3n5 M M5) fun M7 =>
  some (r6, M7)
def sX3_move_30 (N : Nat) (x1 : Int) (x2 : Int) (M0 : zM) : Option zM :=
  zg (0 ≤ x1 ∧ x1 < (400:Int)) <|
  zl (zup M0 9 x1.toNat x2) fun M5 =>
  zg (zR x2) <|
  zi (x2 = 0) (
    some M5) <|
  zc (fX2_add N x2 x1 (M5 10 x1.toNat) (zpk is_3n5 M5)) fun M8 =>
  zl (zpt is_3n5 M5 M8) fun M9 =>
  some M9
def fX3_move (N : Nat) (a1 : Int) (a2 : Int) (M : zM) : Option zM :=
  zg (0 ≤ a1 ∧ a1 < (400:Int)) <|
  zl ((M 9 a1.toNat)) fun v2 =>
  zg (zR v2) <|
  zi (v2 = 0) (
    sX3_move_30 N a1 a2 M) <|
  zc (fX2_remove N v2 a1 (M 10 a1.toNat) (zpk is_3n5 M)) fun M11 =>
  zl (zpt is_3n5 M M11) fun M12 =>
  sX3_move_30 N a1 a2 M12
def sX3_hit_71 (N : Nat) (y0 : Int) (y1 : Int) (M0 : zM) : Option zM :=
  zc (fX3_move N y1 y0 M0) fun M9 =>
  some M9
def sX3_hit_59 (N : Nat) (x1 : Int) (x2 : Int) (y0 : Int) (M0 : zM) : Option zM :=
  zl (y0) fun v6 =>
  zg (zR v6) <|
  zi (v6 = 0) (
    sX3_hit_71 N x2 x1 M0) <|
  sX3_hit_71 N (2:Int) x1 M0
def sX3_hit_58 (N : Nat) (x1 : Int) (x2 : Int) (M0 : zM) : Option zM :=
  sX3_hit_59 N x1 x2 (0:Int) M0
def fX3_hit (N : Nat) (a1 : Int) (M : zM) : Option zM :=
  zg (0 ≤ a1 ∧ a1 < (400:Int)) <|
  zl ((M 9 a1.toNat)) fun v2 =>
  zg (zR ((M 12 a1.toNat) + (1:Int))) <|
  zl (zup M 12 a1.toNat (zmin ((M 12 a1.toNat) + (1:Int)) (99:Int))) fun M4 =>
  zg (zR v2) <|
  zi (v2 = (1:Int)) (
    zg (zR (M4 12 a1.toNat)) <|
    zg (zR (M4 1 2)) <|
    zi ((M4 12 a1.toNat) < (M4 1 2)) (
      sX3_hit_58 N a1 v2 M4) <|
    sX3_hit_59 N a1 v2 (1:Int) M4) <|
  sX3_hit_58 N a1 v2 M4
def fX3_replace (N : Nat) (a1 : Int) (a2 : Int) (a3 : Int) (a4 : Int) (M : zM) : Option zM :=
  zg (0 ≤ a1 ∧ a1 < (400:Int)) <|
  zg (0 ≤ (M 9 a1.toNat) ∧ (M 9 a1.toNat) < (5:Int)) <|
  zl (zup M 5 (M 9 a1.toNat).toNat ((M 5 (M 9 a1.toNat).toNat) + (a3 - (M 10 a1.toNat)))) fun M3 =>
  zl (zup M3 15 a1.toNat a2) fun M4 =>
  zl (zup M4 10 a1.toNat a3) fun M5 =>
  zl (zup M5 11 a1.toNat a4) fun M6 =>
  zc (fX3_hit N a1 M6) fun M8 =>
  some M8
def sX3_admit_165 (N : Nat) (y0 : Int) (y1 : Int) (M0 : zM) : Option zM :=
  zc (fX3_move N y1 y0 M0) fun M19 =>
  some M19
def sX3_admit_143 (N : Nat) (x1 : Int) (x5 : Int) (y0 : Int) (y1 : Int) (M0 : zM) : Option zM :=
  zg (0 ≤ y1 ∧ y1 < (400:Int)) <|
  zl (zup M0 13 y1.toNat y0) fun M14 =>
  zg (0 ≤ x1 ∧ x1 < (400:Int)) <|
  zl (zup M14 14 x1.toNat (0:Int)) fun M16 =>
  zg (zR x5) <|
  zi (x5 = 0) (
    sX3_admit_165 N (1:Int) x1 M16) <|
  sX3_admit_165 N (2:Int) x1 M16
def sX3_admit_72 (N : Nat) (x1 : Int) (x2 : Int) (x3 : Int) (x4 : Int) (x5 : Int) (M0 : zM) : Option zM :=
  zl (zup M0 2 4 ((M0 2 4) + x4)) fun M6 =>
  zg (0 ≤ x1 ∧ x1 < (400:Int)) <|
  zl (zup M6 15 x1.toNat x2) fun M8 =>
  zl (zup M8 10 x1.toNat x3) fun M9 =>
  zl (zup M9 11 x1.toNat x4) fun M10 =>
  zl (zup M10 12 x1.toNat (0:Int)) fun M11 =>
  zg (zR x5) <|
  zi (x5 = 0) (
    sX3_admit_143 N x1 x5 (M11 1 3) x1 M11) <|
  sX3_admit_143 N x1 x5 (0:Int) x1 M11
def fX3_admit (N : Nat) (a1 : Int) (a2 : Int) (a3 : Int) (a4 : Int) (M : zM) : Option zM :=
  zg (0 ≤ a1 ∧ a1 < (400:Int)) <|
  zl ((M 9 a1.toNat)) fun v2 =>
  zc (fX3_move N a1 (0:Int) M) fun M4 =>
  zg (zR v2) <|
  zi (v2 = (3:Int)) (
    zg (zR ((M4 1 1) - a3)) <|
    zl (zup M4 1 1 (zmax ((M4 1 1) - a3) (0:Int))) fun M24 =>
    sX3_admit_72 N a1 a2 a3 a4 v2 M24) <|
  zi (v2 = (4:Int)) (
    zg (zR ((M4 1 1) + a3)) <|
    zg (zR (M4 1 0)) <|
    zl (zup M4 1 1 (zmin ((M4 1 1) + a3) (M4 1 0))) fun M22 =>
    sX3_admit_72 N a1 a2 a3 a4 v2 M22) <|
  sX3_admit_72 N a1 a2 a3 a4 v2 M4
def is_3n5_14n1 : List Nat := [3, 4, 5, 6, 7, 14]
def sX3_demote_2 (N : Nat) (k2 : Int → zM → Option zM) (x1 : Int) (M0 : zM) : Option zM :=
  zg (zR x1) <|
  zi ((1000000:Int) ≤ x1) (
    some M0) <|
  zg (zR (M0 5 2)) <|
  zg (zR (M0 1 1)) <|
  zi ((M0 5 2) ≤ (M0 1 1)) (
    some M0) <|
  zc2 (fX2_oldestLoose N (2:Int) (zpk is_3n5_14n1 M0)) fun r7 M6 =>
  zl (zpt is_3n5_14n1 M0 M6) fun M8 =>
  zl (r7) fun v9 =>
  zg (zR v9) <|
  zi (0 ≤ v9) (
    zg (0 ≤ v9 ∧ v9 < (400:Int)) <|
    zl (zup M8 12 v9.toNat (0:Int)) fun M12 =>
    zc (fX3_move N v9 (1:Int) M12) fun M14 =>
    zl (x1 + (1:Int)) fun v15 =>
    k2 v15 M14) <|
  some M8
def fX3_demote_2 (N : Nat) : Nat → Int → zM → Option zM
  | 0, _, _ => none
  | n + 1, x1, M0 => sX3_demote_2 N (fun x1 M0 => fX3_demote_2 N n x1 M0) x1 M0
def fX3_demote (N : Nat) (M : zM) : Option zM :=
  zl ((0:Int)) fun v1 =>
  fX3_demote_2 N N v1 M
def is_16n2 : List Nat := [16, 17]
def sX3_makeRoom_115 (N : Nat) (k2 : Int → zM → Option zM) (x1 : Int) (M0 : zM) : Option zM :=
  zl (x1 + (1:Int)) fun v22 =>
  k2 v22 M0
def sX3_makeRoom_101 (N : Nat) (k2 : Int → zM → Option zM) (x1 : Int) (x2 : Int) (x3 : Int) (M0 : zM) : Option zM :=
  zc (fX3_move N x3 x2 M0) fun M18 =>
  zc (fX1_add N x3 (zpk is_16n2 M18)) fun M20 =>
  zl (zpt is_16n2 M18 M20) fun M21 =>
  sX3_makeRoom_115 N k2 x1 M21
def sX3_makeRoom_59 (N : Nat) (k2 : Int → zM → Option zM) (x1 : Int) (x2 : Int) (x3 : Int) (M0 : zM) : Option zM :=
  zg (zR x3) <|
  zi (0 ≤ x3) (
    zg (zR x2) <|
    zi (x2 = (3:Int)) (
      zg (0 ≤ x3 ∧ x3 < (400:Int)) <|
      zg (zR (M0 13 x3.toNat)) <|
      zi ((M0 13 x3.toNat) ≤ 0) (
        sX3_makeRoom_101 N k2 x1 x2 x3 M0) <|
      zl (zup M0 13 x3.toNat ((M0 13 x3.toNat) - (1:Int))) fun M25 =>
      zc (fX3_move N x3 (1:Int) M25) fun M27 =>
      sX3_makeRoom_115 N k2 x1 M27) <|
    sX3_makeRoom_101 N k2 x1 x2 x3 M0) <|
  some M0
def sX3_makeRoom_2 (N : Nat) (k2 : Int → zM → Option zM) (x1 : Int) (M0 : zM) : Option zM :=
  zg (zR x1) <|
  zi ((1000000:Int) ≤ x1) (
    some M0) <|
  zc2 (fX3_weightOfThings N M0) fun r5 M4 =>
  zg (zR r5) <|
  zg (zR (M4 1 0)) <|
  zi (r5 ≤ (M4 1 0)) (
    some M4) <|
  zl ((3:Int)) fun v8 =>
  zc2 (fX2_oldestLoose N (1:Int) (zpk is_3n5_14n1 M4)) fun r11 M10 =>
  zl (zpt is_3n5_14n1 M4 M10) fun M12 =>
  zl (r11) fun v13 =>
  zg (zR v13) <|
  zi (0 ≤ v13) (
    sX3_makeRoom_59 N k2 x1 v8 v13 M12) <|
  zl ((4:Int)) fun v28 =>
  zc2 (fX2_oldestLoose N (2:Int) (zpk is_3n5_14n1 M12)) fun r31 M30 =>
  zl (zpt is_3n5_14n1 M12 M30) fun M32 =>
  zl (r31) fun v33 =>
  sX3_makeRoom_59 N k2 x1 v28 v33 M32
def fX3_makeRoom_2 (N : Nat) : Nat → Int → zM → Option zM
  | 0, _, _ => none
  | n + 1, x1, M0 => sX3_makeRoom_2 N (fun x1 M0 => fX3_makeRoom_2 N n x1 M0) x1 M0
def fX3_makeRoom (N : Nat) (M : zM) : Option zM :=
  zl ((0:Int)) fun v1 =>
  fX3_makeRoom_2 N N v1 M
def sX3_forget_12 (N : Nat) (k12 : Int → Int → Int → zM → Option zM) (x1 : Int) (x2 : Int) (x3 : Int) (M0 : zM) : Option zM :=
  zg (zR x3) <|
  zg (zR x2) <|
  zi (x2 ≤ x3) (
    some M0) <|
  zg (0 ≤ x1 ∧ x1 < (5:Int)) <|
  zg (zR (M0 5 x1.toNat)) <|
  zg (zR (M0 1 0)) <|
  zi ((M0 5 x1.toNat) ≤ (M0 1 0)) (
    some M0) <|
  zc2 (fX2_oldest N x1 (zpk is_3n5 M0)) fun r11 M10 =>
  zl (zpt is_3n5 M0 M10) fun M12 =>
  zc (fX3_move N r11 (0:Int) M12) fun M14 =>
  zl (x3 + (1:Int)) fun v15 =>
  k12 x1 x2 v15 M14
def fX3_forget_12 (N : Nat) : Nat → Int → Int → Int → zM → Option zM
  | 0, _, _, _, _ => none
  | n + 1, x1, x2, x3, M0 => sX3_forget_12 N (fun x1 x2 x3 M0 => fX3_forget_12 N n x1 x2 x3 M0) x1 x2 x3 M0
def fX3_forget (N : Nat) (a1 : Int) (M : zM) : Option zM :=
  zg (0 ≤ a1 ∧ a1 < (5:Int)) <|
  zl ((M 4 a1.toNat)) fun v2 =>
  zl ((0:Int)) fun v3 =>
  fX3_forget_12 N N a1 v2 v3 M
def fX3_trim (N : Nat) (M : zM) : Option zM :=
  zc (fX3_demote N M) fun M2 =>
  zc (fX3_makeRoom N M2) fun M4 =>
  zc (fX3_forget N (3:Int) M4) fun M6 =>
  zc (fX3_forget N (4:Int) M6) fun M8 =>
  some M8
def sX3_store_62 (N : Nat) (M0 : zM) : Option (Int × zM) :=
  some ((2:Int), M0)
def sX3_store_39 (N : Nat) (x5 : Int) (M0 : zM) : Option (Int × zM) :=
  zc (fX3_trim N M0) fun M10 =>
  zg (zR x5) <|
  zi (x5 = 0) (
    some ((0:Int), M10)) <|
  zi (x5 = (1:Int)) (
    sX3_store_62 N M10) <|
  zi (x5 = (2:Int)) (
    sX3_store_62 N M10) <|
  some ((1:Int), M10)
def fX3_store (N : Nat) (a1 : Int) (a2 : Int) (a3 : Int) (a4 : Int) (M : zM) : Option (Int × zM) :=
  zg (0 ≤ a1 ∧ a1 < (400:Int)) <|
  zl ((M 9 a1.toNat)) fun v2 =>
  zc2 (fX3_isThing N a1 M) fun r5 M4 =>
  zg (zR r5) <|
  zi (r5 = 0) (
    zc (fX3_admit N a1 a2 a3 a4 M4) fun M8 =>
    sX3_store_39 N v2 M8) <|
  zc (fX3_replace N a1 a2 a3 a4 M4) fun M13 =>
  sX3_store_39 N v2 M13
def fX3_fetch (N : Nat) (a1 : Int) (M : zM) : Option (Int × zM) :=
  zc2 (fX3_isThing N a1 M) fun r3 M2 =>
  zg (zR r3) <|
  zi (r3 = 0) (
    zl (zup M2 2 1 ((M2 2 1) + (1:Int))) fun M5 =>
    zg (0 ≤ a1 ∧ a1 < (400:Int)) <|
    zg (zR (M5 9 a1.toNat)) <|
    zi ((M5 9 a1.toNat) = 0) (
      some ((0:Int), M5)) <|
    zl (zup M5 2 2 ((M5 2 2) + (1:Int))) fun M8 =>
    some ((0:Int), M8)) <|
  zc (fX3_hit N a1 M2) fun M10 =>
  zg (0 ≤ a1 ∧ a1 < (400:Int)) <|
  zl (zup M10 2 3 ((M10 2 3) + (M10 11 a1.toNat))) fun M12 =>
  zl (zup M12 2 0 ((M12 2 0) + (1:Int))) fun M13 =>
  zc (fX3_trim N M13) fun M15 =>
  some ((1:Int), M15)
def is_0n21 : List Nat := [0, 1, 2, 3, 4, 5, 6, 7, 8, 9, 10, 11, 12, 13, 14, 15, 16, 17, 18, 19, 20]
def sX3_perform_106 (N : Nat) (k9 : Int → Int → zM → Option (Int × zM)) (x2 : Int) (x3 : Int) (M0 : zM) : Option (Int × zM) :=
  zl (x3 + (1:Int)) fun v12 =>
  k9 x2 v12 M0
def sX3_perform_9 (N : Nat) (k9 : Int → Int → zM → Option (Int × zM)) (x2 : Int) (x3 : Int) (M0 : zM) : Option (Int × zM) :=
  zg (zR x3) <|
  zg (zR (M0 21 3)) <|
  zi ((M0 21 3) ≤ x3) (
    some (((M0 2 0) - x2), M0)) <|
  zg (0 ≤ x3 ∧ x3 < (20:Int)) <|
  zl ((M0 23 x3.toNat)) fun v6 =>
  zg (zR (M0 22 x3.toNat)) <|
  zi ((M0 22 x3.toNat) = (103:Int)) (
    zc2 (fX3_fetch N v6 (zpk is_0n21 M0)) fun r10 M9 =>
    zl (zpt is_0n21 M0 M9) fun M11 =>
    sX3_perform_106 N k9 x2 x3 M11) <|
  zi ((M0 22 x3.toNat) = (112:Int)) (
    zg (zR (M0 24 x3.toNat)) <|
    zg (zR (M0 1 0)) <|
    zi ((M0 1 0) < (M0 24 x3.toNat)) (
      sX3_perform_106 N k9 x2 x3 M0) <|
    zc2 (fX3_store N v6 (0:Int) (M0 24 x3.toNat) (1:Int) (zpk is_0n21 M0)) fun r17 M16 =>
    zl (zpt is_0n21 M0 M16) fun M18 =>
    sX3_perform_106 N k9 x2 x3 M18) <|
  zc (fX3_move N v6 (0:Int) (zpk is_0n21 M0)) fun M20 =>
  zl (zpt is_0n21 M0 M20) fun M21 =>
  sX3_perform_106 N k9 x2 x3 M21
def fX3_perform_9 (N : Nat) : Nat → Int → Int → zM → Option (Int × zM)
  | 0, _, _, _ => none
  | n + 1, x2, x3, M0 => sX3_perform_9 N (fun x2 x3 M0 => fX3_perform_9 N n x2 x3 M0) x2 x3 M0
def fX3_perform (N : Nat) (M : zM) : Option (Int × zM) :=
  zl ((M 2 0)) fun v1 =>
  zl ((0:Int)) fun v2 =>
  fX3_perform_9 N N v1 v2 M
def sX4_become_2 (N : Nat) (k2 : Int → Int → Int → zM → Option zM) (x1 : Int) (x2 : Int) (x3 : Int) (M0 : zM) : Option zM :=
  zg (zR x3) <|
  zi ((60:Int) ≤ x3) (
    zl (zup M0 0 1 x1) fun M3 =>
    zl (zup M3 0 2 x2) fun M4 =>
    some M4) <|
  zg (0 ≤ x3 ∧ x3 < (60:Int)) <|
  zl (zup M0 1 x3.toNat (0:Int)) fun M6 =>
  zl (x3 + (1:Int)) fun v7 =>
  k2 x1 x2 v7 M6
def fX4_become_2 (N : Nat) : Nat → Int → Int → Int → zM → Option zM
  | 0, _, _, _, _ => none
  | n + 1, x1, x2, x3, M0 => sX4_become_2 N (fun x1 x2 x3 M0 => fX4_become_2 N n x1 x2 x3 M0) x1 x2 x3 M0
def fX4_become (N : Nat) (a1 : Int) (a2 : Int) (M : zM) : Option zM :=
  zl ((0:Int)) fun v1 =>
  fX4_become_2 N N a1 a2 v1 M
def fX4_asItem (N : Nat) (a1 : Int) (M : zM) : Option (Int × zM) :=
  zg (zR (M 0 1)) <|
  zi ((M 0 1) < (0:Int) ∨ (3:Int) < (M 0 1)) (
    zg (zRL a1) <|
    zi (a1 = (0:Int)) (
      some ((0:Int), M)) <|
    some ((1:Int), M)) <|
  zi ((M 0 1) = (0:Int)) (
    zg (zR (zB (zI a1))) <|
    some ((zB (zI a1)), M)) <|
  zi ((M 0 1) = (1:Int)) (
    zg (zR (zS (zI a1))) <|
    some ((zS (zI a1)), M)) <|
  zi ((M 0 1) = (2:Int)) (
    zg (zR (zI a1)) <|
    some ((zI a1), M)) <|
  zi ((M 0 1) = (3:Int)) (
    some (a1, M)) <|
  none
def fX4_hasRange (N : Nat) (a1 : Int) (a2 : Int) (M : zM) : Option (Int × zM) :=
  zg (zR a1) <|
  zi (a1 < 0) (
    some ((0:Int), M)) <|
  zg (zR a2) <|
  zi (a2 < 0) (
    some ((0:Int), M)) <|
  zg (zR (M 0 2)) <|
  zi ((M 0 2) < a2) (
    some ((0:Int), M)) <|
  zg (zR ((M 0 2) - a2)) <|
  zi (((M 0 2) - a2) < a1) (
    some ((0:Int), M)) <|
  some ((1:Int), M)
def fX5_next (N : Nat) (M : zM) : Option (Int × zM) :=
  zg (zR (M 0 2)) <|
  zg (zR (M 0 1)) <|
  zi ((M 0 1) ≤ (M 0 2)) (
    some ((-5:Int), M)) <|
  zg (0 ≤ (M 0 2) ∧ (M 0 2) < (100:Int)) <|
  some ((M 1 (M 0 2).toNat), M)
def fX5_skip (N : Nat) (a1 : Int) (a2 : Int) (M : zM) : Option (Int × zM) :=
  zc2 (fX5_next N M) fun r3 M2 =>
  zl (r3) fun v4 =>
  zg (zR v4) <|
  zg (zR a1) <|
  zi (v4 < a1) (
    some ((0:Int), M2)) <|
  zg (zR a2) <|
  zi (v4 ≤ a2) (
    zl (zup M2 0 2 ((M2 0 2) + (1:Int))) fun M8 =>
    some ((1:Int), M8)) <|
  some ((0:Int), M2)
def is_0n2 : List Nat := [0, 1]
def fX5_readWeight (N : Nat) (a2 : Int) (M : zM) : Option (Int × zM) :=
  zc2 (fX5_skip N (61:Int) (61:Int) (zpk is_0n2 M)) fun r3 M2 =>
  zl (zpt is_0n2 M M2) fun M4 =>
  zg (zR r3) <|
  zi (r3 = 0) (
    some ((0:Int), M4)) <|
  zc2 (fX5_next N (zpk is_0n2 M4)) fun r8 M7 =>
  zl (zpt is_0n2 M4 M7) fun M9 =>
  zg (0 ≤ a2 ∧ a2 < (20:Int)) <|
  zl (zup M9 5 a2.toNat (r8 - (48:Int))) fun M11 =>
  zc2 (fX5_skip N (49:Int) (57:Int) (zpk is_0n2 M11)) fun r14 M13 =>
  zl (zpt is_0n2 M11 M13) fun M15 =>
  zg (r14 = 0 ∨ r14 = 1) <|
  some (r14, M15)
def sX5_readClause_145 (N : Nat) (M0 : zM) : Option (Int × zM) :=
  some ((1:Int), M0)
def sX5_readClause_109 (N : Nat) (x2 : Int) (x3 : Int) (x4 : Int) (x5 : Int) (M0 : zM) : Option (Int × zM) :=
  zg (0 ≤ x2 ∧ x2 < (20:Int)) <|
  zl (zup M0 3 x2.toNat x3) fun M39 =>
  zl (zup M39 4 x2.toNat ((x4 * (100:Int)) + x5)) fun M40 =>
  zg (zR x3) <|
  zi (x3 = (112:Int)) (
    zc2 (fX5_readWeight N x2 M40) fun r44 M43 =>
    zg (zR r44) <|
    zi (r44 = 0) (
      some ((0:Int), M43)) <|
    sX5_readClause_145 N M43) <|
  sX5_readClause_145 N M40
def sX5_readClause_25 (N : Nat) (x2 : Int) (x3 : Int) (M0 : zM) : Option (Int × zM) :=
  zl (zup M0 0 2 ((M0 0 2) + (1:Int))) fun M7 =>
  zc2 (fX5_next N (zpk is_0n2 M7)) fun r10 M9 =>
  zl (zpt is_0n2 M7 M9) fun M11 =>
  zl ((r10 - (97:Int))) fun v12 =>
  zc2 (fX5_skip N (97:Int) (100:Int) (zpk is_0n2 M11)) fun r15 M14 =>
  zl (zpt is_0n2 M11 M14) fun M16 =>
  zg (zR r15) <|
  zi (r15 = 0) (
    some ((0:Int), M16)) <|
  zc2 (fX5_next N (zpk is_0n2 M16)) fun r20 M19 =>
  zl (zpt is_0n2 M16 M19) fun M21 =>
  zl ((r20 - (48:Int))) fun v22 =>
  zc2 (fX5_skip N (48:Int) (57:Int) (zpk is_0n2 M21)) fun r25 M24 =>
  zl (zpt is_0n2 M21 M24) fun M26 =>
  zg (zR r25) <|
  zi (r25 = 0) (
    some ((0:Int), M26)) <|
  zc2 (fX5_next N (zpk is_0n2 M26)) fun r30 M29 =>
  zl (zpt is_0n2 M26 M29) fun M31 =>
  zl ((r30 - (48:Int))) fun v32 =>
  zc2 (fX5_skip N (48:Int) (57:Int) (zpk is_0n2 M31)) fun r35 M34 =>
  zl (zpt is_0n2 M31 M34) fun M36 =>
  zg (zR r35) <|
  zi (r35 = 0) (
    sX5_readClause_109 N x2 x3 v12 v22 M36) <|
  zl (((v22 * (10:Int)) + v32)) fun v46 =>
  sX5_readClause_109 N x2 x3 v12 v46 M36
def fX5_readClause (N : Nat) (a2 : Int) (M : zM) : Option (Int × zM) :=
  zc2 (fX5_next N (zpk is_0n2 M)) fun r3 M2 =>
  zl (zpt is_0n2 M M2) fun M4 =>
  zl (r3) fun v5 =>
  zg (zR v5) <|
  zi (v5 = (103:Int)) (
    sX5_readClause_25 N a2 v5 M4) <|
  zi (v5 = (112:Int)) (
    sX5_readClause_25 N a2 v5 M4) <|
  zi (v5 = (120:Int)) (
    sX5_readClause_25 N a2 v5 M4) <|
  some ((0:Int), M4)
def sX5_readInto_65 (N : Nat) (M0 : zM) : Option (Int × zM) :=
  some ((M0 0 2), M0)
def sX5_readInto_7 (N : Nat) (k7 : Int → zM → Option (Int × zM)) (x2 : Int) (M0 : zM) : Option (Int × zM) :=
  zg (zR x2) <|
  zi ((20:Int) ≤ x2) (
    some ((M0 0 2), M0)) <|
  zc2 (fX5_readClause N x2 M0) fun r6 M5 =>
  zg (zR r6) <|
  zi (r6 = 0) (
    some ((M5 0 2), M5)) <|
  zl (zup M5 2 3 (x2 + (1:Int))) fun M8 =>
  zg (zR (M8 0 2)) <|
  zg (zR (M8 0 1)) <|
  zi ((M8 0 2) < (M8 0 1)) (
    zi (x2 = (19:Int)) (
      sX5_readInto_65 N M8) <|
    zc2 (fX5_skip N (59:Int) (59:Int) (zpk is_0n2 M8)) fun r13 M12 =>
    zl (zpt is_0n2 M8 M12) fun M14 =>
    zg (zR r13) <|
    zi (r13 = 0) (
      sX5_readInto_65 N M14) <|
    zl (x2 + (1:Int)) fun v16 =>
    k7 v16 M14) <|
  some ((-5:Int), M8)
def fX5_readInto_7 (N : Nat) : Nat → Int → zM → Option (Int × zM)
  | 0, _, _ => none
  | n + 1, x2, M0 => sX5_readInto_7 N (fun x2 M0 => fX5_readInto_7 N n x2 M0) x2 M0
def fX5_readInto (N : Nat) (M : zM) : Option (Int × zM) :=
  zl (zup M 0 2 (0:Int)) fun M1 =>
  zl ((0:Int)) fun v2 =>
  fX5_readInto_7 N N v2 M1
def sX7_leastOf_9 (N : Nat) : Option Int :=
  some (1:Int)
def fX7_leastOf (N : Nat) (a1 : Int) : Option Int :=
  zg (zR a1) <|
  zi (a1 = 0) (
    sX7_leastOf_9 N ) <|
  zi (a1 = (2:Int)) (
    sX7_leastOf_9 N ) <|
  some (0:Int)
def fX7_mostOf (N : Nat) (a1 : Int) (M : zM) : Option (Int × zM) :=
  zg (zR a1) <|
  zi (a1 < (0:Int) ∨ (2:Int) < a1) (
    some ((9:Int), M)) <|
  zi (a1 = (0:Int)) (
    some ((99:Int), M)) <|
  zi (a1 = (1:Int)) (
    some ((M 2 0), M)) <|
  zi (a1 = (2:Int)) (
    some ((9:Int), M)) <|
  none
def is_1n21 : List Nat := [1, 2, 3, 4, 5, 6, 7, 8, 9, 10, 11, 12, 13, 14, 15, 16, 17, 18, 19, 20, 21]
def sX7_set_93 (N : Nat) (x3 : Int) (M0 : zM) : Option (Int × zM) :=
  some (x3, M0)
def sX7_set_86 (N : Nat) (x3 : Int) (M0 : zM) : Option (Int × zM) :=
  zc (fX3_trim N (zpk is_1n21 M0)) fun M15 =>
  zl (zpt is_1n21 M0 M15) fun M16 =>
  sX7_set_93 N x3 M16
def sX7_set_77 (N : Nat) (x1 : Int) (x3 : Int) (M0 : zM) : Option (Int × zM) :=
  zg (zR x1) <|
  zi (x1 = 0) (
    sX7_set_86 N x3 M0) <|
  zi (x1 = (1:Int)) (
    sX7_set_86 N x3 M0) <|
  sX7_set_93 N x3 M0
def fX7_set (N : Nat) (a1 : Int) (a2 : Int) (M : zM) : Option (Int × zM) :=
  zg (zR a1) <|
  zi (a1 < 0) (
    some ((-1:Int), M)) <|
  zi (a1 < (4:Int)) (
    zc (fX7_leastOf N a1) fun r2 =>
    zg (zR a2) <|
    zg (zR r2) <|
    zi (a2 < r2) (
      some ((-2:Int), M)) <|
    zc2 (fX7_mostOf N a1 M) fun r8 M7 =>
    zg (zR r8) <|
    zi (a2 ≤ r8) (
      zg (0 ≤ a1 ∧ a1 < (4:Int)) <|
      zl ((M7 2 a1.toNat)) fun v11 =>
      zl (zup M7 2 a1.toNat a2) fun M12 =>
      zi (a1 = 0) (
        zg (zR (M12 2 1)) <|
        zl (zup M12 2 1 (zmin (M12 2 1) a2)) fun M18 =>
        sX7_set_77 N a1 v11 M18) <|
      sX7_set_77 N a1 v11 M12) <|
    some ((-2:Int), M7)) <|
  some ((-1:Int), M)
def fX7_told (N : Nat) (a1 : Int) (M : zM) : Option (Int × zM) :=
  zg (zR a1) <|
  zi (a1 < 0) (
    some ((-1:Int), M)) <|
  zi (a1 ≤ (13:Int)) (
    zi ((4:Int) ≤ a1) (
      zi ((8:Int) ≤ a1) (
        zi ((13:Int) ≤ a1) (
          some ((M 17 1), M)) <|
        zg (0 ≤ (a1 - (8:Int)) ∧ (a1 - (8:Int)) < (5:Int)) <|
        some ((M 3 (a1 - (8:Int)).toNat), M)) <|
      zg (0 ≤ ((a1 - (4:Int)) + (1:Int)) ∧ ((a1 - (4:Int)) + (1:Int)) < (5:Int)) <|
      some ((M 6 ((a1 - (4:Int)) + (1:Int)).toNat), M)) <|
    zg (0 ≤ a1 ∧ a1 < (4:Int)) <|
    some ((M 2 a1.toNat), M)) <|
  some ((-1:Int), M)
def fX7_keyOf (N : Nat) (a1 : Int) (a2 : Int) : Option Int :=
  zg (zR a1) <|
  zi (a1 < 0) (
    some (-1:Int)) <|
  zi ((4:Int) ≤ a1) (
    some (-1:Int)) <|
  zg (zR a2) <|
  zi (a2 < 0) (
    some (-1:Int)) <|
  zi (a2 < (100:Int)) (
    some ((a1 * (100:Int)) + a2)) <|
  some (-1:Int)
def fX7_put (N : Nat) (a1 : Int) (a2 : Int) (a3 : Int) (a4 : Int) (a5 : Int) (M : zM) : Option (Int × zM) :=
  zc (fX7_keyOf N a1 a2) fun r1 =>
  zl (r1) fun v3 =>
  zg (zR v3) <|
  zi (0 ≤ v3) (
    zg (zR a4) <|
    zi (a4 < (1:Int)) (
      some ((-2:Int), M)) <|
    zi ((9:Int) < a4) (
      some ((-2:Int), M)) <|
    zg (zR a5) <|
    zi (a5 < 0) (
      some ((-2:Int), M)) <|
    zi (a5 ≤ (99:Int)) (
      zg (zR (M 2 0)) <|
      zi (a4 ≤ (M 2 0)) (
        zc2 (fX3_store N v3 a3 a4 a5 (zpk is_1n21 M)) fun r10 M9 =>
        zl (zpt is_1n21 M M9) fun M11 =>
        some (r10, M11)) <|
      some ((-4:Int), M)) <|
    some ((-2:Int), M)) <|
  some ((-1:Int), M)
def fX7_get (N : Nat) (a1 : Int) (a2 : Int) (M : zM) : Option (Int × zM) :=
  zc (fX7_keyOf N a1 a2) fun r1 =>
  zl (r1) fun v3 =>
  zg (zR v3) <|
  zi (0 ≤ v3) (
    zc2 (fX3_fetch N v3 (zpk is_1n21 M)) fun r7 M6 =>
    zl (zpt is_1n21 M M6) fun M8 =>
    zg (zR r7) <|
    zi (r7 = 0) (
      some ((-9223372036854775808:Int), M8)) <|
    zg (0 ≤ v3 ∧ v3 < (400:Int)) <|
    zg (zR (M8 16 v3.toNat)) <|
    some ((M8 16 v3.toNat), M8)) <|
  some ((-9223372036854775808:Int), M)
def fX7_drop (N : Nat) (a1 : Int) (a2 : Int) (M : zM) : Option (Int × zM) :=
  zc (fX7_keyOf N a1 a2) fun r1 =>
  zl (r1) fun v3 =>
  zg (zR v3) <|
  zi (0 ≤ v3) (
    zg (0 ≤ v3 ∧ v3 < (400:Int)) <|
    zl ((M 10 v3.toNat)) fun v6 =>
    zc (fX3_move N v3 (0:Int) (zpk is_1n21 M)) fun M8 =>
    zl (zpt is_1n21 M M8) fun M9 =>
    some (v6, M9)) <|
  some ((-1:Int), M)
def sX7_pin_63 (N : Nat) (x5 : Int) (y0 : Int) (y1 : Int) (M0 : zM) : Option (Int × zM) :=
  zg (0 ≤ y1 ∧ y1 < (400:Int)) <|
  zl (zup M0 15 y1.toNat y0) fun M14 =>
  some (x5, M14)
def fX7_pin (N : Nat) (a1 : Int) (a2 : Int) (a3 : Int) (M : zM) : Option (Int × zM) :=
  zc (fX7_keyOf N a1 a2) fun r1 =>
  zl (r1) fun v3 =>
  zg (zR v3) <|
  zi (0 ≤ v3) (
    zc2 (fX3_isThing N v3 (zpk is_1n21 M)) fun r7 M6 =>
    zl (zpt is_1n21 M M6) fun M8 =>
    zg (zR r7) <|
    zi (r7 = 0) (
      some ((-3:Int), M8)) <|
    zg (0 ≤ v3 ∧ v3 < (400:Int)) <|
    zl ((M8 15 v3.toNat)) fun v11 =>
    zg (zR a3) <|
    zi (a3 = 0) (
      sX7_pin_63 N v11 (0:Int) v3 M8) <|
    sX7_pin_63 N v11 (1:Int) v3 M8) <|
  some ((-1:Int), M)
def sX7_of_88 (N : Nat) (x3 : Int) (x4 : Int) (y0 : Int) (M0 : zM) : Option (Int × zM) :=
  zl (y0) fun v12 =>
  zg (zR v12) <|
  zi (v12 = 0) (
    some ((-5:Int), M0)) <|
  zg (0 ≤ x3 ∧ x3 < (7:Int)) <|
  zg (0 ≤ x4 ∧ x4 < (400:Int)) <|
  some ((M0 (10 + 1 * x3.toNat) x4.toNat), M0)
def fX7_of (N : Nat) (a1 : Int) (a2 : Int) (a3 : Int) (M : zM) : Option (Int × zM) :=
  zc (fX7_keyOf N a1 a2) fun r1 =>
  zl (r1) fun v3 =>
  zg (zR v3) <|
  zi (v3 < 0) (
    some ((-1:Int), M)) <|
  zg (zR a3) <|
  zi (a3 < 0) (
    some ((-1:Int), M)) <|
  zi (a3 ≤ (6:Int)) (
    zg (0 ≤ v3 ∧ v3 < (400:Int)) <|
    zl ((M 10 v3.toNat)) fun v7 =>
    zi (a3 = 0) (
      some (v7, M)) <|
    zi (a3 = (6:Int)) (
      zc2 (fX3_placeOf N v3 (zpk is_1n21 M)) fun r20 M19 =>
      zl (zpt is_1n21 M M19) fun M21 =>
      some (r20, M21)) <|
    zi (a3 = (1:Int)) (
      zg (zR v7) <|
      zi (v7 = 0) (
        sX7_of_88 N a3 v3 (0:Int) M) <|
      sX7_of_88 N a3 v3 (1:Int) M) <|
    zc2 (fX3_isThing N v3 (zpk is_1n21 M)) fun r10 M9 =>
    zl (zpt is_1n21 M M9) fun M11 =>
    sX7_of_88 N a3 v3 r10 M11) <|
  some ((-1:Int), M)
def is_4n5 : List Nat := [4, 5, 6, 7, 8]
def fX7_key (N : Nat) (a1 : Int) (a2 : Int) (M : zM) : Option (Int × zM) :=
  zg (zR a1) <|
  zi (a1 < (1:Int)) (
    some ((-1:Int), M)) <|
  zi ((5:Int) ≤ a1) (
    some ((-1:Int), M)) <|
  zg (zR a2) <|
  zi (0 ≤ a2) (
    zc2 (fX2_keyAt N a1 a2 (zpk is_4n5 M)) fun r5 M4 =>
    zl (zpt is_4n5 M M4) fun M6 =>
    some (r5, M6)) <|
  some ((-1:Int), M)
def is_17n2 : List Nat := [17, 18]
def fX7_gone (N : Nat) (a1 : Int) (M : zM) : Option (Int × zM) :=
  zg (zR a1) <|
  zi (0 ≤ a1) (
    zl ((M 17 1)) fun v2 =>
    zg (zR v2) <|
    zg (zR (zmin (20:Int) v2)) <|
    zi ((zmin (20:Int) v2) ≤ a1) (
      some ((-5:Int), M)) <|
    zc2 (fX1_at N ((v2 - (1:Int)) - a1) (zpk is_17n2 M)) fun r7 M6 =>
    zl (zpt is_17n2 M M6) fun M8 =>
    some (r7, M8)) <|
  some ((-1:Int), M)
def is_22n21_1n21 : List Nat := [22, 23, 24, 25, 26, 27, 28, 29, 30, 31, 32, 33, 34, 35, 36, 37, 38, 39, 40, 41, 42, 1, 2, 3, 4, 5, 6, 7, 8, 9, 10, 11, 12, 13, 14, 15, 16, 17, 18, 19, 20, 21]
def is_22n21 : List Nat := [22, 23, 24, 25, 26, 27, 28, 29, 30, 31, 32, 33, 34, 35, 36, 37, 38, 39, 40, 41, 42]
def fX7_rehearse (N : Nat) (a1 : Int) (a2 : Int) (M : zM) : Option zM :=
  zc (fX3_copyFrom N (zpk is_22n21_1n21 M)) fun M2 =>
  zl (zpt is_22n21_1n21 M M2) fun M3 =>
  zl (zup M3 23 0 a1) fun M4 =>
  zl (zup M4 23 1 a2) fun M5 =>
  zc (fX3_trim N (zpk is_22n21 M5)) fun M7 =>
  zl (zpt is_22n21 M5 M7) fun M8 =>
  some M8
def is_38n2 : List Nat := [38, 39]
def fX7_victim (N : Nat) (a1 : Int) (M : zM) : Option (Int × zM) :=
  zg (zR a1) <|
  zi (0 ≤ a1) (
    zc (fX7_rehearse N (0:Int) (0:Int) M) fun M3 =>
    zl ((M3 17 1)) fun v4 =>
    zl ((M3 38 1)) fun v5 =>
    zg (zR (v5 - v4)) <|
    zi ((v5 - v4) ≤ a1) (
      some ((-5:Int), M3)) <|
    zc2 (fX1_at N (v4 + a1) (zpk is_38n2 M3)) fun r9 M8 =>
    zl (zpt is_38n2 M3 M8) fun M10 =>
    some (r9, M10)) <|
  some ((-1:Int), M)
def fX7_feed (N : Nat) (a1 : Int) (M : zM) : Option (Int × zM) :=
  zg (zR a1) <|
  zi (a1 < 0) (
    some ((-2:Int), M)) <|
  zi (a1 ≤ (127:Int)) (
    zg (zR (M 43 1)) <|
    zi ((M 43 1) < (100:Int)) (
      zg (0 ≤ (M 43 1) ∧ (M 43 1) < (100:Int)) <|
      zl (zup M 44 (M 43 1).toNat a1) fun M4 =>
      zl (zup M4 43 1 ((M4 43 1) + (1:Int))) fun M5 =>
      some ((M5 43 1), M5)) <|
    some ((-4:Int), M)) <|
  some ((-2:Int), M)
def is_43n2_f46n4 (i : Nat) : List Nat := [43, 44, 46 + 4 * i, 46 + 4 * i + 1, 46 + 4 * i + 2, 46 + 4 * i + 3]
def fX7_trace (N : Nat) (M : zM) : Option (Int × zM) :=
  zg (zR (M 0 5)) <|
  zi ((M 0 5) < (6:Int)) (
    zg (0 ≤ (M 0 5) ∧ (M 0 5) < (6:Int)) <|
    zc2 (fX5_readInto N (zpk (is_43n2_f46n4 (M 0 5).toNat) M)) fun r6 M5 =>
    zl (zpt (is_43n2_f46n4 (M 0 5).toNat) M M5) fun M7 =>
    zl (r6) fun v8 =>
    zl (zup M7 43 1 (0:Int)) fun M9 =>
    zg (zR v8) <|
    zi (v8 < 0) (
      zl (zup M9 0 5 ((M9 0 5) + (1:Int))) fun M11 =>
      some (((M11 0 5) - (1:Int)), M11)) <|
    some (((-10:Int) - v8), M9)) <|
  some ((-4:Int), M)
def fX7_isTrace (N : Nat) (a1 : Int) (M : zM) : Option (Int × zM) :=
  zg (zR a1) <|
  zi (a1 < 0) (
    some ((0:Int), M)) <|
  zg (zR (M 0 5)) <|
  zi ((M 0 5) ≤ a1) (
    some ((0:Int), M)) <|
  some ((1:Int), M)
def is_1n21_f46n4 (i : Nat) : List Nat := [1, 2, 3, 4, 5, 6, 7, 8, 9, 10, 11, 12, 13, 14, 15, 16, 17, 18, 19, 20, 21, 46 + 4 * i, 46 + 4 * i + 1, 46 + 4 * i + 2, 46 + 4 * i + 3]
def fX7_run (N : Nat) (a1 : Int) (M : zM) : Option (Int × zM) :=
  zc2 (fX7_isTrace N a1 M) fun r3 M2 =>
  zg (zR r3) <|
  zi (r3 = 0) (
    some ((-1:Int), M2)) <|
  zg (0 ≤ a1 ∧ a1 < (6:Int)) <|
  zc2 (fX3_perform N (zpk (is_1n21_f46n4 a1.toNat) M2)) fun r9 M8 =>
  zl (zpt (is_1n21_f46n4 a1.toNat) M2 M8) fun M10 =>
  some (r9, M10)
def is_22n21_f46n4 (i : Nat) : List Nat := [22, 23, 24, 25, 26, 27, 28, 29, 30, 31, 32, 33, 34, 35, 36, 37, 38, 39, 40, 41, 42, 46 + 4 * i, 46 + 4 * i + 1, 46 + 4 * i + 2, 46 + 4 * i + 3]
def fX7_would (N : Nat) (a1 : Int) (a2 : Int) (M : zM) : Option (Int × zM) :=
  zc2 (fX7_isTrace N a1 M) fun r3 M2 =>
  zg (zR r3) <|
  zi (r3 = 0) (
    some ((-1:Int), M2)) <|
  zg (zR a2) <|
  zi (a2 < 0) (
    some ((-1:Int), M2)) <|
  zi (a2 ≤ (5:Int)) (
    zc (fX3_copyFrom N (zpk is_22n21_1n21 M2)) fun M7 =>
    zl (zpt is_22n21_1n21 M2 M7) fun M8 =>
    zg (0 ≤ a1 ∧ a1 < (6:Int)) <|
    zc2 (fX3_perform N (zpk (is_22n21_f46n4 a1.toNat) M8)) fun r13 M12 =>
    zl (zpt (is_22n21_f46n4 a1.toNat) M8 M12) fun M14 =>
    zi (a2 < (0:Int) ∨ (4:Int) < a2) (
      some (((M14 38 1) - (M14 17 1)), M14)) <|
    zi (a2 = (0:Int)) (
      some (((M14 24 0) - (M14 3 0)), M14)) <|
    zi (a2 = (1:Int)) (
      some (((M14 24 1) - (M14 3 1)), M14)) <|
    zi (a2 = (2:Int)) (
      some (((M14 24 2) - (M14 3 2)), M14)) <|
    zi (a2 = (3:Int)) (
      some ((M14 23 1), M14)) <|
    zi (a2 = (4:Int)) (
      zc2 (fX3_weightOfThings N (zpk is_22n21 M14)) fun r17 M16 =>
      zl (zpt is_22n21 M14 M16) fun M18 =>
      some (r17, M18)) <|
    none) <|
  some ((-1:Int), M2)
def sX7_need_25 (N : Nat) (k25 : Int → Int → Int → zM → Option (Int × zM)) (x1 : Int) (x2 : Int) (x3 : Int) (M0 : zM) : Option (Int × zM) :=
  zg (zR x3) <|
  zi ((60:Int) < x3) (
    some ((-5:Int), M0)) <|
  zg (zR (M0 2 1)) <|
  zc (fX7_rehearse N x3 (zmin (M0 2 1) x3) M0) fun M10 =>
  zg (0 ≤ x1 ∧ x1 < (6:Int)) <|
  zc2 (fX3_perform N (zpk (is_22n21_f46n4 x1.toNat) M10)) fun r15 M14 =>
  zl (zpt (is_22n21_f46n4 x1.toNat) M10 M14) fun M16 =>
  zg (zR r15) <|
  zg (zR x2) <|
  zi (r15 < x2) (
    zl (x3 + (1:Int)) fun v19 =>
    k25 x1 x2 v19 M16) <|
  some (x3, M16)
def fX7_need_25 (N : Nat) : Nat → Int → Int → Int → zM → Option (Int × zM)
  | 0, _, _, _, _ => none
  | n + 1, x1, x2, x3, M0 => sX7_need_25 N (fun x1 x2 x3 M0 => fX7_need_25 N n x1 x2 x3 M0) x1 x2 x3 M0
def fX7_need (N : Nat) (a1 : Int) (a2 : Int) (M : zM) : Option (Int × zM) :=
  zc2 (fX7_isTrace N a1 M) fun r3 M2 =>
  zg (zR r3) <|
  zi (r3 = 0) (
    some ((-1:Int), M2)) <|
  zg (zR a2) <|
  zi (a2 < 0) (
    some ((-2:Int), M2)) <|
  zi (a2 ≤ (20:Int)) (
    zl ((1:Int)) fun v6 =>
    fX7_need_25 N N a1 a2 v6 M2) <|
  some ((-2:Int), M2)
def sX7_isPart_9 (N : Nat) : Option Int :=
  some (1:Int)
def fX7_isPart (N : Nat) (a1 : Int) : Option Int :=
  zg (zR a1) <|
  zi (a1 = 0) (
    sX7_isPart_9 N ) <|
  zi (a1 = (1:Int)) (
    sX7_isPart_9 N ) <|
  some (0:Int)
def sX7_commonDivisor_34 (N : Nat) (x2 : Int) : Option Int :=
  some x2
def sX7_commonDivisor_7 (N : Nat) (k7 : Int → Int → Int → Option Int) (x2 : Int) (x3 : Int) (x4 : Int) : Option Int :=
  zg (zR x4) <|
  zi ((1000000:Int) ≤ x4) (
    sX7_commonDivisor_34 N x2) <|
  zg (zR x3) <|
  zi (x3 = 0) (
    sX7_commonDivisor_34 N x2) <|
  zg ((0 ≤ x2 ∧ x2 ≤ 2147483647) ∧ 0 < x3 ∧ x3 ≤ 2147483647) <|
  zl ((x2 % x3)) fun v7 =>
  zl (x3) fun v8 =>
  zl (v7) fun v9 =>
  zl (x4 + (1:Int)) fun v10 =>
  k7 v8 v9 v10
def fX7_commonDivisor_7 (N : Nat) : Nat → Int → Int → Int → Option Int
  | 0, _, _, _ => none
  | n + 1, x2, x3, x4 => sX7_commonDivisor_7 N (fun x2 x3 x4 => fX7_commonDivisor_7 N n x2 x3 x4) x2 x3 x4
def fX7_commonDivisor (N : Nat) (a1 : Int) (a2 : Int) : Option Int :=
  zl (a1) fun v1 =>
  zl (a2) fun v2 =>
  zl ((0:Int)) fun v3 =>
  fX7_commonDivisor_7 N N v1 v2 v3
def sX7_partOf_27 (N : Nat) (x3 : Int) (y0 : Int) : Option Int :=
  zg ((0 ≤ y0 ∧ y0 ≤ 2147483647) ∧ 0 < x3 ∧ x3 ≤ 2147483647) <|
  zg (zR (y0 / x3)) <|
  some (y0 / x3)
def fX7_partOf (N : Nat) (a1 : Int) (a2 : Int) (a3 : Int) : Option Int :=
  zc (fX7_commonDivisor N a1 a2) fun r1 =>
  zl (r1) fun v3 =>
  zg (zR a2) <|
  zi (a2 = 0) (
    some (-9223372036854775808:Int)) <|
  zg (zR v3) <|
  zi (v3 = 0) (
    some (-9223372036854775808:Int)) <|
  zg (zR a3) <|
  zi (a3 = 0) (
    sX7_partOf_27 N v3 a1) <|
  sX7_partOf_27 N v3 a2
def sX7_odds_81 (N : Nat) (k46 : Int → Int → Int → Int → Int → Int → zM → Option (Int × zM)) (x1 : Int) (x2 : Int) (x3 : Int) (x4 : Int) (x5 : Int) (x6 : Int) (M0 : zM) : Option (Int × zM) :=
  zl (x6 + (1:Int)) fun v26 =>
  k46 x1 x2 x3 x4 x5 v26 M0
def sX7_odds_46 (N : Nat) (k46 : Int → Int → Int → Int → Int → Int → zM → Option (Int × zM)) (x1 : Int) (x2 : Int) (x3 : Int) (x4 : Int) (x5 : Int) (x6 : Int) (M0 : zM) : Option (Int × zM) :=
  zg (zR x6) <|
  zg (zR x4) <|
  zi (x4 < x6) (
    zc (fX7_partOf N x5 (x4 + (1:Int)) x3) fun r14 =>
    some (r14, M0)) <|
  zc (fX7_rehearse N x4 x6 M0) fun M17 =>
  zg (0 ≤ x1 ∧ x1 < (6:Int)) <|
  zc2 (fX3_perform N (zpk (is_22n21_f46n4 x1.toNat) M17)) fun r22 M21 =>
  zl (zpt (is_22n21_f46n4 x1.toNat) M17 M21) fun M23 =>
  zg (zR r22) <|
  zg (zR x2) <|
  zi (r22 < x2) (
    sX7_odds_81 N k46 x1 x2 x3 x4 x5 x6 M23) <|
  zl (x5 + (1:Int)) fun v27 =>
  sX7_odds_81 N k46 x1 x2 x3 x4 v27 x6 M23
def fX7_odds_46 (N : Nat) : Nat → Int → Int → Int → Int → Int → Int → zM → Option (Int × zM)
  | 0, _, _, _, _, _, _, _ => none
  | n + 1, x1, x2, x3, x4, x5, x6, M0 => sX7_odds_46 N (fun x1 x2 x3 x4 x5 x6 M0 => fX7_odds_46 N n x1 x2 x3 x4 x5 x6 M0) x1 x2 x3 x4 x5 x6 M0
def fX7_odds (N : Nat) (a1 : Int) (a2 : Int) (a3 : Int) (M : zM) : Option (Int × zM) :=
  zc2 (fX7_isTrace N a1 M) fun r3 M2 =>
  zg (zR r3) <|
  zi (r3 = 0) (
    some ((-9223372036854775808:Int), M2)) <|
  zg (zR a2) <|
  zi (a2 < 0) (
    some ((-9223372036854775808:Int), M2)) <|
  zi ((20:Int) < a2) (
    some ((-9223372036854775808:Int), M2)) <|
  zc (fX7_isPart N a3) fun r6 =>
  zg (zR r6) <|
  zi (r6 = 0) (
    some ((-9223372036854775808:Int), M2)) <|
  zl ((M2 2 0)) fun v9 =>
  zl ((0:Int)) fun v10 =>
  zl ((0:Int)) fun v11 =>
  fX7_odds_46 N N a1 a2 a3 v9 v10 v11 M2
def sX7_mean_53 (N : Nat) (k53 : Int → Int → Int → Int → Int → zM → Option (Int × zM)) (x2 : Int) (x3 : Int) (x4 : Int) (x5 : Int) (x6 : Int) (M0 : zM) : Option (Int × zM) :=
  zg (zR x6) <|
  zg (zR x3) <|
  zi (x3 ≤ x6) (
    zc (fX7_partOf N x4 x3 x2) fun r16 =>
    some (r16, M0)) <|
  zg (0 ≤ x5 ∧ x5 < (400:Int)) <|
  zl ((x4 + (M0 12 x5.toNat))) fun v19 =>
  zg (0 ≤ x5 ∧ x5 < (405:Int)) <|
  zl ((M0 7 x5.toNat)) fun v21 =>
  zl (x6 + (1:Int)) fun v22 =>
  k53 x2 x3 v19 v21 v22 M0
def fX7_mean_53 (N : Nat) : Nat → Int → Int → Int → Int → Int → zM → Option (Int × zM)
  | 0, _, _, _, _, _, _ => none
  | n + 1, x2, x3, x4, x5, x6, M0 => sX7_mean_53 N (fun x2 x3 x4 x5 x6 M0 => fX7_mean_53 N n x2 x3 x4 x5 x6 M0) x2 x3 x4 x5 x6 M0
def sX7_mean_10 (N : Nat) (x1 : Int) (x2 : Int) (M0 : zM) : Option (Int × zM) :=
  zc (fX7_isPart N x2) fun r2 =>
  zg (zR r2) <|
  zi (r2 = 0) (
    some ((-9223372036854775808:Int), M0)) <|
  zg (0 ≤ x1 ∧ x1 < (5:Int)) <|
  zl ((M0 5 x1.toNat)) fun v6 =>
  zl ((0:Int)) fun v7 =>
  zc2 (fX2_oldest N x1 (zpk is_4n5 M0)) fun r10 M9 =>
  zl (zpt is_4n5 M0 M9) fun M11 =>
  zl (r10) fun v12 =>
  zl ((0:Int)) fun v13 =>
  fX7_mean_53 N N x2 v6 v7 v12 v13 M11
def fX7_mean (N : Nat) (a1 : Int) (a2 : Int) (M : zM) : Option (Int × zM) :=
  zg (zR a1) <|
  zi (a1 = (1:Int)) (
    sX7_mean_10 N a1 a2 M) <|
  zi (a1 = (2:Int)) (
    sX7_mean_10 N a1 a2 M) <|
  some ((-9223372036854775808:Int), M)
def fX7_book (N : Nat) (a1 : Int) (a2 : Int) (a3 : Int) (M : zM) : Option (Int × zM) :=
  zg (zR a1) <|
  zi (a1 = (-1:Int)) (
    zl (zup M 19 2 (0:Int)) fun M13 =>
    some ((0:Int), M13)) <|
  zc (fX7_keyOf N a1 a2) fun r2 =>
  zl (r2) fun v4 =>
  zg (zR v4) <|
  zi (0 ≤ v4) (
    zg (zR a3) <|
    zi (a3 < 0) (
      some ((-2:Int), M)) <|
    zi (a3 < (5:Int)) (
      zg (zR (M 19 2)) <|
      zi ((M 19 2) < (8:Int)) (
        zg (0 ≤ (M 19 2) ∧ (M 19 2) < (8:Int)) <|
        zl (zup M 20 (M 19 2).toNat v4) fun M9 =>
        zg (0 ≤ (M9 19 2) ∧ (M9 19 2) < (8:Int)) <|
        zl (zup M9 21 (M9 19 2).toNat a3) fun M11 =>
        zl (zup M11 19 2 ((M11 19 2) + (1:Int))) fun M12 =>
        some ((M12 19 2), M12)) <|
      some ((-4:Int), M)) <|
    some ((-2:Int), M)) <|
  some ((-1:Int), M)
def sX7_looked_10 (N : Nat) (k10 : Int → zM → Option (Int × zM)) (x2 : Int) (M0 : zM) : Option (Int × zM) :=
  zg (zR x2) <|
  zg (zR (M0 19 2)) <|
  zi ((M0 19 2) ≤ x2) (
    some ((-5:Int), M0)) <|
  zg (0 ≤ x2 ∧ x2 < (8:Int)) <|
  zg (0 ≤ (M0 20 x2.toNat) ∧ (M0 20 x2.toNat) < (400:Int)) <|
  zg (zR (M0 10 (M0 20 x2.toNat).toNat)) <|
  zg (zR (M0 21 x2.toNat)) <|
  zi ((M0 10 (M0 20 x2.toNat).toNat) = (M0 21 x2.toNat)) (
    zl (x2 + (1:Int)) fun v8 =>
    k10 v8 M0) <|
  some (x2, M0)
def fX7_looked_10 (N : Nat) : Nat → Int → zM → Option (Int × zM)
  | 0, _, _ => none
  | n + 1, x2, M0 => sX7_looked_10 N (fun x2 M0 => fX7_looked_10 N n x2 M0) x2 M0
def fX7_looked (N : Nat) (M : zM) : Option (Int × zM) :=
  zl ((0:Int)) fun v1 =>
  fX7_looked_10 N N v1 M
def fX7_isTape (N : Nat) (a1 : Int) : Option Int :=
  zg (zR a1) <|
  zi (a1 < 0) (
    some (0:Int)) <|
  zi ((6:Int) ≤ a1) (
    some (0:Int)) <|
  some (1:Int)
def sX7_judge_97 (N : Nat) (a1 : Int) (k97 : Int → Int → Int → Int → Int → zM → Option (Int × zM)) (x2 : Int) (x4 : Int) (x5 : Int) (x6 : Int) (x7 : Int) (M0 : zM) : Option (Int × zM) :=
  zg (zR x7) <|
  zg (zR x4) <|
  zi (x4 ≤ x7) (
    some ((-5:Int), M0)) <|
  zg (zR x5) <|
  zi (x7 < x5) (
    zg (0 ≤ (x2 + x7) ∧ (x2 + x7) < (60:Int)) <|
    zg (zR x6) <|
    zg (zRL (M0 (71 + 2 * a1.toNat + 1) (x2 + x7).toNat)) <|
    zg (zRL x6) <|
    zi ((M0 (71 + 2 * a1.toNat + 1) (x2 + x7).toNat) = x6) (
      zg (0 ≤ x6 ∧ x6 < (405:Int)) <|
      zl ((M0 7 x6.toNat)) fun v24 =>
      zl (x7 + (1:Int)) fun v25 =>
      k97 x2 x4 x5 v24 v25 M0) <|
    some (x7, M0)) <|
  some (((100:Int) + x7), M0)
def fX7_judge_97 (N : Nat) (a1 : Int) : Nat → Int → Int → Int → Int → Int → zM → Option (Int × zM)
  | 0, _, _, _, _, _, _ => none
  | n + 1, x2, x4, x5, x6, x7, M0 => sX7_judge_97 N a1 (fun x2 x4 x5 x6 x7 M0 => fX7_judge_97 N a1 n x2 x4 x5 x6 x7 M0) x2 x4 x5 x6 x7 M0
def sX7_judge_79 (N : Nat) (a1 : Int) (x2 : Int) (x4 : Int) (y0 : Int) (M0 : zM) : Option (Int × zM) :=
  zl (y0) fun v9 =>
  zc2 (fX2_oldest N (1:Int) (zpk is_4n5 M0)) fun r12 M11 =>
  zl (zpt is_4n5 M0 M11) fun M13 =>
  zl (r12) fun v14 =>
  zl ((0:Int)) fun v15 =>
  fX7_judge_97 N a1 N x2 x4 v9 v14 v15 M13
def sX7_judge_69 (N : Nat) (a1 : Int) (x2 : Int) (x4 : Int) (M0 : zM) : Option (Int × zM) :=
  sX7_judge_79 N a1 x2 x4 (0:Int) M0
def sX7_judge_35 (N : Nat) (a1 : Int) (x2 : Int) (M0 : zM) : Option (Int × zM) :=
  zl ((M0 5 1)) fun v7 =>
  zg (zR (M0 (71 + 2 * a1.toNat) 1)) <|
  zi ((M0 (71 + 2 * a1.toNat) 1) = (-1:Int)) (
    sX7_judge_69 N a1 x2 v7 M0) <|
  zg (zR x2) <|
  zi (x2 < 0) (
    sX7_judge_69 N a1 x2 v7 M0) <|
  zg (zR (M0 (71 + 2 * a1.toNat) 2)) <|
  zi (x2 ≤ (M0 (71 + 2 * a1.toNat) 2)) (
    sX7_judge_79 N a1 x2 v7 ((M0 (71 + 2 * a1.toNat) 2) - x2) M0) <|
  sX7_judge_69 N a1 x2 v7 M0
def fX7_judge (N : Nat) (a1 : Int) (a2 : Int) (M : zM) : Option (Int × zM) :=
  zc (fX7_isTape N a1) fun r1 =>
  zg (zR r1) <|
  zi (r1 = 0) (
    some ((-1:Int), M)) <|
  zg (0 ≤ a1 ∧ a1 < (6:Int)) <|
  zg (zR (M (71 + 2 * a1.toNat) 1)) <|
  zi ((M (71 + 2 * a1.toNat) 1) = (-1:Int)) (
    sX7_judge_35 N a1 a2 M) <|
  zi ((M (71 + 2 * a1.toNat) 1) = (1:Int)) (
    sX7_judge_35 N a1 a2 M) <|
  some ((-12:Int), M)
def is_83n21_1n21 : List Nat := [83, 84, 85, 86, 87, 88, 89, 90, 91, 92, 93, 94, 95, 96, 97, 98, 99, 100, 101, 102, 103, 1, 2, 3, 4, 5, 6, 7, 8, 9, 10, 11, 12, 13, 14, 15, 16, 17, 18, 19, 20, 21]
def sX7_image_t_18 (N : Nat) (M0 : zM) : Option (Int × zM) :=
  zc (fX3_copyFrom N (zpk is_83n21_1n21 M0)) fun M2 =>
  zl (zpt is_83n21_1n21 M0 M2) fun M3 =>
  zc2 (fX3_thingCount N (zpk is_1n21 M3)) fun r6 M5 =>
  zl (zpt is_1n21 M3 M5) fun M7 =>
  some (r6, M7)
def fX7_image_t (N : Nat) (M : zM) : Option (Int × zM) :=
  sX7_image_t_18 N M
def fX7_undo_f (N : Nat) (M : zM) : Option (Int × zM) :=
  some ((-3:Int), M)
def is_1n21_83n21 : List Nat := [1, 2, 3, 4, 5, 6, 7, 8, 9, 10, 11, 12, 13, 14, 15, 16, 17, 18, 19, 20, 21, 83, 84, 85, 86, 87, 88, 89, 90, 91, 92, 93, 94, 95, 96, 97, 98, 99, 100, 101, 102, 103]
def fX7_undo_t (N : Nat) (M : zM) : Option (Int × zM) :=
  zc (fX3_copyFrom N (zpk is_1n21_83n21 M)) fun M2 =>
  zl (zpt is_1n21_83n21 M M2) fun M3 =>
  zc2 (fX3_thingCount N (zpk is_1n21 M3)) fun r6 M5 =>
  zl (zpt is_1n21 M3 M5) fun M7 =>
  some (r6, M7)
def sX7_count_44 (N : Nat) (x1 : Int) (M0 : zM) : Option (Int × zM) :=
  zg (0 ≤ (x1 + (1:Int)) ∧ (x1 + (1:Int)) < (5:Int)) <|
  some ((M0 5 (x1 + (1:Int)).toNat), M0)
def fX7_count (N : Nat) (a1 : Int) (M : zM) : Option (Int × zM) :=
  zg (zR a1) <|
  zi (a1 < (0:Int) ∨ (6:Int) < a1) (
    some ((-2:Int), M)) <|
  zi (a1 = (0:Int)) (
    sX7_count_44 N a1 M) <|
  zi (a1 = (1:Int)) (
    sX7_count_44 N a1 M) <|
  zi (a1 = (2:Int)) (
    sX7_count_44 N a1 M) <|
  zi (a1 = (3:Int)) (
    sX7_count_44 N a1 M) <|
  zi (a1 = (4:Int)) (
    some ((M 0 5), M)) <|
  zi (a1 = (5:Int)) (
    some ((M 19 2), M)) <|
  zi (a1 = (6:Int)) (
    some ((M 43 1), M)) <|
  none
def is_f71n2 (i : Nat) : List Nat := [71 + 2 * i, 71 + 2 * i + 1]
def fX7_tape (N : Nat) (a1 : Int) (a2 : Int) (a3 : Int) (M : zM) : Option (Int × zM) :=
  zc (fX7_isTape N a1) fun r1 =>
  zg (zR r1) <|
  zi (r1 = 0) (
    some ((-1:Int), M)) <|
  zg (zR a2) <|
  zi (a2 < (-1:Int)) (
    some ((-2:Int), M)) <|
  zi (a2 ≤ (4:Int)) (
    zi (a2 = (-1:Int)) (
      zg (0 ≤ a1 ∧ a1 < (6:Int)) <|
      zc (fX4_become N (-1:Int) (0:Int) (zpk (is_f71n2 a1.toNat) M)) fun M14 =>
      zl (zpt (is_f71n2 a1.toNat) M M14) fun M15 =>
      some ((1:Int), M15)) <|
    zg (zR a3) <|
    zi (a3 ≤ (60:Int)) (
      zi (0 ≤ a3) (
        zg (0 ≤ a1 ∧ a1 < (6:Int)) <|
        zc (fX4_become N a2 a3 (zpk (is_f71n2 a1.toNat) M)) fun M9 =>
        zl (zpt (is_f71n2 a1.toNat) M M9) fun M10 =>
        some ((1:Int), M10)) <|
      some ((-14:Int), M)) <|
    some ((-2:Int), M)) <|
  some ((-2:Int), M)
def fX7_item (N : Nat) (a1 : Int) (a2 : Int) (a3 : Int) (M : zM) : Option (Int × zM) :=
  zc (fX7_isTape N a1) fun r1 =>
  zg (zR r1) <|
  zi (r1 = 0) (
    some ((-1:Int), M)) <|
  zg (0 ≤ a1 ∧ a1 < (6:Int)) <|
  zg (zR (M (71 + 2 * a1.toNat) 1)) <|
  zi ((M (71 + 2 * a1.toNat) 1) = (-1:Int)) (
    some ((-11:Int), M)) <|
  zg (zR a2) <|
  zi (a2 < 0) (
    some ((-13:Int), M)) <|
  zg (zR (M (71 + 2 * a1.toNat) 2)) <|
  zi (a2 < (M (71 + 2 * a1.toNat) 2)) (
    zc2 (fX4_asItem N a3 (zpk (is_f71n2 a1.toNat) M)) fun r11 M10 =>
    zl (zpt (is_f71n2 a1.toNat) M M10) fun M12 =>
    zg (0 ≤ a2 ∧ a2 < (60:Int)) <|
    zl (zup M12 (71 + 2 * a1.toNat + 1) a2.toNat r11) fun M14 =>
    some ((1:Int), M14)) <|
  some ((-13:Int), M)
def fX7_read (N : Nat) (a1 : Int) (a2 : Int) (M : zM) : Option (Int × zM) :=
  zc (fX7_isTape N a1) fun r1 =>
  zg (zR r1) <|
  zi (r1 = 0) (
    some ((-9223372036854775808:Int), M)) <|
  zg (0 ≤ a1 ∧ a1 < (6:Int)) <|
  zg (zR a2) <|
  zi (a2 < 0) (
    some ((-9223372036854775808:Int), M)) <|
  zg (zR (M (71 + 2 * a1.toNat) 2)) <|
  zi ((M (71 + 2 * a1.toNat) 2) ≤ a2) (
    some ((-9223372036854775808:Int), M)) <|
  zg (0 ≤ a2 ∧ a2 < (60:Int)) <|
  some ((M (71 + 2 * a1.toNat + 1) a2.toNat), M)
def fX7_shift (N : Nat) (a1 : Int) (a2 : Int) (a3 : Int) (a4 : Int) (a5 : Int) (M : zM) : Option (Int × zM) :=
  zc (fX7_isTape N a1) fun r1 =>
  zg (zR r1) <|
  zi (r1 = 0) (
    some ((-1:Int), M)) <|
  zc (fX7_isTape N a3) fun r4 =>
  zg (zR r4) <|
  zi (r4 = 0) (
    some ((-1:Int), M)) <|
  zg (0 ≤ a1 ∧ a1 < (6:Int)) <|
  zg (0 ≤ a3 ∧ a3 < (6:Int)) <|
  zg (zR (M (71 + 2 * a1.toNat) 1)) <|
  zi ((M (71 + 2 * a1.toNat) 1) = (-1:Int)) (
    some ((-11:Int), M)) <|
  zg (zR (M (71 + 2 * a3.toNat) 1)) <|
  zi ((M (71 + 2 * a3.toNat) 1) = (-1:Int)) (
    some ((-11:Int), M)) <|
  zi ((M (71 + 2 * a1.toNat) 1) = (M (71 + 2 * a3.toNat) 1)) (
    zc2 (fX4_hasRange N a2 a5 (zpk (is_f71n2 a1.toNat) M)) fun r15 M14 =>
    zl (zpt (is_f71n2 a1.toNat) M M14) fun M16 =>
    zg (zR r15) <|
    zi (r15 = 0) (
      some ((-13:Int), M16)) <|
    zc2 (fX4_hasRange N a4 a5 (zpk (is_f71n2 a3.toNat) M16)) fun r20 M19 =>
    zl (zpt (is_f71n2 a3.toNat) M16 M19) fun M21 =>
    zg (zR r20) <|
    zi (r20 = 0) (
      some ((-13:Int), M21)) <|
    zg (0 ≤ a2 ∧ 0 ≤ a4 ∧ 0 ≤ a5 ∧ a2 + a5 ≤ (60:Int) ∧ a4 + a5 ≤ (60:Int)) <|
    zl (zcp M21 (71 + 2 * a1.toNat + 1) (71 + 2 * a3.toNat + 1) a2.toNat a4.toNat a5.toNat) fun M24 =>
    some (a5, M24)) <|
  some ((-12:Int), M)
def fX8_in (N : Nat) (a1 : Int) (a2 : Int) (a3 : Int) : Option Int :=
  zg (zR a1) <|
  zg (zR a2) <|
  zi (a1 < a2) (
    some (0:Int)) <|
  zg (zR a3) <|
  zi (a3 < a1) (
    some (0:Int)) <|
  some (1:Int)
def fX8_isKey (N : Nat) (a1 : Int) (a2 : Int) : Option Int :=
  zc (fX8_in N a1 (0:Int) (3:Int)) fun r1 =>
  zg (zR r1) <|
  zi (r1 = 0) (
    some (0:Int)) <|
  zc (fX8_in N a2 (0:Int) (99:Int)) fun r4 =>
  zg (zR r4) <|
  zi (r4 = 0) (
    some (0:Int)) <|
  some (1:Int)
def sX8_copy_2 (N : Nat) (k2 : Int → zM → Option zM) (x2 : Int) (M0 : zM) : Option zM :=
  zg (zR x2) <|
  zi ((3253:Int) ≤ x2) (
    some M0) <|
  zg (0 ≤ x2 ∧ x2 < (3253:Int)) <|
  zl (zup M0 1 x2.toNat (M0 0 x2.toNat)) fun M4 =>
  zl (x2 + (1:Int)) fun v5 =>
  k2 v5 M4
def fX8_copy_2 (N : Nat) : Nat → Int → zM → Option zM
  | 0, _, _ => none
  | n + 1, x2, M0 => sX8_copy_2 N (fun x2 M0 => fX8_copy_2 N n x2 M0) x2 M0
def fX8_copy (N : Nat) (M : zM) : Option zM :=
  zl ((0:Int)) fun v1 =>
  fX8_copy_2 N N v1 M
def fX8_goes (N : Nat) (a1 : Int) (a2 : Int) (M : zM) : Option zM :=
  zg (0 ≤ ((0:Int) + a1) ∧ ((0:Int) + a1) < (3253:Int)) <|
  zg (0 ≤ ((3204:Int) + (M 1 ((0:Int) + a1).toNat)) ∧ ((3204:Int) + (M 1 ((0:Int) + a1).toNat)) < (3253:Int)) <|
  zg (0 ≤ ((800:Int) + a1) ∧ ((800:Int) + a1) < (3253:Int)) <|
  zl (zup M 1 ((3204:Int) + (M 1 ((0:Int) + a1).toNat)).toNat ((M 1 ((3204:Int) + (M 1 ((0:Int) + a1).toNat)).toNat) - (M 1 ((800:Int) + a1).toNat))) fun M4 =>
  zl (zup M4 1 ((0:Int) + a1).toNat a2) fun M5 =>
  zg (0 ≤ ((3204:Int) + a2) ∧ ((3204:Int) + a2) < (3253:Int)) <|
  zl (zup M5 1 ((3204:Int) + a2).toNat ((M5 1 ((3204:Int) + a2).toNat) + (M5 1 ((800:Int) + a1).toNat))) fun M7 =>
  zl (zup M7 1 3215 ((M7 1 3215) + (1:Int))) fun M8 =>
  zg (0 ≤ ((2800:Int) + a1) ∧ ((2800:Int) + a1) < (3253:Int)) <|
  zl (zup M8 1 ((2800:Int) + a1).toNat (M7 1 3215)) fun M10 =>
  some M10
def fX8_weighs (N : Nat) (a1 : Int) (a2 : Int) (M : zM) : Option zM :=
  zg (0 ≤ ((0:Int) + a1) ∧ ((0:Int) + a1) < (3253:Int)) <|
  zg (0 ≤ ((3204:Int) + (M 1 ((0:Int) + a1).toNat)) ∧ ((3204:Int) + (M 1 ((0:Int) + a1).toNat)) < (3253:Int)) <|
  zg (0 ≤ ((800:Int) + a1) ∧ ((800:Int) + a1) < (3253:Int)) <|
  zl (zup M 1 ((3204:Int) + (M 1 ((0:Int) + a1).toNat)).toNat ((M 1 ((3204:Int) + (M 1 ((0:Int) + a1).toNat)).toNat) + (a2 - (M 1 ((800:Int) + a1).toNat)))) fun M4 =>
  zl (zup M4 1 ((800:Int) + a1).toNat a2) fun M5 =>
  some M5
def sX8_isThing_24 (N : Nat) (M0 : zM) : Option (Int × zM) :=
  some ((1:Int), M0)
def fX8_isThing (N : Nat) (a1 : Int) (M : zM) : Option (Int × zM) :=
  zg (0 ≤ ((0:Int) + a1) ∧ ((0:Int) + a1) < (3253:Int)) <|
  zg (zR (M 1 ((0:Int) + a1).toNat)) <|
  zi ((M 1 ((0:Int) + a1).toNat) = (1:Int)) (
    sX8_isThing_24 N M) <|
  zi ((M 1 ((0:Int) + a1).toNat) = (2:Int)) (
    sX8_isThing_24 N M) <|
  some ((0:Int), M)
def sX8_oldest_76 (N : Nat) (k5 : Int → Int → Int → Int → zM → Option (Int × zM)) (x1 : Int) (x2 : Int) (x3 : Int) (x4 : Int) (M0 : zM) : Option (Int × zM) :=
  zl (x4 + (1:Int)) fun v7 =>
  k5 x1 x2 x3 v7 M0
def sX8_oldest_73 (N : Nat) (k5 : Int → Int → Int → Int → zM → Option (Int × zM)) (x1 : Int) (x2 : Int) (x4 : Int) (M0 : zM) : Option (Int × zM) :=
  zl (x4) fun v10 =>
  sX8_oldest_76 N k5 x1 x2 v10 x4 M0
def sX8_oldest_45 (N : Nat) (k5 : Int → Int → Int → Int → zM → Option (Int × zM)) (x1 : Int) (x2 : Int) (x3 : Int) (x4 : Int) (M0 : zM) : Option (Int × zM) :=
  zg (zR x3) <|
  zi (x3 < 0) (
    sX8_oldest_73 N k5 x1 x2 x4 M0) <|
  zg (0 ≤ ((2800:Int) + x4) ∧ ((2800:Int) + x4) < (3253:Int)) <|
  zg (0 ≤ ((2800:Int) + x3) ∧ ((2800:Int) + x3) < (3253:Int)) <|
  zg (zR (M0 1 ((2800:Int) + x4).toNat)) <|
  zg (zR (M0 1 ((2800:Int) + x3).toNat)) <|
  zi ((M0 1 ((2800:Int) + x3).toNat) ≤ (M0 1 ((2800:Int) + x4).toNat)) (
    sX8_oldest_76 N k5 x1 x2 x3 x4 M0) <|
  sX8_oldest_73 N k5 x1 x2 x4 M0
def sX8_oldest_5 (N : Nat) (k5 : Int → Int → Int → Int → zM → Option (Int × zM)) (x1 : Int) (x2 : Int) (x3 : Int) (x4 : Int) (M0 : zM) : Option (Int × zM) :=
  zg (zR x4) <|
  zi ((400:Int) ≤ x4) (
    some (x3, M0)) <|
  zg (0 ≤ ((0:Int) + x4) ∧ ((0:Int) + x4) < (3253:Int)) <|
  zg (zR (M0 1 ((0:Int) + x4).toNat)) <|
  zg (zR x1) <|
  zi ((M0 1 ((0:Int) + x4).toNat) = x1) (
    zg (zR x2) <|
    zi (x2 = 0) (
      sX8_oldest_45 N k5 x1 x2 x3 x4 M0) <|
    zg (0 ≤ ((2400:Int) + x4) ∧ ((2400:Int) + x4) < (3253:Int)) <|
    zg (zR (M0 1 ((2400:Int) + x4).toNat)) <|
    zi ((M0 1 ((2400:Int) + x4).toNat) = (1:Int)) (
      sX8_oldest_76 N k5 x1 x2 x3 x4 M0) <|
    sX8_oldest_45 N k5 x1 x2 x3 x4 M0) <|
  sX8_oldest_76 N k5 x1 x2 x3 x4 M0
def fX8_oldest_5 (N : Nat) : Nat → Int → Int → Int → Int → zM → Option (Int × zM)
  | 0, _, _, _, _, _ => none
  | n + 1, x1, x2, x3, x4, M0 => sX8_oldest_5 N (fun x1 x2 x3 x4 M0 => fX8_oldest_5 N n x1 x2 x3 x4 M0) x1 x2 x3 x4 M0
def fX8_oldest (N : Nat) (a1 : Int) (a2 : Int) (M : zM) : Option (Int × zM) :=
  zl ((-1:Int)) fun v1 =>
  zl ((0:Int)) fun v2 =>
  fX8_oldest_5 N N a1 a2 v1 v2 M
def sX8_went_20 (N : Nat) (k20 : Int → Int → zM → Option zM) (x1 : Int) (x3 : Int) (M0 : zM) : Option zM :=
  zg (zR x3) <|
  zi (x3 ≤ 0) (
    zl (zup M0 1 3216 x1) fun M7 =>
    zl (zup M7 1 3214 ((M7 1 3214) + (1:Int))) fun M8 =>
    zg (zR (M8 0 5)) <|
    zi ((400:Int) ≤ (M8 0 5)) (
      some M8) <|
    zl (zup M8 0 5 ((M8 0 5) + (1:Int))) fun M10 =>
    zg (0 ≤ (M8 0 5) ∧ (M8 0 5) < (400:Int)) <|
    zl (zup M10 4 (M8 0 5).toNat x1) fun M12 =>
    some M12) <|
  zg (0 ≤ (((3216:Int) + x3) - (1:Int)) ∧ (((3216:Int) + x3) - (1:Int)) < (3253:Int)) <|
  zg (0 ≤ ((3216:Int) + x3) ∧ ((3216:Int) + x3) < (3253:Int)) <|
  zl (zup M0 1 ((3216:Int) + x3).toNat (M0 1 (((3216:Int) + x3) - (1:Int)).toNat)) fun M15 =>
  zl (x3 + (-1:Int)) fun v16 =>
  k20 x1 v16 M15
def fX8_went_20 (N : Nat) : Nat → Int → Int → zM → Option zM
  | 0, _, _, _ => none
  | n + 1, x1, x3, M0 => sX8_went_20 N (fun x1 x3 M0 => fX8_went_20 N n x1 x3 M0) x1 x3 M0
def fX8_went (N : Nat) (a1 : Int) (a2 : Int) (M : zM) : Option zM :=
  zc (fX8_goes N a1 a2 M) fun M2 =>
  zg (0 ≤ ((2400:Int) + a1) ∧ ((2400:Int) + a1) < (3253:Int)) <|
  zl (zup M2 1 ((2400:Int) + a1).toNat (0:Int)) fun M4 =>
  zl ((19:Int)) fun v5 =>
  fX8_went_20 N N a1 v5 M4
def sX8_sinks_0 (N : Nat) (k0 : zM → Option zM) (M0 : zM) : Option zM :=
  zg (zR (M0 1 3206)) <|
  zg (zR (M0 1 3201)) <|
  zi ((M0 1 3206) ≤ (M0 1 3201)) (
    some M0) <|
  zc2 (fX8_oldest N (2:Int) (1:Int) M0) fun r5 M4 =>
  zl (r5) fun v6 =>
  zg (zR v6) <|
  zi (0 ≤ v6) (
    zg (0 ≤ ((1600:Int) + v6) ∧ ((1600:Int) + v6) < (3253:Int)) <|
    zl (zup M4 1 ((1600:Int) + v6).toNat (0:Int)) fun M9 =>
    zc (fX8_goes N v6 (1:Int) M9) fun M11 =>
    k0 M11) <|
  some M4
def fX8_sinks_0 (N : Nat) : Nat → zM → Option zM
  | 0, _ => none
  | n + 1, M0 => sX8_sinks_0 N (fun M0 => fX8_sinks_0 N n M0) M0
def fX8_sinks (N : Nat) (M : zM) : Option zM :=
  fX8_sinks_0 N N M
def sX8_lets_109 (N : Nat) (k0 : zM → Option zM) (M0 : zM) : Option zM :=
  k0 M0
def sX8_lets_82 (N : Nat) (k0 : zM → Option zM) (x1 : Int) (x2 : Int) (M0 : zM) : Option zM :=
  zg (zR x1) <|
  zi (x1 < 0) (
    zg (zR x2) <|
    zi (x2 < 0) (
      some M0) <|
    zc (fX8_went N x2 (4:Int) M0) fun M15 =>
    sX8_lets_109 N k0 M15) <|
  zc (fX8_went N x1 (3:Int) M0) fun M17 =>
  sX8_lets_109 N k0 M17
def sX8_lets_0 (N : Nat) (k0 : zM → Option zM) (M0 : zM) : Option zM :=
  zg (zR ((M0 1 3205) + (M0 1 3206))) <|
  zg (zR (M0 1 3200)) <|
  zi (((M0 1 3205) + (M0 1 3206)) ≤ (M0 1 3200)) (
    some M0) <|
  zc2 (fX8_oldest N (1:Int) (1:Int) M0) fun r5 M4 =>
  zl (r5) fun v6 =>
  zc2 (fX8_oldest N (2:Int) (1:Int) M4) fun r9 M8 =>
  zl (r9) fun v10 =>
  zg (zR v6) <|
  zi (v6 < 0) (
    sX8_lets_82 N k0 v6 v10 M8) <|
  zg (0 ≤ ((2000:Int) + v6) ∧ ((2000:Int) + v6) < (3253:Int)) <|
  zg (zR (M8 1 ((2000:Int) + v6).toNat)) <|
  zi ((M8 1 ((2000:Int) + v6).toNat) ≤ 0) (
    sX8_lets_82 N k0 v6 v10 M8) <|
  zl (zup M8 1 ((2000:Int) + v6).toNat ((M8 1 ((2000:Int) + v6).toNat) - (1:Int))) fun M20 =>
  zc (fX8_goes N v6 (1:Int) M20) fun M22 =>
  sX8_lets_109 N k0 M22
def fX8_lets_0 (N : Nat) : Nat → zM → Option zM
  | 0, _ => none
  | n + 1, M0 => sX8_lets_0 N (fun M0 => fX8_lets_0 N n M0) M0
def fX8_lets (N : Nat) (M : zM) : Option zM :=
  fX8_lets_0 N N M
def sX8_trim_15 (N : Nat) (k10 : Int → zM → Option zM) (k15 : Int → zM → Option zM) (x1 : Int) (M0 : zM) : Option zM :=
  zg (0 ≤ ((3204:Int) + x1) ∧ ((3204:Int) + x1) < (3253:Int)) <|
  zg (zR (M0 1 ((3204:Int) + x1).toNat)) <|
  zg (zR (M0 1 3200)) <|
  zi ((M0 1 ((3204:Int) + x1).toNat) ≤ (M0 1 3200)) (
    zl (x1 + (1:Int)) fun v10 =>
    k10 v10 M0) <|
  zc2 (fX8_oldest N x1 (0:Int) M0) fun r13 M12 =>
  zc (fX8_goes N r13 (0:Int) M12) fun M15 =>
  k15 x1 M15
def fX8_trim_15 (N : Nat) (k10 : Int → zM → Option zM) : Nat → Int → zM → Option zM
  | 0, _, _ => none
  | n + 1, x1, M0 => sX8_trim_15 N k10 (fun x1 M0 => fX8_trim_15 N k10 n x1 M0) x1 M0
def sX8_trim_10 (N : Nat) (k10 : Int → zM → Option zM) (x1 : Int) (M0 : zM) : Option zM :=
  zg (zR x1) <|
  zi ((4:Int) < x1) (
    some M0) <|
  fX8_trim_15 N k10 N x1 M0
def fX8_trim_10 (N : Nat) : Nat → Int → zM → Option zM
  | 0, _, _ => none
  | n + 1, x1, M0 => sX8_trim_10 N (fun x1 M0 => fX8_trim_10 N n x1 M0) x1 M0
def fX8_trim (N : Nat) (M : zM) : Option zM :=
  zc (fX8_sinks N M) fun M2 =>
  zc (fX8_lets N M2) fun M4 =>
  zl ((3:Int)) fun v5 =>
  fX8_trim_10 N N v5 M4
def sX8_hit_89 (N : Nat) (y0 : Int) (y1 : Int) (M0 : zM) : Option zM :=
  zc (fX8_goes N y1 y0 M0) fun M9 =>
  some M9
def sX8_hit_81 (N : Nat) (x1 : Int) (y0 : Int) (M0 : zM) : Option zM :=
  zg (0 ≤ ((0:Int) + x1) ∧ ((0:Int) + x1) < (3253:Int)) <|
  sX8_hit_89 N (M0 1 ((0:Int) + x1).toNat) y0 M0
def sX8_hit_41 (N : Nat) (x1 : Int) (y0 : Int) (y1 : Int) (M0 : zM) : Option zM :=
  zg (0 ≤ y1 ∧ y1 < (3253:Int)) <|
  zl (zup M0 1 y1.toNat y0) fun M4 =>
  zg (0 ≤ ((0:Int) + x1) ∧ ((0:Int) + x1) < (3253:Int)) <|
  zg (zR (M4 1 ((0:Int) + x1).toNat)) <|
  zi ((M4 1 ((0:Int) + x1).toNat) = (1:Int)) (
    zg (0 ≤ ((1600:Int) + x1) ∧ ((1600:Int) + x1) < (3253:Int)) <|
    zg (zR (M4 1 ((1600:Int) + x1).toNat)) <|
    zg (zR (M4 1 3202)) <|
    zi ((M4 1 ((1600:Int) + x1).toNat) < (M4 1 3202)) (
      sX8_hit_81 N x1 x1 M4) <|
    sX8_hit_89 N (2:Int) x1 M4) <|
  sX8_hit_81 N x1 x1 M4
def fX8_hit (N : Nat) (a1 : Int) (M : zM) : Option zM :=
  zg (0 ≤ ((1600:Int) + a1) ∧ ((1600:Int) + a1) < (3253:Int)) <|
  zg (zR (M 1 ((1600:Int) + a1).toNat)) <|
  zi ((99:Int) ≤ (M 1 ((1600:Int) + a1).toNat)) (
    sX8_hit_41 N a1 (99:Int) ((1600:Int) + a1) M) <|
  sX8_hit_41 N a1 ((M 1 ((1600:Int) + a1).toNat) + (1:Int)) ((1600:Int) + a1) M
def sX8_putIn_51 (N : Nat) (x1 : Int) (M0 : zM) : Option (Int × zM) :=
  zc (fX8_hit N x1 M0) fun M11 =>
  zc (fX8_trim N M11) fun M13 =>
  some ((2:Int), M13)
def sX8_putIn_235 (N : Nat) (x5 : Int) (y0 : Int) (y1 : Int) (M0 : zM) : Option (Int × zM) :=
  zc (fX8_goes N y1 y0 M0) fun M24 =>
  zc (fX8_trim N M24) fun M26 =>
  zg (zR x5) <|
  zi (x5 = 0) (
    some ((0:Int), M26)) <|
  some ((1:Int), M26)
def sX8_putIn_223 (N : Nat) (x1 : Int) (x5 : Int) (M0 : zM) : Option (Int × zM) :=
  zg (zR x5) <|
  zi (x5 = 0) (
    sX8_putIn_235 N x5 (1:Int) x1 M0) <|
  sX8_putIn_235 N x5 (2:Int) x1 M0
def sX8_putIn_222 (N : Nat) (x1 : Int) (x5 : Int) (y0 : Int) (y1 : Int) (M0 : zM) : Option (Int × zM) :=
  zg (0 ≤ y1 ∧ y1 < (3253:Int)) <|
  zl (zup M0 1 y1.toNat y0) fun M31 =>
  sX8_putIn_223 N x1 x5 M31
def sX8_putIn_163 (N : Nat) (x1 : Int) (x5 : Int) (y0 : Int) (y1 : Int) (M0 : zM) : Option (Int × zM) :=
  zg (0 ≤ y1 ∧ y1 < (3253:Int)) <|
  zl (zup M0 1 y1.toNat y0) fun M35 =>
  sX8_putIn_223 N x1 x5 M35
def sX8_putIn_123 (N : Nat) (x1 : Int) (x3 : Int) (x5 : Int) (y0 : Int) (y1 : Int) (M0 : zM) : Option (Int × zM) :=
  zg (0 ≤ y1 ∧ y1 < (3253:Int)) <|
  zl (zup M0 1 y1.toNat y0) fun M20 =>
  zg (zR x5) <|
  zi (x5 = (3:Int)) (
    zg (zR (M20 1 3201)) <|
    zg (zR x3) <|
    zi ((M20 1 3201) ≤ x3) (
      sX8_putIn_163 N x1 x5 (0:Int) (3201:Int) M20) <|
    sX8_putIn_163 N x1 x5 ((M20 1 3201) - x3) (3201:Int) M20) <|
  zi (x5 = (4:Int)) (
    zg (zR ((M20 1 3201) + x3)) <|
    zg (zR (M20 1 3200)) <|
    zi ((M20 1 3200) ≤ ((M20 1 3201) + x3)) (
      sX8_putIn_222 N x1 x5 (M20 1 3200) (3201:Int) M20) <|
    sX8_putIn_222 N x1 x5 ((M20 1 3201) + x3) (3201:Int) M20) <|
  sX8_putIn_223 N x1 x5 M20
def fX8_putIn (N : Nat) (a1 : Int) (a2 : Int) (a3 : Int) (a4 : Int) (M : zM) : Option (Int × zM) :=
  zg (0 ≤ ((0:Int) + a1) ∧ ((0:Int) + a1) < (3253:Int)) <|
  zl ((M 1 ((0:Int) + a1).toNat)) fun v2 =>
  zc (fX8_weighs N a1 a3 M) fun M4 =>
  zg (0 ≤ ((400:Int) + a1) ∧ ((400:Int) + a1) < (3253:Int)) <|
  zl (zup M4 1 ((400:Int) + a1).toNat a2) fun M6 =>
  zg (0 ≤ ((1200:Int) + a1) ∧ ((1200:Int) + a1) < (3253:Int)) <|
  zl (zup M6 1 ((1200:Int) + a1).toNat a4) fun M8 =>
  zg (zR v2) <|
  zi (v2 = (1:Int)) (
    sX8_putIn_51 N a1 M8) <|
  zi (v2 = (2:Int)) (
    sX8_putIn_51 N a1 M8) <|
  zl (zup M8 1 3213 ((M8 1 3213) + a4)) fun M14 =>
  zg (0 ≤ ((1600:Int) + a1) ∧ ((1600:Int) + a1) < (3253:Int)) <|
  zl (zup M14 1 ((1600:Int) + a1).toNat (0:Int)) fun M16 =>
  zg (0 ≤ ((2400:Int) + a1) ∧ ((2400:Int) + a1) < (3253:Int)) <|
  zl (zup M16 1 ((2400:Int) + a1).toNat (0:Int)) fun M18 =>
  zi (v2 = 0) (
    sX8_putIn_123 N a1 a3 v2 (M18 1 3203) ((2000:Int) + a1) M18) <|
  sX8_putIn_123 N a1 a3 v2 (0:Int) ((2000:Int) + a1) M18
def sX8_gets_45 (N : Nat) (y0 : Int) (y1 : Int) (y2 : Int) (M0 : zM) : Option (Int × zM) :=
  zg (0 ≤ y2 ∧ y2 < (3253:Int)) <|
  zl (zup M0 1 y2.toNat (y1 + y0)) fun M16 =>
  some ((0:Int), M16)
def fX8_gets (N : Nat) (a1 : Int) (M : zM) : Option (Int × zM) :=
  zc2 (fX8_isThing N a1 M) fun r3 M2 =>
  zg (zR r3) <|
  zi (r3 = 0) (
    zl (zup M2 1 3210 ((M2 1 3210) + (1:Int))) fun M12 =>
    zg (0 ≤ ((0:Int) + a1) ∧ ((0:Int) + a1) < (3253:Int)) <|
    zg (zR (M12 1 ((0:Int) + a1).toNat)) <|
    zi ((M12 1 ((0:Int) + a1).toNat) = 0) (
      sX8_gets_45 N (0:Int) (M12 1 3211) (3211:Int) M12) <|
    sX8_gets_45 N (1:Int) (M12 1 3211) (3211:Int) M12) <|
  zc (fX8_hit N a1 M2) fun M6 =>
  zg (0 ≤ ((1200:Int) + a1) ∧ ((1200:Int) + a1) < (3253:Int)) <|
  zl (zup M6 1 3212 ((M6 1 3212) + (M6 1 ((1200:Int) + a1).toNat))) fun M8 =>
  zl (zup M8 1 3209 ((M8 1 3209) + (1:Int))) fun M9 =>
  zc (fX8_trim N M9) fun M11 =>
  some ((1:Int), M11)
def fX8_drops (N : Nat) (a1 : Int) (M : zM) : Option (Int × zM) :=
  zg (0 ≤ ((0:Int) + a1) ∧ ((0:Int) + a1) < (3253:Int)) <|
  zl ((M 1 ((0:Int) + a1).toNat)) fun v2 =>
  zc (fX8_goes N a1 (0:Int) M) fun M4 =>
  some (v2, M4)
def sX8_capacity_40 (N : Nat) (y0 : Int) (y1 : Int) (M0 : zM) : Option zM :=
  zg (0 ≤ y1 ∧ y1 < (3253:Int)) <|
  zl (zup M0 1 y1.toNat y0) fun M5 =>
  zc (fX8_trim N M5) fun M7 =>
  some M7
def fX8_capacity (N : Nat) (a1 : Int) (M : zM) : Option zM :=
  zl (zup M 1 3200 a1) fun M1 =>
  zg (zR (M1 1 3201)) <|
  zg (zR a1) <|
  zi ((M1 1 3201) ≤ a1) (
    sX8_capacity_40 N (M1 1 3201) (3201:Int) M1) <|
  sX8_capacity_40 N a1 (3201:Int) M1
def sX8_set_120 (N : Nat) (x4 : Int) (M0 : zM) : Option (Int × zM) :=
  some (x4, M0)
def sX8_set_68 (N : Nat) (x1 : Int) (x2 : Int) (y0 : Int) (M0 : zM) : Option (Int × zM) :=
  zl (y0) fun v7 =>
  zg (zR v7) <|
  zi (v7 = 0) (
    some ((-2:Int), M0)) <|
  zg (0 ≤ ((3200:Int) + x1) ∧ ((3200:Int) + x1) < (3253:Int)) <|
  zl ((M0 1 ((3200:Int) + x1).toNat)) fun v10 =>
  zg (zR x1) <|
  zi (x1 = 0) (
    zc (fX8_capacity N x2 M0) fun M16 =>
    sX8_set_120 N v10 M16) <|
  zl (zup M0 1 ((3200:Int) + x1).toNat x2) fun M12 =>
  zi (x1 = (1:Int)) (
    zc (fX8_trim N M12) fun M14 =>
    sX8_set_120 N v10 M14) <|
  sX8_set_120 N v10 M12
def fX8_set (N : Nat) (a1 : Int) (a2 : Int) (M : zM) : Option (Int × zM) :=
  zc (fX8_in N a1 (0:Int) (3:Int)) fun r1 =>
  zg (zR r1) <|
  zi (r1 = 0) (
    some ((-1:Int), M)) <|
  zg (zR a1) <|
  zi (a1 = 0) (
    zc (fX8_in N a2 (1:Int) (99:Int)) fun r21 =>
    sX8_set_68 N a1 a2 r21 M) <|
  zi (a1 = (1:Int)) (
    zc (fX8_in N a2 (0:Int) (M 1 3200)) fun r19 =>
    sX8_set_68 N a1 a2 r19 M) <|
  zi (a1 = (2:Int)) (
    zc (fX8_in N a2 (1:Int) (9:Int)) fun r17 =>
    sX8_set_68 N a1 a2 r17 M) <|
  zc (fX8_in N a2 (0:Int) (9:Int)) fun r5 =>
  sX8_set_68 N a1 a2 r5 M
def fX8_told (N : Nat) (a1 : Int) (M : zM) : Option (Int × zM) :=
  zc (fX8_in N a1 (0:Int) (13:Int)) fun r1 =>
  zg (zR r1) <|
  zi (r1 = 0) (
    some ((-1:Int), M)) <|
  zg (zR a1) <|
  zi ((4:Int) ≤ a1) (
    zi ((8:Int) ≤ a1) (
      zg (0 ≤ (((3209:Int) + a1) - (8:Int)) ∧ (((3209:Int) + a1) - (8:Int)) < (3253:Int)) <|
      some ((M 1 (((3209:Int) + a1) - (8:Int)).toNat), M)) <|
    zg (0 ≤ (((3204:Int) + a1) - (3:Int)) ∧ (((3204:Int) + a1) - (3:Int)) < (3253:Int)) <|
    some ((M 1 (((3204:Int) + a1) - (3:Int)).toNat), M)) <|
  zg (0 ≤ ((3200:Int) + a1) ∧ ((3200:Int) + a1) < (3253:Int)) <|
  some ((M 1 ((3200:Int) + a1).toNat), M)
def fX8_put (N : Nat) (a1 : Int) (a2 : Int) (a3 : Int) (a4 : Int) (a5 : Int) (M : zM) : Option (Int × zM) :=
  zc (fX8_isKey N a1 a2) fun r1 =>
  zg (zR r1) <|
  zi (r1 = 0) (
    some ((-1:Int), M)) <|
  zc (fX8_in N a4 (1:Int) (9:Int)) fun r4 =>
  zg (zR r4) <|
  zi (r4 = 0) (
    some ((-2:Int), M)) <|
  zc (fX8_in N a5 (0:Int) (99:Int)) fun r7 =>
  zg (zR r7) <|
  zi (r7 = 0) (
    some ((-2:Int), M)) <|
  zg (zR a4) <|
  zg (zR (M 1 3200)) <|
  zi (a4 ≤ (M 1 3200)) (
    zc2 (fX8_putIn N (((100:Int) * a1) + a2) a3 a4 a5 M) fun r14 M13 =>
    some (r14, M13)) <|
  some ((-4:Int), M)
def fX8_get (N : Nat) (a1 : Int) (a2 : Int) (M : zM) : Option (Int × zM) :=
  zc (fX8_isKey N a1 a2) fun r1 =>
  zg (zR r1) <|
  zi (r1 = 0) (
    some ((-9223372036854775808:Int), M)) <|
  zl ((((100:Int) * a1) + a2)) fun v4 =>
  zg (0 ≤ ((400:Int) + v4) ∧ ((400:Int) + v4) < (3253:Int)) <|
  zl ((M 1 ((400:Int) + v4).toNat)) fun v6 =>
  zc2 (fX8_gets N v4 M) fun r9 M8 =>
  zg (zR r9) <|
  zi (r9 = 0) (
    some ((-9223372036854775808:Int), M8)) <|
  zg (zR v6) <|
  some (v6, M8)
def fX8_drop (N : Nat) (a1 : Int) (a2 : Int) (M : zM) : Option (Int × zM) :=
  zc (fX8_isKey N a1 a2) fun r1 =>
  zg (zR r1) <|
  zi (r1 = 0) (
    some ((-1:Int), M)) <|
  zc2 (fX8_drops N (((100:Int) * a1) + a2) M) fun r6 M5 =>
  some (r6, M5)
def sX8_pin_62 (N : Nat) (x5 : Int) (y0 : Int) (y1 : Int) (M0 : zM) : Option (Int × zM) :=
  zg (0 ≤ y1 ∧ y1 < (3253:Int)) <|
  zl (zup M0 1 y1.toNat y0) fun M13 =>
  some (x5, M13)
def fX8_pin (N : Nat) (a1 : Int) (a2 : Int) (a3 : Int) (M : zM) : Option (Int × zM) :=
  zc (fX8_isKey N a1 a2) fun r1 =>
  zg (zR r1) <|
  zi (r1 = 0) (
    some ((-1:Int), M)) <|
  zl ((((100:Int) * a1) + a2)) fun v4 =>
  zc2 (fX8_isThing N v4 M) fun r7 M6 =>
  zg (zR r7) <|
  zi (r7 = 0) (
    some ((-3:Int), M6)) <|
  zg (0 ≤ ((2400:Int) + v4) ∧ ((2400:Int) + v4) < (3253:Int)) <|
  zl ((M6 1 ((2400:Int) + v4).toNat)) fun v10 =>
  zg (zR a3) <|
  zi (a3 = 0) (
    sX8_pin_62 N v10 (0:Int) ((2400:Int) + v4) M6) <|
  sX8_pin_62 N v10 (1:Int) ((2400:Int) + v4) M6
def sX8_placeOf_59 (N : Nat) (k4 : Int → Int → Int → zM → Option (Int × zM)) (x1 : Int) (x3 : Int) (y0 : Int) (y1 : Int) (M0 : zM) : Option (Int × zM) :=
  zl ((y1 + y0)) fun v8 =>
  zl (x3 + (1:Int)) fun v9 =>
  k4 x1 v8 v9 M0
def sX8_placeOf_58 (N : Nat) (k4 : Int → Int → Int → zM → Option (Int × zM)) (x1 : Int) (x3 : Int) (y0 : Int) (M0 : zM) : Option (Int × zM) :=
  sX8_placeOf_59 N k4 x1 x3 (0:Int) y0 M0
def sX8_placeOf_4 (N : Nat) (k4 : Int → Int → Int → zM → Option (Int × zM)) (x1 : Int) (x2 : Int) (x3 : Int) (M0 : zM) : Option (Int × zM) :=
  zg (zR x3) <|
  zi ((400:Int) ≤ x3) (
    some (x2, M0)) <|
  zg (0 ≤ ((0:Int) + x3) ∧ ((0:Int) + x3) < (3253:Int)) <|
  zg (0 ≤ ((0:Int) + x1) ∧ ((0:Int) + x1) < (3253:Int)) <|
  zg (zR (M0 1 ((0:Int) + x3).toNat)) <|
  zg (zR (M0 1 ((0:Int) + x1).toNat)) <|
  zi ((M0 1 ((0:Int) + x3).toNat) = (M0 1 ((0:Int) + x1).toNat)) (
    zg (0 ≤ ((2800:Int) + x3) ∧ ((2800:Int) + x3) < (3253:Int)) <|
    zg (0 ≤ ((2800:Int) + x1) ∧ ((2800:Int) + x1) < (3253:Int)) <|
    zg (zR (M0 1 ((2800:Int) + x3).toNat)) <|
    zg (zR (M0 1 ((2800:Int) + x1).toNat)) <|
    zi ((M0 1 ((2800:Int) + x1).toNat) ≤ (M0 1 ((2800:Int) + x3).toNat)) (
      sX8_placeOf_58 N k4 x1 x3 x2 M0) <|
    sX8_placeOf_59 N k4 x1 x3 (1:Int) x2 M0) <|
  sX8_placeOf_58 N k4 x1 x3 x2 M0
def fX8_placeOf_4 (N : Nat) : Nat → Int → Int → Int → zM → Option (Int × zM)
  | 0, _, _, _, _ => none
  | n + 1, x1, x2, x3, M0 => sX8_placeOf_4 N (fun x1 x2 x3 M0 => fX8_placeOf_4 N n x1 x2 x3 M0) x1 x2 x3 M0
def fX8_placeOf (N : Nat) (a1 : Int) (M : zM) : Option (Int × zM) :=
  zl ((0:Int)) fun v1 =>
  zl ((0:Int)) fun v2 =>
  fX8_placeOf_4 N N a1 v1 v2 M
def fX8_of (N : Nat) (a1 : Int) (a2 : Int) (a3 : Int) (M : zM) : Option (Int × zM) :=
  zc (fX8_isKey N a1 a2) fun r1 =>
  zg (zR r1) <|
  zi (r1 = 0) (
    some ((-1:Int), M)) <|
  zc (fX8_in N a3 (0:Int) (6:Int)) fun r4 =>
  zg (zR r4) <|
  zi (r4 = 0) (
    some ((-1:Int), M)) <|
  zl ((((100:Int) * a1) + a2)) fun v7 =>
  zg (0 ≤ ((0:Int) + v7) ∧ ((0:Int) + v7) < (3253:Int)) <|
  zl ((M 1 ((0:Int) + v7).toNat)) fun v9 =>
  zg (zR a3) <|
  zi (a3 < (0:Int) ∨ (5:Int) < a3) (
    zg (zR v9) <|
    zi (v9 = 0) (
      some ((-5:Int), M)) <|
    zc2 (fX8_placeOf N v7 M) fun r14 M13 =>
    some (r14, M13)) <|
  zi (a3 = (0:Int)) (
    some (v9, M)) <|
  zi (a3 = (1:Int)) (
    zg (zR v9) <|
    zi (v9 = 0) (
      some ((-5:Int), M)) <|
    zg (0 ≤ ((800:Int) + v7) ∧ ((800:Int) + v7) < (3253:Int)) <|
    some ((M 1 ((800:Int) + v7).toNat), M)) <|
  zi (a3 = (2:Int)) (
    zc2 (fX8_isThing N v7 M) fun r19 M18 =>
    zg (zR r19) <|
    zi (r19 = 0) (
      some ((-5:Int), M18)) <|
    zg (0 ≤ ((1200:Int) + v7) ∧ ((1200:Int) + v7) < (3253:Int)) <|
    some ((M18 1 ((1200:Int) + v7).toNat), M18)) <|
  zi (a3 = (3:Int)) (
    zc2 (fX8_isThing N v7 M) fun r24 M23 =>
    zg (zR r24) <|
    zi (r24 = 0) (
      some ((-5:Int), M23)) <|
    zg (0 ≤ ((1600:Int) + v7) ∧ ((1600:Int) + v7) < (3253:Int)) <|
    some ((M23 1 ((1600:Int) + v7).toNat), M23)) <|
  zi (a3 = (4:Int)) (
    zc2 (fX8_isThing N v7 M) fun r29 M28 =>
    zg (zR r29) <|
    zi (r29 = 0) (
      some ((-5:Int), M28)) <|
    zg (0 ≤ ((2000:Int) + v7) ∧ ((2000:Int) + v7) < (3253:Int)) <|
    some ((M28 1 ((2000:Int) + v7).toNat), M28)) <|
  zi (a3 = (5:Int)) (
    zc2 (fX8_isThing N v7 M) fun r34 M33 =>
    zg (zR r34) <|
    zi (r34 = 0) (
      some ((-5:Int), M33)) <|
    zg (0 ≤ ((2400:Int) + v7) ∧ ((2400:Int) + v7) < (3253:Int)) <|
    some ((M33 1 ((2400:Int) + v7).toNat), M33)) <|
  none
def sX8_keyAt_32 (N : Nat) (k2 : Int → Int → Int → zM → Option (Int × zM)) (x1 : Int) (x2 : Int) (x3 : Int) (M0 : zM) : Option (Int × zM) :=
  zl (x3 + (1:Int)) fun v6 =>
  k2 x1 x2 v6 M0
def sX8_keyAt_2 (N : Nat) (k2 : Int → Int → Int → zM → Option (Int × zM)) (x1 : Int) (x2 : Int) (x3 : Int) (M0 : zM) : Option (Int × zM) :=
  zg (zR x3) <|
  zi ((400:Int) ≤ x3) (
    some ((-5:Int), M0)) <|
  zg (0 ≤ ((0:Int) + x3) ∧ ((0:Int) + x3) < (3253:Int)) <|
  zg (zR (M0 1 ((0:Int) + x3).toNat)) <|
  zg (zR x1) <|
  zi ((M0 1 ((0:Int) + x3).toNat) = x1) (
    zc2 (fX8_placeOf N x3 M0) fun r9 M8 =>
    zg (zR r9) <|
    zg (zR x2) <|
    zi (r9 = x2) (
      some (x3, M8)) <|
    sX8_keyAt_32 N k2 x1 x2 x3 M8) <|
  sX8_keyAt_32 N k2 x1 x2 x3 M0
def fX8_keyAt_2 (N : Nat) : Nat → Int → Int → Int → zM → Option (Int × zM)
  | 0, _, _, _, _ => none
  | n + 1, x1, x2, x3, M0 => sX8_keyAt_2 N (fun x1 x2 x3 M0 => fX8_keyAt_2 N n x1 x2 x3 M0) x1 x2 x3 M0
def fX8_keyAt (N : Nat) (a1 : Int) (a2 : Int) (M : zM) : Option (Int × zM) :=
  zl ((0:Int)) fun v1 =>
  fX8_keyAt_2 N N a1 a2 v1 M
def fX8_key (N : Nat) (a1 : Int) (a2 : Int) (M : zM) : Option (Int × zM) :=
  zc (fX8_in N a1 (1:Int) (4:Int)) fun r1 =>
  zg (zR r1) <|
  zi (r1 = 0) (
    some ((-1:Int), M)) <|
  zg (zR a2) <|
  zi (a2 < 0) (
    some ((-1:Int), M)) <|
  zc2 (fX8_keyAt N a1 a2 M) fun r7 M6 =>
  some (r7, M6)
def fX8_gone (N : Nat) (a1 : Int) (M : zM) : Option (Int × zM) :=
  zg (zR a1) <|
  zi (0 ≤ a1) (
    zi ((20:Int) ≤ a1) (
      some ((-5:Int), M)) <|
    zg (zR (M 1 3214)) <|
    zi ((M 1 3214) ≤ a1) (
      some ((-5:Int), M)) <|
    zg (0 ≤ ((3216:Int) + a1) ∧ ((3216:Int) + a1) < (3253:Int)) <|
    some ((M 1 ((3216:Int) + a1).toNat), M)) <|
  some ((-1:Int), M)
def is_1n1_2n1 : List Nat := [1, 2]
def is_2n1_1n1 : List Nat := [2, 1]
def sX8_victim_63 (N : Nat) (y0 : Int) (M0 : zM) : Option (Int × zM) :=
  zl (y0) fun v11 =>
  zc (fX8_copy N (zpk is_2n1_1n1 M0)) fun M13 =>
  zl (zpt is_2n1_1n1 M0 M13) fun M14 =>
  some (v11, M14)
def fX8_victim (N : Nat) (a1 : Int) (M : zM) : Option (Int × zM) :=
  zg (zR a1) <|
  zi (0 ≤ a1) (
    zc (fX8_copy N (zpk is_1n1_2n1 M)) fun M3 =>
    zl (zpt is_1n1_2n1 M M3) fun M4 =>
    zl (zup M4 0 5 (0:Int)) fun M5 =>
    zl (zup M5 1 3201 (0:Int)) fun M6 =>
    zl (zup M6 1 3200 (0:Int)) fun M7 =>
    zc (fX8_trim N M7) fun M9 =>
    zg (zR (M9 0 5)) <|
    zi ((M9 0 5) ≤ a1) (
      sX8_victim_63 N (-5:Int) M9) <|
    zg (0 ≤ a1 ∧ a1 < (400:Int)) <|
    sX8_victim_63 N (M9 4 a1.toNat) M9) <|
  some ((-1:Int), M)
def fX8_feed (N : Nat) (a1 : Int) (M : zM) : Option (Int × zM) :=
  zc (fX8_in N a1 (0:Int) (127:Int)) fun r1 =>
  zg (zR r1) <|
  zi (r1 = 0) (
    some ((-2:Int), M)) <|
  zg (zR (M 0 7)) <|
  zi ((M 0 7) = (100:Int)) (
    some ((-4:Int), M)) <|
  zl (zup M 0 7 ((M 0 7) + (1:Int))) fun M5 =>
  zg (0 ≤ (M 0 7) ∧ (M 0 7) < (100:Int)) <|
  zl (zup M5 5 (M 0 7).toNat a1) fun M7 =>
  some ((M7 0 7), M7)
def fX8_sees (N : Nat) (a1 : Int) (a2 : Int) (M : zM) : Option (Int × zM) :=
  zg (zR (M 0 18)) <|
  zi (0 ≤ (M 0 18)) (
    some ((0:Int), M)) <|
  zg (zR (M 0 17)) <|
  zg (zR (M 0 7)) <|
  zi ((M 0 7) ≤ (M 0 17)) (
    some ((0:Int), M)) <|
  zg (0 ≤ (M 0 17) ∧ (M 0 17) < (100:Int)) <|
  zc (fX8_in N (M 5 (M 0 17).toNat) a1 a2) fun r5 =>
  zg (zR r5) <|
  zi (r5 = 0) (
    some ((0:Int), M)) <|
  some ((1:Int), M)
def sX8_must_28 (N : Nat) (x1 : Int) (y0 : Int) (M0 : zM) : Option (Int × zM) :=
  zl (zup M0 0 18 y0) fun M8 =>
  some (x1, M8)
def fX8_must (N : Nat) (a1 : Int) (a2 : Int) (M : zM) : Option (Int × zM) :=
  zc2 (fX8_sees N a1 a2 M) fun r3 M2 =>
  zg (zR r3) <|
  zi (r3 = 0) (
    zg (zR (M2 0 18)) <|
    zi (0 ≤ (M2 0 18)) (
      sX8_must_28 N a1 (M2 0 18) M2) <|
    sX8_must_28 N a1 (M2 0 17) M2) <|
  zl (zup M2 0 17 ((M2 0 17) + (1:Int))) fun M5 =>
  zg (0 ≤ (M2 0 17) ∧ (M2 0 17) < (100:Int)) <|
  some ((M5 5 (M2 0 17).toNat), M5)
def sX8_clause_142 (N : Nat) (x1 : Int) (x2 : Int) (x3 : Int) (x4 : Int) (M0 : zM) : Option zM :=
  zg (0 ≤ x1 ∧ x1 < (120:Int)) <|
  zl (zup M0 6 x1.toNat x2) fun M23 =>
  zl (zup M23 7 x1.toNat (((100:Int) * x3) + x4)) fun M24 =>
  some M24
def sX8_clause_108 (N : Nat) (x1 : Int) (x2 : Int) (x3 : Int) (y0 : Int) (M0 : zM) : Option zM :=
  zl (y0) fun v20 =>
  zg (zR x2) <|
  zi (x2 = (112:Int)) (
    zc2 (fX8_must N (61:Int) (61:Int) M0) fun r27 M26 =>
    zc2 (fX8_must N (49:Int) (57:Int) M26) fun r30 M29 =>
    zg (0 ≤ x1 ∧ x1 < (120:Int)) <|
    zl (zup M29 8 x1.toNat (r30 - (48:Int))) fun M32 =>
    sX8_clause_142 N x1 x2 x3 v20 M32) <|
  sX8_clause_142 N x1 x2 x3 v20 M0
def sX8_clause_49 (N : Nat) (x1 : Int) (y0 : Int) (M0 : zM) : Option zM :=
  zl (y0) fun v7 =>
  zc2 (fX8_must N (97:Int) (100:Int) M0) fun r10 M9 =>
  zl ((r10 - (97:Int))) fun v11 =>
  zc2 (fX8_must N (48:Int) (57:Int) M9) fun r14 M13 =>
  zl ((r14 - (48:Int))) fun v15 =>
  zc2 (fX8_sees N (48:Int) (57:Int) M13) fun r18 M17 =>
  zg (zR r18) <|
  zi (r18 = 0) (
    sX8_clause_108 N x1 v7 v11 v15 M17) <|
  zc2 (fX8_must N (48:Int) (57:Int) M17) fun r35 M34 =>
  sX8_clause_108 N x1 v7 v11 ((((10:Int) * v15) + r35) - (48:Int)) M34
def sX8_clause_22 (N : Nat) (x1 : Int) (M0 : zM) : Option zM :=
  zl (zup M0 0 17 ((M0 0 17) + (1:Int))) fun M5 =>
  zg (0 ≤ (M0 0 17) ∧ (M0 0 17) < (100:Int)) <|
  sX8_clause_49 N x1 (M5 5 (M0 0 17).toNat) M5
def fX8_clause (N : Nat) (a1 : Int) (M : zM) : Option zM :=
  zc2 (fX8_sees N (112:Int) (112:Int) M) fun r3 M2 =>
  zg (zR r3) <|
  zi (r3 = 0) (
    zc2 (fX8_sees N (120:Int) (120:Int) M2) fun r38 M37 =>
    zg (zR r38) <|
    zi (r38 = 0) (
      zc2 (fX8_must N (103:Int) (103:Int) M37) fun r42 M41 =>
      sX8_clause_49 N a1 r42 M41) <|
    sX8_clause_22 N a1 M37) <|
  sX8_clause_22 N a1 M2
def sX8_trace_101 (N : Nat) (x1 : Int) (M0 : zM) : Option (Int × zM) :=
  zl (zup M0 0 7 (0:Int)) fun M9 =>
  zg (zR (M9 0 18)) <|
  zi ((M9 0 18) < 0) (
    zg (0 ≤ (M9 0 12) ∧ (M9 0 12) < (6:Int)) <|
    zl (zup M9 9 (M9 0 12).toNat x1) fun M12 =>
    zl (zup M12 0 12 ((M12 0 12) + (1:Int))) fun M13 =>
    some ((M12 0 12), M13)) <|
  some (((-10:Int) - (M9 0 18)), M9)
def sX8_trace_38 (N : Nat) (k38 : Int → zM → Option (Int × zM)) (x1 : Int) (M0 : zM) : Option (Int × zM) :=
  zg (zR (M0 0 18)) <|
  zi (0 ≤ (M0 0 18)) (
    sX8_trace_101 N x1 M0) <|
  zg (zR (M0 0 17)) <|
  zg (zR (M0 0 7)) <|
  zi ((M0 0 7) ≤ (M0 0 17)) (
    sX8_trace_101 N x1 M0) <|
  zg (zR x1) <|
  zi (x1 = (20:Int)) (
    zl (zup M0 0 18 (M0 0 17)) fun M23 =>
    k38 x1 M23) <|
  zc2 (fX8_must N (59:Int) (59:Int) M0) fun r19 M18 =>
  zc (fX8_clause N (((M18 0 12) * (20:Int)) + x1) M18) fun M21 =>
  zl (x1 + (1:Int)) fun v22 =>
  k38 v22 M21
def fX8_trace_38 (N : Nat) : Nat → Int → zM → Option (Int × zM)
  | 0, _, _ => none
  | n + 1, x1, M0 => sX8_trace_38 N (fun x1 M0 => fX8_trace_38 N n x1 M0) x1 M0
def fX8_trace (N : Nat) (M : zM) : Option (Int × zM) :=
  zg (zR (M 0 12)) <|
  zi ((M 0 12) = (6:Int)) (
    some ((-4:Int), M)) <|
  zl (zup M 0 17 (0:Int)) fun M2 =>
  zl (zup M2 0 18 (-1:Int)) fun M3 =>
  zl ((0:Int)) fun v4 =>
  zc (fX8_clause N ((M3 0 12) * (20:Int)) M3) fun M6 =>
  zl (v4 + (1:Int)) fun v7 =>
  fX8_trace_38 N N v7 M6
def sX8_runs_115 (N : Nat) (k14 : Int → Int → Int → zM → Option (Int × zM)) (x1 : Int) (x2 : Int) (x3 : Int) (M0 : zM) : Option (Int × zM) :=
  zl (x3 + (1:Int)) fun v10 =>
  k14 x1 x2 v10 M0
def sX8_runs_14 (N : Nat) (k14 : Int → Int → Int → zM → Option (Int × zM)) (x1 : Int) (x2 : Int) (x3 : Int) (M0 : zM) : Option (Int × zM) :=
  zg (0 ≤ x1 ∧ x1 < (6:Int)) <|
  zg (zR x3) <|
  zg (zR ((x1 * (20:Int)) + (M0 9 x1.toNat))) <|
  zi (((x1 * (20:Int)) + (M0 9 x1.toNat)) ≤ x3) (
    some (((M0 1 3209) - x2), M0)) <|
  zg (0 ≤ x3 ∧ x3 < (120:Int)) <|
  zg (zR (M0 6 x3.toNat)) <|
  zi ((M0 6 x3.toNat) = (103:Int)) (
    zc2 (fX8_gets N (M0 7 x3.toNat) M0) fun r19 M18 =>
    sX8_runs_115 N k14 x1 x2 x3 M18) <|
  zi ((M0 6 x3.toNat) = (120:Int)) (
    zc2 (fX8_drops N (M0 7 x3.toNat) M0) fun r16 M15 =>
    sX8_runs_115 N k14 x1 x2 x3 M15) <|
  zg (zR (M0 8 x3.toNat)) <|
  zg (zR (M0 1 3200)) <|
  zi ((M0 1 3200) < (M0 8 x3.toNat)) (
    sX8_runs_115 N k14 x1 x2 x3 M0) <|
  zc2 (fX8_putIn N (M0 7 x3.toNat) (0:Int) (M0 8 x3.toNat) (1:Int) M0) fun r13 M12 =>
  sX8_runs_115 N k14 x1 x2 x3 M12
def fX8_runs_14 (N : Nat) : Nat → Int → Int → Int → zM → Option (Int × zM)
  | 0, _, _, _, _ => none
  | n + 1, x1, x2, x3, M0 => sX8_runs_14 N (fun x1 x2 x3 M0 => fX8_runs_14 N n x1 x2 x3 M0) x1 x2 x3 M0
def fX8_runs (N : Nat) (a1 : Int) (M : zM) : Option (Int × zM) :=
  zl ((M 1 3209)) fun v1 =>
  zl ((a1 * (20:Int))) fun v2 =>
  fX8_runs_14 N N a1 v1 v2 M
def fX8_isTrace (N : Nat) (a1 : Int) (M : zM) : Option (Int × zM) :=
  zc (fX8_in N a1 (0:Int) ((M 0 12) - (1:Int))) fun r1 =>
  zg (r1 = 0 ∨ r1 = 1) <|
  some (r1, M)
def fX8_run (N : Nat) (a1 : Int) (M : zM) : Option (Int × zM) :=
  zc2 (fX8_isTrace N a1 M) fun r3 M2 =>
  zg (zR r3) <|
  zi (r3 = 0) (
    some ((-1:Int), M2)) <|
  zc2 (fX8_runs N a1 M2) fun r7 M6 =>
  some (r7, M6)
def sX8_would_140 (N : Nat) (x3 : Int) (M0 : zM) : Option (Int × zM) :=
  zc (fX8_copy N (zpk is_2n1_1n1 M0)) fun M18 =>
  zl (zpt is_2n1_1n1 M0 M18) fun M19 =>
  some (x3, M19)
def fX8_would (N : Nat) (a1 : Int) (a2 : Int) (M : zM) : Option (Int × zM) :=
  zc2 (fX8_isTrace N a1 M) fun r3 M2 =>
  zg (zR r3) <|
  zi (r3 = 0) (
    some ((-1:Int), M2)) <|
  zc (fX8_in N a2 (0:Int) (5:Int)) fun r5 =>
  zg (zR r5) <|
  zi (r5 = 0) (
    some ((-1:Int), M2)) <|
  zc (fX8_copy N (zpk is_1n1_2n1 M2)) fun M9 =>
  zl (zpt is_1n1_2n1 M2 M9) fun M10 =>
  zc2 (fX8_runs N a1 M10) fun r13 M12 =>
  zg (zR a2) <|
  zi (a2 < (3:Int) ∨ (5:Int) < a2) (
    zg (0 ≤ ((3209:Int) + a2) ∧ ((3209:Int) + a2) < (3253:Int)) <|
    zl (((M12 1 ((3209:Int) + a2).toNat) - (M12 2 ((3209:Int) + a2).toNat))) fun v16 =>
    sX8_would_140 N v16 M12) <|
  zi (a2 = (3:Int)) (
    zl ((M12 1 3201)) fun v20 =>
    sX8_would_140 N v20 M12) <|
  zi (a2 = (4:Int)) (
    zl (((M12 1 3205) + (M12 1 3206))) fun v21 =>
    sX8_would_140 N v21 M12) <|
  zi (a2 = (5:Int)) (
    zl (((M12 1 3214) - (M12 2 3214))) fun v22 =>
    sX8_would_140 N v22 M12) <|
  none
def sX8_need_90 (N : Nat) (x3 : Int) (M0 : zM) : Option (Int × zM) :=
  some (x3, M0)
def sX8_need_72 (N : Nat) (k40 : Int → Int → Int → Int → zM → Option (Int × zM)) (x1 : Int) (x2 : Int) (x4 : Int) (y0 : Int) (M0 : zM) : Option (Int × zM) :=
  zl (y0) fun v22 =>
  zc (fX8_copy N (zpk is_2n1_1n1 M0)) fun M24 =>
  zl (zpt is_2n1_1n1 M0 M24) fun M25 =>
  zl (x4 + (1:Int)) fun v26 =>
  k40 x1 x2 v22 v26 M25
def sX8_need_40 (N : Nat) (k40 : Int → Int → Int → Int → zM → Option (Int × zM)) (x1 : Int) (x2 : Int) (x3 : Int) (x4 : Int) (M0 : zM) : Option (Int × zM) :=
  zg (zR x4) <|
  zi ((60:Int) < x4) (
    sX8_need_90 N x3 M0) <|
  zg (zR x3) <|
  zi (0 ≤ x3) (
    sX8_need_90 N x3 M0) <|
  zc (fX8_capacity N x4 M0) fun M16 =>
  zc2 (fX8_runs N x1 M16) fun r19 M18 =>
  zg (zR r19) <|
  zg (zR x2) <|
  zi (r19 < x2) (
    sX8_need_72 N k40 x1 x2 x4 x3 M18) <|
  sX8_need_72 N k40 x1 x2 x4 x4 M18
def fX8_need_40 (N : Nat) : Nat → Int → Int → Int → Int → zM → Option (Int × zM)
  | 0, _, _, _, _, _ => none
  | n + 1, x1, x2, x3, x4, M0 => sX8_need_40 N (fun x1 x2 x3 x4 M0 => fX8_need_40 N n x1 x2 x3 x4 M0) x1 x2 x3 x4 M0
def fX8_need (N : Nat) (a1 : Int) (a2 : Int) (M : zM) : Option (Int × zM) :=
  zc2 (fX8_isTrace N a1 M) fun r3 M2 =>
  zg (zR r3) <|
  zi (r3 = 0) (
    some ((-1:Int), M2)) <|
  zc (fX8_in N a2 (0:Int) (20:Int)) fun r5 =>
  zg (zR r5) <|
  zi (r5 = 0) (
    some ((-2:Int), M2)) <|
  zc (fX8_copy N (zpk is_1n1_2n1 M2)) fun M9 =>
  zl (zpt is_1n1_2n1 M2 M9) fun M10 =>
  zl ((-5:Int)) fun v11 =>
  zl ((1:Int)) fun v12 =>
  fX8_need_40 N N a1 a2 v11 v12 M10
def sX8_common_4 (N : Nat) (k4 : Int → Int → Option Int) (x2 : Int) (x3 : Int) : Option Int :=
  zg (zR x3) <|
  zi (x3 = 0) (
    some x2) <|
  zg ((0 ≤ x2 ∧ x2 ≤ 2147483647) ∧ 0 < x3 ∧ x3 ≤ 2147483647) <|
  zl ((x2 % x3)) fun v5 =>
  zl (x3) fun v6 =>
  zl (v5) fun v7 =>
  k4 v6 v7
def fX8_common_4 (N : Nat) : Nat → Int → Int → Option Int
  | 0, _, _ => none
  | n + 1, x2, x3 => sX8_common_4 N (fun x2 x3 => fX8_common_4 N n x2 x3) x2 x3
def fX8_common (N : Nat) (a1 : Int) (a2 : Int) : Option Int :=
  zl (a1) fun v1 =>
  zl (a2) fun v2 =>
  fX8_common_4 N N v1 v2
def fX8_part (N : Nat) (a1 : Int) (a2 : Int) (a3 : Int) : Option Int :=
  zc (fX8_common N a1 a2) fun r1 =>
  zl (r1) fun v3 =>
  zg (zR a3) <|
  zi (a3 = 0) (
    zg ((0 ≤ a1 ∧ a1 ≤ 2147483647) ∧ 0 < v3 ∧ v3 ≤ 2147483647) <|
    zg (zR (a1 / v3)) <|
    some (a1 / v3)) <|
  zg ((0 ≤ a2 ∧ a2 ≤ 2147483647) ∧ 0 < v3 ∧ v3 ≤ 2147483647) <|
  zg (zR (a2 / v3)) <|
  some (a2 / v3)
def sX8_odds_91 (N : Nat) (k48 : Int → Int → Int → Int → Int → zM → Option (Int × zM)) (x1 : Int) (x2 : Int) (x3 : Int) (x5 : Int) (y0 : Int) (y1 : Int) (M0 : zM) : Option (Int × zM) :=
  zl ((y1 + y0)) fun v28 =>
  zc (fX8_copy N (zpk is_2n1_1n1 M0)) fun M30 =>
  zl (zpt is_2n1_1n1 M0 M30) fun M31 =>
  zl (x5 + (1:Int)) fun v32 =>
  k48 x1 x2 x3 v28 v32 M31
def sX8_odds_48 (N : Nat) (k48 : Int → Int → Int → Int → Int → zM → Option (Int × zM)) (x1 : Int) (x2 : Int) (x3 : Int) (x4 : Int) (x5 : Int) (M0 : zM) : Option (Int × zM) :=
  zg (zR x5) <|
  zg (zR (M0 2 3200)) <|
  zi ((M0 2 3200) < x5) (
    zc (fX8_part N x4 ((M0 1 3200) + (1:Int)) x3) fun r18 =>
    some (r18, M0)) <|
  zl (zup M0 1 3201 x5) fun M20 =>
  zc (fX8_trim N M20) fun M22 =>
  zc2 (fX8_runs N x1 M22) fun r25 M24 =>
  zg (zR r25) <|
  zg (zR x2) <|
  zi (r25 < x2) (
    sX8_odds_91 N k48 x1 x2 x3 x5 (0:Int) x4 M24) <|
  sX8_odds_91 N k48 x1 x2 x3 x5 (1:Int) x4 M24
def fX8_odds_48 (N : Nat) : Nat → Int → Int → Int → Int → Int → zM → Option (Int × zM)
  | 0, _, _, _, _, _, _ => none
  | n + 1, x1, x2, x3, x4, x5, M0 => sX8_odds_48 N (fun x1 x2 x3 x4 x5 M0 => fX8_odds_48 N n x1 x2 x3 x4 x5 M0) x1 x2 x3 x4 x5 M0
def fX8_odds (N : Nat) (a1 : Int) (a2 : Int) (a3 : Int) (M : zM) : Option (Int × zM) :=
  zc2 (fX8_isTrace N a1 M) fun r3 M2 =>
  zg (zR r3) <|
  zi (r3 = 0) (
    some ((-9223372036854775808:Int), M2)) <|
  zc (fX8_in N a2 (0:Int) (20:Int)) fun r5 =>
  zg (zR r5) <|
  zi (r5 = 0) (
    some ((-9223372036854775808:Int), M2)) <|
  zc (fX8_in N a3 (0:Int) (1:Int)) fun r8 =>
  zg (zR r8) <|
  zi (r8 = 0) (
    some ((-9223372036854775808:Int), M2)) <|
  zc (fX8_copy N (zpk is_1n1_2n1 M2)) fun M12 =>
  zl (zpt is_1n1_2n1 M2 M12) fun M13 =>
  zl ((0:Int)) fun v14 =>
  zl ((0:Int)) fun v15 =>
  fX8_odds_48 N N a1 a2 a3 v14 v15 M13
def sX8_manyAt_29 (N : Nat) (k4 : Int → Int → Int → zM → Option (Int × zM)) (x1 : Int) (x3 : Int) (y0 : Int) (y1 : Int) (M0 : zM) : Option (Int × zM) :=
  zl ((y1 + y0)) fun v7 =>
  zl (x3 + (1:Int)) fun v8 =>
  k4 x1 v7 v8 M0
def sX8_manyAt_4 (N : Nat) (k4 : Int → Int → Int → zM → Option (Int × zM)) (x1 : Int) (x2 : Int) (x3 : Int) (M0 : zM) : Option (Int × zM) :=
  zg (zR x3) <|
  zi ((400:Int) ≤ x3) (
    some (x2, M0)) <|
  zg (0 ≤ ((0:Int) + x3) ∧ ((0:Int) + x3) < (3253:Int)) <|
  zg (zR (M0 1 ((0:Int) + x3).toNat)) <|
  zg (zR x1) <|
  zi ((M0 1 ((0:Int) + x3).toNat) = x1) (
    sX8_manyAt_29 N k4 x1 x3 (1:Int) x2 M0) <|
  sX8_manyAt_29 N k4 x1 x3 (0:Int) x2 M0
def fX8_manyAt_4 (N : Nat) : Nat → Int → Int → Int → zM → Option (Int × zM)
  | 0, _, _, _, _ => none
  | n + 1, x1, x2, x3, M0 => sX8_manyAt_4 N (fun x1 x2 x3 M0 => fX8_manyAt_4 N n x1 x2 x3 M0) x1 x2 x3 M0
def fX8_manyAt (N : Nat) (a1 : Int) (M : zM) : Option (Int × zM) :=
  zl ((0:Int)) fun v1 =>
  zl ((0:Int)) fun v2 =>
  fX8_manyAt_4 N N a1 v1 v2 M
def sX8_mean_72 (N : Nat) (k35 : Int → Int → Int → Int → zM → Option (Int × zM)) (x1 : Int) (x2 : Int) (x4 : Int) (y0 : Int) (y1 : Int) (M0 : zM) : Option (Int × zM) :=
  zl ((y1 + y0)) fun v22 =>
  zl (x4 + (1:Int)) fun v23 =>
  k35 x1 x2 v22 v23 M0
def sX8_mean_35 (N : Nat) (k35 : Int → Int → Int → Int → zM → Option (Int × zM)) (x1 : Int) (x2 : Int) (x3 : Int) (x4 : Int) (M0 : zM) : Option (Int × zM) :=
  zg (zR x4) <|
  zi ((400:Int) ≤ x4) (
    zc2 (fX8_manyAt N x1 M0) fun r16 M15 =>
    zc (fX8_part N x3 r16 x2) fun r17 =>
    some (r17, M15)) <|
  zg (0 ≤ ((0:Int) + x4) ∧ ((0:Int) + x4) < (3253:Int)) <|
  zg (zR (M0 1 ((0:Int) + x4).toNat)) <|
  zg (zR x1) <|
  zi ((M0 1 ((0:Int) + x4).toNat) = x1) (
    zg (0 ≤ ((1200:Int) + x4) ∧ ((1200:Int) + x4) < (3253:Int)) <|
    sX8_mean_72 N k35 x1 x2 x4 (M0 1 ((1200:Int) + x4).toNat) x3 M0) <|
  sX8_mean_72 N k35 x1 x2 x4 (0:Int) x3 M0
def fX8_mean_35 (N : Nat) : Nat → Int → Int → Int → Int → zM → Option (Int × zM)
  | 0, _, _, _, _, _ => none
  | n + 1, x1, x2, x3, x4, M0 => sX8_mean_35 N (fun x1 x2 x3 x4 M0 => fX8_mean_35 N n x1 x2 x3 x4 M0) x1 x2 x3 x4 M0
def fX8_mean (N : Nat) (a1 : Int) (a2 : Int) (M : zM) : Option (Int × zM) :=
  zc (fX8_in N a1 (1:Int) (2:Int)) fun r1 =>
  zg (zR r1) <|
  zi (r1 = 0) (
    some ((-9223372036854775808:Int), M)) <|
  zc (fX8_in N a2 (0:Int) (1:Int)) fun r4 =>
  zg (zR r4) <|
  zi (r4 = 0) (
    some ((-9223372036854775808:Int), M)) <|
  zc2 (fX8_manyAt N a1 M) fun r9 M8 =>
  zg (zR r9) <|
  zi (r9 = 0) (
    some ((-9223372036854775808:Int), M8)) <|
  zl ((0:Int)) fun v11 =>
  zl ((0:Int)) fun v12 =>
  fX8_mean_35 N N a1 a2 v11 v12 M8
def fX8_book (N : Nat) (a1 : Int) (a2 : Int) (a3 : Int) (M : zM) : Option (Int × zM) :=
  zg (zR a1) <|
  zi (a1 = (-1:Int)) (
    zl (zup M 1 3236 (0:Int)) fun M14 =>
    some ((0:Int), M14)) <|
  zc (fX8_isKey N a1 a2) fun r2 =>
  zg (zR r2) <|
  zi (r2 = 0) (
    some ((-1:Int), M)) <|
  zc (fX8_in N a3 (0:Int) (4:Int)) fun r5 =>
  zg (zR r5) <|
  zi (r5 = 0) (
    some ((-2:Int), M)) <|
  zg (zR (M 1 3236)) <|
  zi ((M 1 3236) = (8:Int)) (
    some ((-4:Int), M)) <|
  zg (0 ≤ ((3237:Int) + ((2:Int) * (M 1 3236))) ∧ ((3237:Int) + ((2:Int) * (M 1 3236))) < (3253:Int)) <|
  zl (zup M 1 ((3237:Int) + ((2:Int) * (M 1 3236))).toNat (((100:Int) * a1) + a2)) fun M10 =>
  zg (0 ≤ (((3237:Int) + ((2:Int) * (M10 1 3236))) + (1:Int)) ∧ (((3237:Int) + ((2:Int) * (M10 1 3236))) + (1:Int)) < (3253:Int)) <|
  zl (zup M10 1 (((3237:Int) + ((2:Int) * (M10 1 3236))) + (1:Int)).toNat a3) fun M12 =>
  zl (zup M12 1 3236 ((M12 1 3236) + (1:Int))) fun M13 =>
  some ((M13 1 3236), M13)
def sX8_looked_2 (N : Nat) (k2 : Int → zM → Option (Int × zM)) (x1 : Int) (M0 : zM) : Option (Int × zM) :=
  zg (zR x1) <|
  zg (zR (M0 1 3236)) <|
  zi ((M0 1 3236) ≤ x1) (
    some ((-5:Int), M0)) <|
  zg (0 ≤ ((3237:Int) + ((2:Int) * x1)) ∧ ((3237:Int) + ((2:Int) * x1)) < (3253:Int)) <|
  zg (0 ≤ ((0:Int) + (M0 1 ((3237:Int) + ((2:Int) * x1)).toNat)) ∧ ((0:Int) + (M0 1 ((3237:Int) + ((2:Int) * x1)).toNat)) < (3253:Int)) <|
  zg (0 ≤ (((3237:Int) + ((2:Int) * x1)) + (1:Int)) ∧ (((3237:Int) + ((2:Int) * x1)) + (1:Int)) < (3253:Int)) <|
  zg (zR (M0 1 ((0:Int) + (M0 1 ((3237:Int) + ((2:Int) * x1)).toNat)).toNat)) <|
  zg (zR (M0 1 (((3237:Int) + ((2:Int) * x1)) + (1:Int)).toNat)) <|
  zi ((M0 1 ((0:Int) + (M0 1 ((3237:Int) + ((2:Int) * x1)).toNat)).toNat) = (M0 1 (((3237:Int) + ((2:Int) * x1)) + (1:Int)).toNat)) (
    zl (x1 + (1:Int)) fun v9 =>
    k2 v9 M0) <|
  some (x1, M0)
def fX8_looked_2 (N : Nat) : Nat → Int → zM → Option (Int × zM)
  | 0, _, _ => none
  | n + 1, x1, M0 => sX8_looked_2 N (fun x1 M0 => fX8_looked_2 N n x1 M0) x1 M0
def fX8_looked (N : Nat) (M : zM) : Option (Int × zM) :=
  zl ((0:Int)) fun v1 =>
  fX8_looked_2 N N v1 M
def fX8_isTape (N : Nat) (a1 : Int) : Option Int :=
  zc (fX8_in N a1 (0:Int) (5:Int)) fun r1 =>
  zg (r1 = 0 ∨ r1 = 1) <|
  some r1
def sX8_judge_72 (N : Nat) (x4 : Int) (M0 : zM) : Option (Int × zM) :=
  some (((100:Int) + x4), M0)
def sX8_judge_40 (N : Nat) (k40 : Int → Int → Int → Int → zM → Option (Int × zM)) (x1 : Int) (x2 : Int) (x3 : Int) (x4 : Int) (M0 : zM) : Option (Int × zM) :=
  zg (zR x4) <|
  zg (zR x3) <|
  zi (x3 ≤ x4) (
    some ((-5:Int), M0)) <|
  zg (0 ≤ x1 ∧ x1 < (6:Int)) <|
  zg (zR (M0 10 x1.toNat)) <|
  zi ((M0 10 x1.toNat) < 0) (
    sX8_judge_72 N x4 M0) <|
  zg (zR x2) <|
  zi (x2 < 0) (
    sX8_judge_72 N x4 M0) <|
  zg (zR ((M0 11 x1.toNat) - x4)) <|
  zi (x2 < ((M0 11 x1.toNat) - x4)) (
    zg (0 ≤ (x2 + x4) ∧ (x2 + x4) < (60:Int)) <|
    zc2 (fX8_keyAt N (1:Int) x4 M0) fun r21 M20 =>
    zg (zR r21) <|
    zg (zRL (M0 (13 + 1 * x1.toNat) (x2 + x4).toNat)) <|
    zg (zRL r21) <|
    zi ((M0 (13 + 1 * x1.toNat) (x2 + x4).toNat) = r21) (
      zl (x4 + (1:Int)) fun v25 =>
      k40 x1 x2 x3 v25 M20) <|
    some (x4, M20)) <|
  sX8_judge_72 N x4 M0
def fX8_judge_40 (N : Nat) : Nat → Int → Int → Int → Int → zM → Option (Int × zM)
  | 0, _, _, _, _, _ => none
  | n + 1, x1, x2, x3, x4, M0 => sX8_judge_40 N (fun x1 x2 x3 x4 M0 => fX8_judge_40 N n x1 x2 x3 x4 M0) x1 x2 x3 x4 M0
def sX8_judge_31 (N : Nat) (x1 : Int) (x2 : Int) (M0 : zM) : Option (Int × zM) :=
  zc2 (fX8_manyAt N (1:Int) M0) fun r8 M7 =>
  zl (r8) fun v9 =>
  zl ((0:Int)) fun v10 =>
  fX8_judge_40 N N x1 x2 v9 v10 M7
def fX8_judge (N : Nat) (a1 : Int) (a2 : Int) (M : zM) : Option (Int × zM) :=
  zc (fX8_isTape N a1) fun r1 =>
  zg (zR r1) <|
  zi (r1 = 0) (
    some ((-1:Int), M)) <|
  zg (0 ≤ a1 ∧ a1 < (6:Int)) <|
  zg (zR (M 10 a1.toNat)) <|
  zi ((M 10 a1.toNat) < 0) (
    sX8_judge_31 N a1 a2 M) <|
  zi ((M 10 a1.toNat) = (1:Int)) (
    sX8_judge_31 N a1 a2 M) <|
  some ((-12:Int), M)
def is_1n1_3n1 : List Nat := [1, 3]
def fX8_image (N : Nat) (M : zM) : Option (Int × zM) :=
  zc (fX8_copy N (zpk is_1n1_3n1 M)) fun M2 =>
  zl (zpt is_1n1_3n1 M M2) fun M3 =>
  zl (zup M3 0 3 (1:Int)) fun M4 =>
  zc2 (fX8_manyAt N (1:Int) M4) fun r7 M6 =>
  zc2 (fX8_manyAt N (2:Int) M6) fun r10 M9 =>
  some ((r7 + r10), M9)
def is_3n1_1n1 : List Nat := [3, 1]
def fX8_undo (N : Nat) (M : zM) : Option (Int × zM) :=
  zg (zR (M 0 3)) <|
  zi ((M 0 3) = 0) (
    some ((-3:Int), M)) <|
  zc (fX8_copy N (zpk is_3n1_1n1 M)) fun M3 =>
  zl (zpt is_3n1_1n1 M M3) fun M4 =>
  zc2 (fX8_manyAt N (1:Int) M4) fun r7 M6 =>
  zc2 (fX8_manyAt N (2:Int) M6) fun r10 M9 =>
  some ((r7 + r10), M9)
def sX8_count_44 (N : Nat) (x1 : Int) (M0 : zM) : Option (Int × zM) :=
  zc2 (fX8_manyAt N (x1 + (1:Int)) M0) fun r4 M3 =>
  some (r4, M3)
def fX8_count (N : Nat) (a1 : Int) (M : zM) : Option (Int × zM) :=
  zg (zR a1) <|
  zi (a1 < (0:Int) ∨ (6:Int) < a1) (
    some ((-2:Int), M)) <|
  zi (a1 = (0:Int)) (
    sX8_count_44 N a1 M) <|
  zi (a1 = (1:Int)) (
    sX8_count_44 N a1 M) <|
  zi (a1 = (2:Int)) (
    sX8_count_44 N a1 M) <|
  zi (a1 = (3:Int)) (
    sX8_count_44 N a1 M) <|
  zi (a1 = (4:Int)) (
    some ((M 0 12), M)) <|
  zi (a1 = (5:Int)) (
    some ((M 1 3236), M)) <|
  zi (a1 = (6:Int)) (
    some ((M 0 7), M)) <|
  none
def sX8_tape_67 (N : Nat) (k67 : Int → Int → zM → Option (Int × zM)) (x1 : Int) (x4 : Int) (M0 : zM) : Option (Int × zM) :=
  zg (zR x4) <|
  zi ((60:Int) ≤ x4) (
    some ((1:Int), M0)) <|
  zg (0 ≤ x1 ∧ x1 < (6:Int)) <|
  zg (0 ≤ x4 ∧ x4 < (60:Int)) <|
  zl (zup M0 (13 + 1 * x1.toNat) x4.toNat (0:Int)) fun M19 =>
  zl (x4 + (1:Int)) fun v20 =>
  k67 x1 v20 M19
def fX8_tape_67 (N : Nat) : Nat → Int → Int → zM → Option (Int × zM)
  | 0, _, _, _ => none
  | n + 1, x1, x4, M0 => sX8_tape_67 N (fun x1 x4 M0 => fX8_tape_67 N n x1 x4 M0) x1 x4 M0
def sX8_tape_63 (N : Nat) (x1 : Int) (y0 : Int) (y1 : Int) (M0 : zM) : Option (Int × zM) :=
  zg (0 ≤ y1 ∧ y1 < (6:Int)) <|
  zl (zup M0 11 y1.toNat y0) fun M13 =>
  zl ((0:Int)) fun v14 =>
  fX8_tape_67 N N x1 v14 M13
def sX8_tape_42 (N : Nat) (x1 : Int) (x2 : Int) (x3 : Int) (M0 : zM) : Option (Int × zM) :=
  zg (0 ≤ x1 ∧ x1 < (6:Int)) <|
  zl (zup M0 10 x1.toNat x2) fun M10 =>
  zg (zR x2) <|
  zi (0 ≤ x2) (
    sX8_tape_63 N x1 x3 x1 M10) <|
  sX8_tape_63 N x1 (0:Int) x1 M10
def sX8_tape_31 (N : Nat) (x1 : Int) (x2 : Int) (x3 : Int) (M0 : zM) : Option (Int × zM) :=
  zg (zR x2) <|
  zi (x2 < 0) (
    sX8_tape_42 N x1 x2 x3 M0) <|
  zg (zR x3) <|
  zi (0 ≤ x3) (
    sX8_tape_42 N x1 x2 x3 M0) <|
  some ((-14:Int), M0)
def fX8_tape (N : Nat) (a1 : Int) (a2 : Int) (a3 : Int) (M : zM) : Option (Int × zM) :=
  zc (fX8_isTape N a1) fun r1 =>
  zg (zR r1) <|
  zi (r1 = 0) (
    some ((-1:Int), M)) <|
  zc (fX8_in N a2 (-1:Int) (4:Int)) fun r4 =>
  zg (zR r4) <|
  zi (r4 = 0) (
    some ((-2:Int), M)) <|
  zg (zR a2) <|
  zi (a2 < 0) (
    sX8_tape_31 N a1 a2 a3 M) <|
  zg (zR a3) <|
  zi (a3 ≤ (60:Int)) (
    sX8_tape_31 N a1 a2 a3 M) <|
  some ((-2:Int), M)
def fX8_fit (N : Nat) (a1 : Int) (a2 : Int) : Option Int :=
  zg (zR a1) <|
  zi (a1 < (0:Int) ∨ (3:Int) < a1) (
    zg (zRL a2) <|
    zi (a2 = (0:Int)) (
      some (0:Int)) <|
    some (1:Int)) <|
  zi (a1 = (0:Int)) (
    zg (zR (zB (zI a2))) <|
    some (zB (zI a2))) <|
  zi (a1 = (1:Int)) (
    zg (zR (zS (zI a2))) <|
    some (zS (zI a2))) <|
  zi (a1 = (2:Int)) (
    zg (zR (zI a2)) <|
    some (zI a2)) <|
  zi (a1 = (3:Int)) (
    some a2) <|
  none
def fX8_item (N : Nat) (a1 : Int) (a2 : Int) (a3 : Int) (M : zM) : Option (Int × zM) :=
  zc (fX8_isTape N a1) fun r1 =>
  zg (zR r1) <|
  zi (r1 = 0) (
    some ((-1:Int), M)) <|
  zg (0 ≤ a1 ∧ a1 < (6:Int)) <|
  zg (zR (M 10 a1.toNat)) <|
  zi (0 ≤ (M 10 a1.toNat)) (
    zc (fX8_in N a2 (0:Int) ((M 11 a1.toNat) - (1:Int))) fun r6 =>
    zg (zR r6) <|
    zi (r6 = 0) (
      some ((-13:Int), M)) <|
    zc (fX8_fit N (M 10 a1.toNat) a3) fun r10 =>
    zg (0 ≤ a2 ∧ a2 < (60:Int)) <|
    zl (zup M (13 + 1 * a1.toNat) a2.toNat r10) fun M13 =>
    some ((1:Int), M13)) <|
  some ((-11:Int), M)
def fX8_read (N : Nat) (a1 : Int) (a2 : Int) (M : zM) : Option (Int × zM) :=
  zc (fX8_isTape N a1) fun r1 =>
  zg (zR r1) <|
  zi (r1 = 0) (
    some ((-9223372036854775808:Int), M)) <|
  zg (0 ≤ a1 ∧ a1 < (6:Int)) <|
  zg (zR (M 10 a1.toNat)) <|
  zi ((M 10 a1.toNat) < 0) (
    some ((-9223372036854775808:Int), M)) <|
  zc (fX8_in N a2 (0:Int) ((M 11 a1.toNat) - (1:Int))) fun r6 =>
  zg (zR r6) <|
  zi (r6 = 0) (
    some ((-9223372036854775808:Int), M)) <|
  zg (0 ≤ a2 ∧ a2 < (60:Int)) <|
  some ((M (13 + 1 * a1.toNat) a2.toNat), M)
def sX8_shift_158 (N : Nat) (k158 : Int → Int → Int → Int → zM → Option (Int × zM)) (x3 : Int) (x4 : Int) (x5 : Int) (x6 : Int) (M0 : zM) : Option (Int × zM) :=
  zg (zR x6) <|
  zg (zR x5) <|
  zi (x5 ≤ x6) (
    some (x5, M0)) <|
  zg (0 ≤ x3 ∧ x3 < (6:Int)) <|
  zg (0 ≤ x6 ∧ x6 < (60:Int)) <|
  zg (0 ≤ (x4 + x6) ∧ (x4 + x6) < (60:Int)) <|
  zl (zup M0 (13 + 1 * x3.toNat) (x4 + x6).toNat (M0 19 x6.toNat)) fun M28 =>
  zl (x6 + (1:Int)) fun v29 =>
  k158 x3 x4 x5 v29 M28
def fX8_shift_158 (N : Nat) : Nat → Int → Int → Int → Int → zM → Option (Int × zM)
  | 0, _, _, _, _, _ => none
  | n + 1, x3, x4, x5, x6, M0 => sX8_shift_158 N (fun x3 x4 x5 x6 M0 => fX8_shift_158 N n x3 x4 x5 x6 M0) x3 x4 x5 x6 M0
def sX8_shift_124 (N : Nat) (k124 : Int → Int → Int → Int → Int → Int → zM → Option (Int × zM)) (x1 : Int) (x2 : Int) (x3 : Int) (x4 : Int) (x5 : Int) (x6 : Int) (M0 : zM) : Option (Int × zM) :=
  zg (zR x6) <|
  zg (zR x5) <|
  zi (x5 ≤ x6) (
    zl ((0:Int)) fun v21 =>
    fX8_shift_158 N N x3 x4 x5 v21 M0) <|
  zg (0 ≤ x1 ∧ x1 < (6:Int)) <|
  zg (0 ≤ (x2 + x6) ∧ (x2 + x6) < (60:Int)) <|
  zg (0 ≤ x6 ∧ x6 < (60:Int)) <|
  zl (zup M0 19 x6.toNat (M0 (13 + 1 * x1.toNat) (x2 + x6).toNat)) fun M34 =>
  zl (x6 + (1:Int)) fun v35 =>
  k124 x1 x2 x3 x4 x5 v35 M34
def fX8_shift_124 (N : Nat) : Nat → Int → Int → Int → Int → Int → Int → zM → Option (Int × zM)
  | 0, _, _, _, _, _, _, _ => none
  | n + 1, x1, x2, x3, x4, x5, x6, M0 => sX8_shift_124 N (fun x1 x2 x3 x4 x5 x6 M0 => fX8_shift_124 N n x1 x2 x3 x4 x5 x6 M0) x1 x2 x3 x4 x5 x6 M0
def fX8_shift (N : Nat) (a1 : Int) (a2 : Int) (a3 : Int) (a4 : Int) (a5 : Int) (M : zM) : Option (Int × zM) :=
  zc (fX8_isTape N a1) fun r1 =>
  zg (zR r1) <|
  zi (r1 = 0) (
    some ((-1:Int), M)) <|
  zc (fX8_isTape N a3) fun r4 =>
  zg (zR r4) <|
  zi (r4 = 0) (
    some ((-1:Int), M)) <|
  zg (0 ≤ a1 ∧ a1 < (6:Int)) <|
  zg (zR (M 10 a1.toNat)) <|
  zi ((M 10 a1.toNat) < 0) (
    some ((-11:Int), M)) <|
  zg (0 ≤ a3 ∧ a3 < (6:Int)) <|
  zg (zR (M 10 a3.toNat)) <|
  zi (0 ≤ (M 10 a3.toNat)) (
    zi ((M 10 a1.toNat) = (M 10 a3.toNat)) (
      zg (zR a5) <|
      zi (a5 < 0) (
        some ((-13:Int), M)) <|
      zg (zR a2) <|
      zi (a2 < 0) (
        some ((-13:Int), M)) <|
      zg (zR a4) <|
      zi (a4 < 0) (
        some ((-13:Int), M)) <|
      zg (zR (M 11 a1.toNat)) <|
      zi ((M 11 a1.toNat) < a5) (
        some ((-13:Int), M)) <|
      zg (zR (M 11 a3.toNat)) <|
      zi ((M 11 a3.toNat) < a5) (
        some ((-13:Int), M)) <|
      zg (zR ((M 11 a1.toNat) - a5)) <|
      zi (((M 11 a1.toNat) - a5) < a2) (
        some ((-13:Int), M)) <|
      zg (zR ((M 11 a3.toNat) - a5)) <|
      zi (a4 ≤ ((M 11 a3.toNat) - a5)) (
        zl ((0:Int)) fun v18 =>
        fX8_shift_124 N N a1 a2 a3 a4 a5 v18 M) <|
      some ((-13:Int), M)) <|
    some ((-12:Int), M)) <|
  some ((-11:Int), M)
