theorem lb_m104 : (Int8.ofInt (-104)).toInt32 = (-104) := by decide
theorem lb_m103 : (Int8.ofInt (-103)).toInt32 = (-103) := by decide
theorem lb_m102 : (Int8.ofInt (-102)).toInt32 = (-102) := by decide
theorem lb_m101 : (Int8.ofInt (-101)).toInt32 = (-101) := by decide
theorem lb_6 : (Int8.ofInt 6).toInt32 = 6 := by decide
theorem lb_7 : (Int8.ofInt 7).toInt32 = 7 := by decide
theorem lb_8 : (Int8.ofInt 8).toInt32 = 8 := by decide
theorem lb_9 : (Int8.ofInt 9).toInt32 = 9 := by decide
theorem lb_10 : (Int8.ofInt 10).toInt32 = 10 := by decide
theorem lb_12 : (Int8.ofInt 12).toInt32 = 12 := by decide
theorem lb_16 : (Int8.ofInt 16).toInt32 = 16 := by decide
theorem lb_30 : (Int8.ofInt 30).toInt32 = 30 := by decide
theorem lb_31 : (Int8.ofInt 31).toInt32 = 31 := by decide
theorem lb_32 : (Int8.ofInt 32).toInt32 = 32 := by decide
theorem lb_34 : (Int8.ofInt 34).toInt32 = 34 := by decide
theorem lb_44 : (Int8.ofInt 44).toInt32 = 44 := by decide
theorem lb_48 : (Int8.ofInt 48).toInt32 = 48 := by decide
theorem lb_55 : (Int8.ofInt 55).toInt32 = 55 := by decide
theorem lb_63 : (Int8.ofInt 63).toInt32 = 63 := by decide
theorem lb_64 : (Int8.ofInt 64).toInt32 = 64 := by decide
theorem lb_100 : (Int8.ofInt 100).toInt32 = 100 := by decide
theorem lb_126 : (Int8.ofInt 126).toInt32 = 126 := by decide
theorem lc_m1 : Int32.ofInt (-1) = (-1) := by decide
theorem lc_0 : Int32.ofInt 0 = 0 := by decide
theorem lc_1 : Int32.ofInt 1 = 1 := by decide
theorem lc_2 : Int32.ofInt 2 = 2 := by decide
theorem lc_3 : Int32.ofInt 3 = 3 := by decide
theorem lc_4 : Int32.ofInt 4 = 4 := by decide
theorem lc_5 : Int32.ofInt 5 = 5 := by decide
theorem ls_200 : (Int16.ofInt 200).toInt32 = 200 := by decide
theorem ls_255 : (Int16.ofInt 255).toInt32 = 255 := by decide
theorem ls_300 : (Int16.ofInt 300).toInt32 = 300 := by decide
theorem ls_301 : (Int16.ofInt 301).toInt32 = 301 := by decide
theorem ls_400 : (Int16.ofInt 400).toInt32 = 400 := by decide
theorem ls_401 : (Int16.ofInt 401).toInt32 = 401 := by decide
theorem ls_500 : (Int16.ofInt 500).toInt32 = 500 := by decide
theorem ls_600 : (Int16.ofInt 600).toInt32 = 600 := by decide
theorem ls_1000 : (Int16.ofInt 1000).toInt32 = 1000 := by decide
theorem ls_2000 : (Int16.ofInt 2000).toInt32 = 2000 := by decide
theorem ls_3000 : (Int16.ofInt 3000).toInt32 = 3000 := by decide
theorem ls_4000 : (Int16.ofInt 4000).toInt32 = 4000 := by decide
theorem ls_5000 : (Int16.ofInt 5000).toInt32 = 5000 := by decide
theorem ls_6300 : (Int16.ofInt 6300).toInt32 = 6300 := by decide
theorem ls_6301 : (Int16.ofInt 6301).toInt32 = 6301 := by decide
def F_X1_has (σ : SF) (b : Nat) (x1 : Int32) : Option Int32 :=
  if x1 < 0 then (
  some 0
  ) else (
  if (σ b 0) ≤ x1 then (
  some 0
  ) else (
  some 1
  )
  )
def F_X1_target (σ : SF) (b : Nat) (x1 : Int32) (x2 : Int32) : Option Int32 :=
  zb (F_X1_has σ b x1) fun r2 =>
  if r2 = 0 then (
  some (-1)
  ) else (
  if x2 = 0 then (
  zg (zin x1 8) <|
  some (σ (b + 2) (x1 : Int32).toNatClampNeg)
  ) else (
  zg (zin x1 8) <|
  some (σ (b + 3) (x1 : Int32).toNatClampNeg)
  )
  )
def F_X6_endsOf  (x0 : Int32) : Option Int32 :=
  if x0 = 0 then (
  some 1
  ) else (
  if x0 = 2 then (
  some 0
  ) else (
  some 2
  )
  )
def L_X0_findTargets_2 (j : Nat) (y1 : Int32) : Nat → Int32 → SF → Option (Int32 × SF)
  | 0, _, _ => none
  | n + 1, y2, σ =>
    if 16 ≤ y2 then (
    some (y2, σ)
    ) else (
    zl (y2 / 2) fun v1 =>
    zb (F_X1_target σ j v1 (y2 - y2 / 2 * 2)) fun r3 =>
    zb (F_X1_has σ j v1) fun r5 =>
    if r5 = 0 then (
    zg (zin y2 16) <|
    zl (zst σ (j + 5) (y2 : Int32).toNatClampNeg (-1)) fun σ6 =>
    zl (y2 + 1) fun v7 =>
    L_X0_findTargets_2 j y1 n v7 σ6
    ) else (
    zb (F_X1_has σ j r3) fun r9 =>
    if r9 = 0 then (
    zg (zin y2 16) <|
    zl (zst σ (j + 5) (y2 : Int32).toNatClampNeg (-1)) fun σ10 =>
    zl (y2 + 1) fun v11 =>
    L_X0_findTargets_2 j y1 n v11 σ10
    ) else (
    zg (zin v1 8) <|
    zb (F_X6_endsOf (σ (j + 1) (v1 : Int32).toNatClampNeg)) fun r13 =>
    if r13 ≤ (y2 - y2 / 2 * 2) then (
    zg (zin y2 16) <|
    zl (zst σ (j + 5) (y2 : Int32).toNatClampNeg (-1)) fun σ14 =>
    zl (y2 + 1) fun v15 =>
    L_X0_findTargets_2 j y1 n v15 σ14
    ) else (
    if ((y1 >>> (y2 &&& 31)) &&& 1) = 0 then (
    zg (zin y2 16) <|
    zl (zst σ (j + 5) (y2 : Int32).toNatClampNeg r3) fun σ18 =>
    zl (y2 + 1) fun v19 =>
    L_X0_findTargets_2 j y1 n v19 σ18
    ) else (
    zg (zin y2 16) <|
    zl (zst σ (j + 5) (y2 : Int32).toNatClampNeg (-1)) fun σ16 =>
    zl (y2 + 1) fun v17 =>
    L_X0_findTargets_2 j y1 n v17 σ16
    )
    )
    )
    )
    )
def F_X0_findTargets (σ : SF) (j : Nat) (x1 : Int32) : Option SF :=
  zb2 (L_X0_findTargets_2 j x1 100 0 σ) fun v20 σ21 =>
  some σ21
def L_X0_doNode_43 (rec : SF → Int32 → Int32 → Option SF) (j : Nat) (y1 : Int32) (y2 : Int32) : Nat → Int32 → SF → Option (Int32 × SF)
  | 0, _, _ => none
  | n + 1, y3, σ =>
    if (((2 : Int32) * y1) + 1) < y3 then (
    some (y3, σ)
    ) else (
    zg (zin y3 16) <|
    zl (σ (j + 5) (y3 : Int32).toNatClampNeg) fun v5 =>
    if v5 = (-1) then (
    zl (y3 + 1) fun v6 =>
    L_X0_doNode_43 rec j y1 y2 n v6 σ
    ) else (
    if (((σ (j + 4) 7) >>> (v5 &&& 31)) &&& 1) = 0 then (
    zb (rec σ v5 (y2 + 1)) fun σ9 =>
    zl (y3 + 1) fun v10 =>
    L_X0_doNode_43 rec j y1 y2 n v10 σ9
    ) else (
    zl (y3 + 1) fun v7 =>
    L_X0_doNode_43 rec j y1 y2 n v7 σ
    )
    )
    )
def B_X0_doNode (rec : SF → Int32 → Int32 → Option SF) (σ : SF) (j : Nat) (x1 : Int32) (x2 : Int32) : Option SF :=
  zb (F_X1_has σ j x1) fun r2 =>
  if r2 = 0 then (
  some σ
  ) else (
  if 8 ≤ x2 then (
  some σ
  ) else (
  if (σ (j + 4) 6) < 8 then (
  zl (zst σ (j + 4) 7 ((σ (j + 4) 7) ||| ((1 : Int32) <<< (x1 &&& 31)))) fun σ3 =>
  zl ((2 : Int32) * x1) fun v4 =>
  zb2 (L_X0_doNode_43 rec j x1 x2 100 v4 σ3) fun v11 σ12 =>
  zg (zin (σ12 (j + 4) 6) 8) <|
  zl (zst σ12 (j + 7) (σ12 (j + 4) 6 : Int32).toNatClampNeg x1) fun σ14 =>
  zl (zst σ14 (j + 4) 6 ((σ14 (j + 4) 6) + 1)) fun σ15 =>
  some σ15
  ) else (
  some σ
  )
  )
  )
def F_X0_doNode : Nat → SF → Nat → Int32 → Int32 → Option SF
  | 0, _, _, _, _ => none
  | n + 1, σ, j, x1, x2 => B_X0_doNode (fun σ x1 x2 => F_X0_doNode n σ j x1 x2) σ j x1 x2
def L_J7_fill_53178_5 (q : Nat) (nn : Nat) (y1 : Int32) (y3 : Int32) : Nat → Int32 → SF → Option (Int32 × SF)
  | 0, _, _ => none
  | n + 1, y2, σ =>
    if y3 ≤ y2 then (
    some (y2, σ)
    ) else (
    zg (zin y2 nn) <|
    zl (zst σ q (y2 : Int32).toNatClampNeg y1) fun σ2 =>
    zl (y2 + 1) fun v3 =>
    L_J7_fill_53178_5 q nn y1 y3 n v3 σ2
    )
def F_J7_fill_53178 (σ : SF) (q : Nat) (nn : Nat) (x1 : Int32) : Option SF :=
  zl (nI nn) fun v1 =>
  zb2 (L_J7_fill_53178_5 q nn x1 v1 100 0 σ) fun v4 σ5 =>
  some σ5
def F_X0_strikeBehind (σ : SF) (j : Nat) (x1 : Int32) (x2 : Int32) : Option (Int32 × SF) :=
  zl (((2 : Int32) * x1) + x2) fun v1 =>
  zg (zin v1 16) <|
  zl (σ (j + 5) (v1 : Int32).toNatClampNeg) fun v2 =>
  if v2 = (-1) then (
  some (0, σ)
  ) else (
  zg (zin v2 8) <|
  zg (zin x1 8) <|
  zl ((σ (j + 9) (v2 : Int32).toNatClampNeg) &&& ((σ (j + 9) (x1 : Int32).toNatClampNeg) ||| ((1 : Int32) <<< (v2 &&& 31)))) fun v3 =>
  zg (zin v2 8) <|
  if v3 = (σ (j + 9) (v2 : Int32).toNatClampNeg) then (
  zg (zin v2 8) <|
  zl (zst σ (j + 9) (v2 : Int32).toNatClampNeg v3) fun σ4 =>
  some (0, σ4)
  ) else (
  zg (zin v2 8) <|
  zl (zst σ (j + 9) (v2 : Int32).toNatClampNeg v3) fun σ5 =>
  some (1, σ5)
  )
  )
def L_X0_findRulers_10 (j : Nat) : Nat → Int32 → SF → Option (Int32 × SF)
  | 0, _, _ => none
  | n + 1, y1, σ =>
    if (σ (j + 4) 6) ≤ y1 then (
    some (y1, σ)
    ) else (
    zg (zin y1 8) <|
    zg (zin y1 8) <|
    if (σ (j + 7) (y1 : Int32).toNatClampNeg) = 0 then (
    zg (zin (σ (j + 7) (y1 : Int32).toNatClampNeg) 8) <|
    zl (zst σ (j + 9) (σ (j + 7) (y1 : Int32).toNatClampNeg : Int32).toNatClampNeg 1) fun σ5 =>
    zl (y1 + 1) fun v6 =>
    L_X0_findRulers_10 j n v6 σ5
    ) else (
    zg (zin (σ (j + 7) (y1 : Int32).toNatClampNeg) 8) <|
    zl (zst σ (j + 9) (σ (j + 7) (y1 : Int32).toNatClampNeg : Int32).toNatClampNeg (σ (j + 4) 7)) fun σ3 =>
    zl (y1 + 1) fun v4 =>
    L_X0_findRulers_10 j n v4 σ3
    )
    )
def L_X0_findRulers_75 (j : Nat) (y2 : Int32) : Nat → Int32 → Int32 → SF → Option (Int32 × Int32 × SF)
  | 0, _, _, _ => none
  | n + 1, y1, y3, σ =>
    if y3 < 0 then (
    some (y1, y3, σ)
    ) else (
    zg (zin y3 8) <|
    zb2 (F_X0_strikeBehind σ j (σ (j + 7) (y3 : Int32).toNatClampNeg) 0) fun r13 σ12 =>
    zl (y1 ||| r13) fun v14 =>
    zg (zin y3 8) <|
    zb2 (F_X0_strikeBehind σ12 j (σ12 (j + 7) (y3 : Int32).toNatClampNeg) 1) fun r17 σ16 =>
    zl (v14 ||| r17) fun v18 =>
    zl (y3 + (-1)) fun v19 =>
    L_X0_findRulers_75 j y2 n v18 v19 σ16
    )
def L_X0_findRulers_56 (j : Nat) : Nat → Int32 → Int32 → SF → Option (Int32 × Int32 × SF)
  | 0, _, _, _ => none
  | n + 1, y1, y2, σ =>
    if y1 = 0 then (
    some (y1, y2, σ)
    ) else (
    if 64 < y2 then (
    some (y1, y2, σ)
    ) else (
    zl ((σ (j + 4) 6) - 1) fun v10 =>
    zb3 (L_X0_findRulers_75 j y2 100 0 v10 σ) fun v20 v21 σ22 =>
    zl (y2 + 1) fun v24 =>
    L_X0_findRulers_56 j n v20 v24 σ22
    )
    )
def F_X0_findRulers (σ : SF) (j : Nat) : Option SF :=
  zb (F_J7_fill_53178 σ (j + 9) 8 0) fun σ2 =>
  zb2 (L_X0_findRulers_10 j 100 0 σ2) fun v7 σ8 =>
  zb3 (L_X0_findRulers_56 j 100 1 0 σ8) fun v25 v26 σ27 =>
  some σ27
def L_X0_weighEdges_29 (j : Nat) : Nat → Int32 → Int32 → SF → Option (Int32 × Int32 × SF)
  | 0, _, _, _ => none
  | n + 1, y1, y2, σ =>
    if 16 ≤ y2 then (
    some (y1, y2, σ)
    ) else (
    zl (y2 / 2) fun v6 =>
    zg (zin y2 16) <|
    zl (σ (j + 5) (y2 : Int32).toNatClampNeg) fun v7 =>
    zg (zin y2 16) <|
    zl (zst σ (j + 6) (y2 : Int32).toNatClampNeg (-1)) fun σ8 =>
    if v7 = (-1) then (
    zl (y2 + 1) fun v9 =>
    L_X0_weighEdges_29 j n y1 v9 σ8
    ) else (
    if (((σ8 (j + 4) 7) >>> (v6 &&& 31)) &&& 1) = 0 then (
    zl (y2 + 1) fun v23 =>
    L_X0_weighEdges_29 j n y1 v23 σ8
    ) else (
    zl (zst σ8 (j + 4) 8 ((σ8 (j + 4) 8) + 1)) fun σ10 =>
    zl ((1 : Int32) <<< (v7 &&& 31)) fun v11 =>
    zg (zin v7 8) <|
    zg (zin v6 8) <|
    if (σ10 (j + 8) (v7 : Int32).toNatClampNeg) ≤ (σ10 (j + 8) (v6 : Int32).toNatClampNeg) then (
    zg (zin v6 8) <|
    if ((σ10 (j + 9) (v6 : Int32).toNatClampNeg) &&& v11) = 0 then (
    zg (zin y2 16) <|
    zl (zst σ10 (j + 6) (y2 : Int32).toNatClampNeg 2) fun σ12 =>
    zl (zst σ12 (j + 4) 10 ((σ12 (j + 4) 10) + 1)) fun σ13 =>
    zl (y2 + 1) fun v14 =>
    L_X0_weighEdges_29 j n y1 v14 σ13
    ) else (
    zg (zin y2 16) <|
    zl (zst σ10 (j + 6) (y2 : Int32).toNatClampNeg 1) fun σ15 =>
    zl (zst σ15 (j + 4) 9 ((σ15 (j + 4) 9) + 1)) fun σ16 =>
    zl (zst σ16 (j + 4) 11 ((σ16 (j + 4) 11) ||| v11)) fun σ17 =>
    zl (y2 + 1) fun v18 =>
    L_X0_weighEdges_29 j n y1 v18 σ17
    )
    ) else (
    zg (zin y2 16) <|
    zl (zst σ10 (j + 6) (y2 : Int32).toNatClampNeg 0) fun σ19 =>
    zl (zst σ19 (j + 4) 12 ((σ19 (j + 4) 12) ||| (y1 &&& v11))) fun σ20 =>
    zl (y1 ||| v11) fun v21 =>
    zl (y2 + 1) fun v22 =>
    L_X0_weighEdges_29 j n v21 v22 σ20
    )
    )
    )
    )
def F_X0_weighEdges (σ : SF) (j : Nat) : Option SF :=
  zl (zst σ (j + 4) 8 0) fun σ1 =>
  zl (zst σ1 (j + 4) 9 0) fun σ2 =>
  zl (zst σ2 (j + 4) 10 0) fun σ3 =>
  zl (zst σ3 (j + 4) 11 0) fun σ4 =>
  zl (zst σ4 (j + 4) 12 0) fun σ5 =>
  zb3 (L_X0_weighEdges_29 j 100 0 0 σ5) fun v24 v25 σ26 =>
  some σ26
def L_X0_look_31 (j : Nat) : Nat → Int32 → SF → Option (Int32 × SF)
  | 0, _, _ => none
  | n + 1, y2, σ =>
    if (σ (j + 4) 6) ≤ y2 then (
    some (y2, σ)
    ) else (
    zg (zin y2 8) <|
    zg (zin (σ (j + 7) (y2 : Int32).toNatClampNeg) 8) <|
    zl (zst σ (j + 8) (σ (j + 7) (y2 : Int32).toNatClampNeg : Int32).toNatClampNeg (((σ (j + 4) 6) - 1) - y2)) fun σ9 =>
    zl (y2 + 1) fun v10 =>
    L_X0_look_31 j n v10 σ9
    )
def F_X0_look (σ : SF) (j : Nat) (x1 : Int32) : Option SF :=
  zb (F_X0_findTargets σ j x1) fun σ2 =>
  zl (zst σ2 (j + 4) 7 0) fun σ3 =>
  zl (zst σ3 (j + 4) 6 0) fun σ4 =>
  zb (F_X0_doNode 9 σ4 j 0 0) fun σ6 =>
  zb (F_J7_fill_53178 σ6 (j + 8) 8 (-1)) fun σ8 =>
  zb2 (L_X0_look_31 j 100 0 σ8) fun v11 σ12 =>
  zb (F_X0_findRulers σ12 j) fun σ15 =>
  zb (F_X0_weighEdges σ15 j) fun σ17 =>
  some σ17
def F_X0_folds (σ : SF) (j : Nat) : Option Int32 :=
  if (σ (j + 4) 6) ≤ 0 then (
  some 0
  ) else (
  if (σ (j + 4) 10) = 0 then (
  some 1
  ) else (
  some 0
  )
  )
def F_X0_nodeAt (σ : SF) (j : Nat) (x1 : Int32) : Option Int32 :=
  if x1 < 0 then (
  some (-1)
  ) else (
  if (σ (j + 4) 6) ≤ x1 then (
  some (-1)
  ) else (
  zl (((σ (j + 4) 6) - 1) - x1) fun v1 =>
  zg (zin v1 8) <|
  some (σ (j + 7) (v1 : Int32).toNatClampNeg)
  )
  )
def F_X0_placeOf (σ : SF) (j : Nat) (x1 : Int32) : Option Int32 :=
  zb (F_X1_has σ j x1) fun r2 =>
  if r2 = 0 then (
  some (-1)
  ) else (
  zg (zin x1 8) <|
  some (σ (j + 8) (x1 : Int32).toNatClampNeg)
  )
def F_X6_isEnd  (x0 : Int32) : Option Int32 :=
  if x0 = 0 then (
  some 1
  ) else (
  if x0 = 1 then (
  some 1
  ) else (
  some 0
  )
  )
def F_X0_stateOf (σ : SF) (j : Nat) (x1 : Int32) (x2 : Int32) : Option Int32 :=
  zb (F_X1_has σ j x1) fun r2 =>
  if r2 = 0 then (
  some (-1)
  ) else (
  zb (F_X6_isEnd x2) fun r4 =>
  if r4 = 0 then (
  some (-1)
  ) else (
  zl (((2 : Int32) * x1) + x2) fun v5 =>
  zg (zin v5 16) <|
  some (σ (j + 6) (v5 : Int32).toNatClampNeg)
  )
  )
def F_X0_isHead (σ : SF) (j : Nat) (x1 : Int32) : Option Int32 :=
  zb (F_X1_has σ j x1) fun r2 =>
  if r2 = 0 then (
  some 0
  ) else (
  if (((σ (j + 4) 11) >>> (x1 &&& 31)) &&& 1) = 1 then (
  some 1
  ) else (
  some 0
  )
  )
def F_X0_isMerge (σ : SF) (j : Nat) (x1 : Int32) : Option Int32 :=
  zb (F_X1_has σ j x1) fun r2 =>
  if r2 = 0 then (
  some 0
  ) else (
  if (((σ (j + 4) 12) >>> (x1 &&& 31)) &&& 1) = 1 then (
  some 1
  ) else (
  some 0
  )
  )
def F_X0_rules (σ : SF) (j : Nat) (x1 : Int32) (x2 : Int32) : Option Int32 :=
  zb (F_X1_has σ j x1) fun r2 =>
  if r2 = 0 then (
  some 0
  ) else (
  zb (F_X1_has σ j x2) fun r4 =>
  if r4 = 0 then (
  some 0
  ) else (
  zg (zin x2 8) <|
  if (((σ (j + 9) (x2 : Int32).toNatClampNeg) >>> (x1 &&& 31)) &&& 1) = 1 then (
  some 1
  ) else (
  some 0
  )
  )
  )
def L_X0_ruledBy_4 (σ : SF) (j : Nat) (y1 : Int32) : Nat → Int32 → Int32 → Option (Int32 × Int32)
  | 0, _, _ => none
  | n + 1, y2, y3 =>
    if (σ j 0) ≤ y3 then (
    some (y2, y3)
    ) else (
    zb (F_X0_rules σ j y1 y3) fun r2 =>
    if r2 = 0 then (
    zl (y2 + 0) fun v3 =>
    zl (y3 + 1) fun v4 =>
    L_X0_ruledBy_4 σ j y1 n v3 v4
    ) else (
    zl (y2 + 1) fun v5 =>
    zl (y3 + 1) fun v6 =>
    L_X0_ruledBy_4 σ j y1 n v5 v6
    )
    )
def F_X0_ruledBy (σ : SF) (j : Nat) (x1 : Int32) : Option Int32 :=
  zb2 (L_X0_ruledBy_4 σ j x1 100 0 0) fun v7 v8 =>
  some v7
def L_X0_lordOf_28 (σ : SF) (j : Nat) (y2 : Int32) : Nat → Int32 → Option ((Int32) ⊕ (Int32))
  | 0, _ => none
  | n + 1, y3 =>
    if (σ j 0) ≤ y3 then (
    some (.inr y3)
    ) else (
    if y2 = 0 then (
    zl (y3 + 1) fun v4 =>
    L_X0_lordOf_28 σ j y2 n v4
    ) else (
    zg (zin y3 8) <|
    if (σ (j + 9) (y3 : Int32).toNatClampNeg) = y2 then (
    some (.inl y3)
    ) else (
    zl (y3 + 1) fun v5 =>
    L_X0_lordOf_28 σ j y2 n v5
    )
    )
    )
def F_X0_lordOf (σ : SF) (j : Nat) (x1 : Int32) : Option Int32 :=
  zb (F_X1_has σ j x1) fun r2 =>
  if r2 = 0 then (
  some (-1)
  ) else (
  zg (zin x1 8) <|
  zl ((σ (j + 9) (x1 : Int32).toNatClampNeg) &&& (((1 : Int32) <<< (x1 &&& 31)) ^^^ (-1))) fun v3 =>
  zs (L_X0_lordOf_28 σ j v3 100 0) (fun ρ9 => some ρ9) (fun u8 =>
  zb (some u8) fun v6 =>
  some (-1)
  )
  )
def F_X1_grow (σ : SF) (b : Nat) (x1 : Int32) : Option (Int32 × SF) :=
  if (σ b 0) < 8 then (
  zg (zin (σ b 0) 8) <|
  zl (zst σ (b + 1) (σ b 0 : Int32).toNatClampNeg x1) fun σ1 =>
  zg (zin (σ1 b 0) 8) <|
  zl (zst σ1 (b + 2) (σ1 b 0 : Int32).toNatClampNeg 0) fun σ2 =>
  zg (zin (σ2 b 0) 8) <|
  zl (zst σ2 (b + 3) (σ2 b 0 : Int32).toNatClampNeg 0) fun σ3 =>
  zl (zst σ3 b 0 ((σ3 b 0) + 1)) fun σ4 =>
  some (1, σ4)
  ) else (
  some (0, σ)
  )
def F_X1_put (σ : SF) (b : Nat) (x1 : Int32) (x2 : Int32) (x3 : Int32) : Option SF :=
  zb (F_X1_has σ b x1) fun r2 =>
  if r2 = 0 then (
  some σ
  ) else (
  if x2 = 0 then (
  zg (zin x1 8) <|
  zl (zst σ (b + 2) (x1 : Int32).toNatClampNeg x3) fun σ4 =>
  some σ4
  ) else (
  zg (zin x1 8) <|
  zl (zst σ (b + 3) (x1 : Int32).toNatClampNeg x3) fun σ3 =>
  some σ3
  )
  )
def F_X1_copyFrom (σ : SF) (b : Nat) (b2 : Nat) : Option SF :=
  zl (zst σ b 0 (σ b2 0)) fun σ1 =>
  zl (zsr σ1 (b + 1) (va_cpy (σ1 (b2 + 1)) (σ1 (b + 1)) 0 0 (8 : Int32).toNatClampNeg)) fun σ2 =>
  zl (zsr σ2 (b + 2) (va_cpy (σ2 (b2 + 2)) (σ2 (b + 2)) 0 0 (8 : Int32).toNatClampNeg)) fun σ3 =>
  zl (zsr σ3 (b + 3) (va_cpy (σ3 (b2 + 3)) (σ3 (b + 3)) 0 0 (8 : Int32).toNatClampNeg)) fun σ4 =>
  some σ4
def F_X2_add (σ : SF)  (x1 : Int32) : Option (Int32 × SF) :=
  if (σ 1 1) < 34 then (
  zg (zin (σ 1 1) 34) <|
  zl (zst σ 2 (σ 1 1 : Int32).toNatClampNeg x1) fun σ1 =>
  zl (zst σ1 1 1 ((σ1 1 1) + 1)) fun σ2 =>
  some (1, σ2)
  ) else (
  some (0, σ)
  )
def F_J0_isLatin1_aae02 (σ : SF)  : Option Int32 :=
  some 1
def F_J0_coder_7d493 (σ : SF)  : Option Int32 :=
  some 0
def F_J0_length_8abf5 (σ : SF)  : Option Int32 :=
  zb (F_J0_coder_7d493 σ) fun r2 =>
  some ((5 : Int32) >>> (r2 &&& 31))
def F_J1_canEncode_9a6ad  (x0 : Int32) : Option Int32 :=
  if x0 < 0 then (
  some 0
  ) else (
  if 255 < x0 then (
  some 0
  ) else (
  some 1
  )
  )
def L_J1_indexOfChar_4cfef_7 (σ : SF) (y3 : Int32) (y4 : Int32) : Nat → Int32 → Option ((Int32) ⊕ (Int32))
  | 0, _ => none
  | n + 1, y5 =>
    if y3 ≤ y5 then (
    some (.inr y5)
    ) else (
    zg (zin y5 5) <|
    if (kb (y5 : Int32).toNatClampNeg) = y4 then (
    some (.inl y5)
    ) else (
    zl (y5 + 1) fun v2 =>
    L_J1_indexOfChar_4cfef_7 σ y3 y4 n v2
    )
    )
def F_J1_indexOfChar_4cfef (σ : SF)  (x1 : Int32) (x2 : Int32) (x3 : Int32) : Option Int32 :=
  zl ((x1 : Int32).toInt8.toInt32) fun v1 =>
  zs (L_J1_indexOfChar_4cfef_7 σ x3 v1 100 x2) (fun ρ6 => some ρ6) (fun u5 =>
  zb (some u5) fun v3 =>
  some (-1)
  )
def F_J1_indexOf_4cfef (σ : SF)  (x1 : Int32) (x2 : Int32) (x3 : Int32) : Option Int32 :=
  zb (F_J1_canEncode_9a6ad x1) fun r2 =>
  if r2 = 0 then (
  some (-1)
  ) else (
  zl ((if x2 < 0 then 0 else x2)) fun v3 =>
  zl ((if 5 < x3 then 5 else x3)) fun v4 =>
  if v3 < v4 then (
  zb (F_J1_indexOfChar_4cfef σ x1 v3 v4) fun r6 =>
  some r6
  ) else (
  some (-1)
  )
  )
def F_J0_indexOf_7cf53 (σ : SF)  (x1 : Int32) (x2 : Int32) : Option Int32 :=
  zb (F_J0_isLatin1_aae02 σ) fun r2 =>
  if r2 = 0 then (
  zb (F_J0_length_8abf5 σ) fun r4 =>
  none
  ) else (
  zb (F_J0_length_8abf5 σ) fun r6 =>
  zb (F_J1_indexOf_4cfef σ x1 x2 r6) fun r8 =>
  some r8
  )
def F_J0_indexOf_0f7a4 (σ : SF)  (x1 : Int32) : Option Int32 :=
  zb (F_J0_indexOf_7cf53 σ x1 0) fun r2 =>
  some r2
def F_X6_isKind  (x0 : Int32) : Option Int32 :=
  if x0 < 0 then (
  some 0
  ) else (
  if 5 ≤ x0 then (
  some 0
  ) else (
  some 1
  )
  )
def L_X2_readInto_25 : Nat → Int32 → Int32 → Int32 → Int32 → SF → Option ((Int32 × SF) ⊕ (Int32 × Int32 × Int32 × Int32 × SF))
  | 0, _, _, _, _, _ => none
  | n + 1, y2, y3, y4, y5, σ =>
    if (σ 1 1) ≤ y5 then (
    some (.inr (y2, y3, y4, y5, σ))
    ) else (
    zg (zin y5 34) <|
    zl (σ 2 (y5 : Int32).toNatClampNeg) fun v4 =>
    if y4 ≤ y3 then (
    if y2 = 0 then (
    if v4 = 44 then (
    if (σ 31 0) < 8 then (
    zl (y5 + 1) fun v5 =>
    L_X2_readInto_25 n 1 y3 y4 v5 σ
    ) else (
    some (.inl (y5, σ))
    )
    ) else (
    some (.inl (y5, σ))
    )
    ) else (
    zb (F_J0_indexOf_0f7a4 σ (((v4 : Int32).toUInt32 % 65536).toInt32)) fun r7 =>
    zb (F_X6_isKind r7) fun r9 =>
    if r9 = 0 then (
    some (.inl (y5, σ))
    ) else (
    zb2 (F_X1_grow σ 31 r7) fun r12 σ11 =>
    if r12 = 0 then (
    some (.inl (y5, σ11))
    ) else (
    zb (F_X6_endsOf r7) fun r14 =>
    zl (y5 + 1) fun v15 =>
    L_X2_readInto_25 n 0 0 r14 v15 σ11
    )
    )
    )
    ) else (
    if v4 < 48 then (
    some (.inl (y5, σ))
    ) else (
    if v4 ≤ 55 then (
    zb (F_X1_put σ 31 ((σ 31 0) - 1) y3 (v4 - 48)) fun σ17 =>
    zl (zst σ17 1 3 (if (σ17 1 3) < (v4 - 48) then (v4 - 48) else (σ17 1 3))) fun σ18 =>
    zl (y3 + 1) fun v19 =>
    zl (y5 + 1) fun v20 =>
    L_X2_readInto_25 n y2 v19 y4 v20 σ18
    ) else (
    some (.inl (y5, σ))
    )
    )
    )
    )
def F_X2_readInto (σ : SF)  : Option (Int32 × SF) :=
  zl (zst σ 31 0 0) fun σ1 =>
  zl (zst σ1 1 2 0) fun σ2 =>
  zl (zst σ2 1 3 0) fun σ3 =>
  zs (L_X2_readInto_25 100 1 0 0 0 σ3) (fun ρ28 => some ρ28) (fun u27 =>
  zb5 (some u27) fun v21 v22 v23 v24 σ25 =>
  if v21 = 0 then (
  if v22 = v23 then (
  zl (zst σ25 1 2 1) fun σ31 =>
  some (σ31 1 1, σ31)
  ) else (
  zl (zst σ25 1 2 0) fun σ30 =>
  some (σ30 1 1, σ30)
  )
  ) else (
  zl (zst σ25 1 2 0) fun σ29 =>
  some (σ29 1 1, σ29)
  )
  )
def F_X3_add (σ : SF) (b : Nat) (x1 : Int32) (x2 : Int32) (x3 : Int32) : Option (Int32 × SF) :=
  if (σ b 0) < 6 then (
  zg (zin (σ b 0) 6) <|
  zl (zst σ (b + 1) (σ b 0 : Int32).toNatClampNeg x1) fun σ1 =>
  zg (zin (σ1 b 0) 6) <|
  zl (zst σ1 (b + 2) (σ1 b 0 : Int32).toNatClampNeg x2) fun σ2 =>
  zg (zin (σ2 b 0) 6) <|
  zl (zst σ2 (b + 3) (σ2 b 0 : Int32).toNatClampNeg x3) fun σ3 =>
  zl (zst σ3 b 0 ((σ3 b 0) + 1)) fun σ4 =>
  some (1, σ4)
  ) else (
  some (0, σ)
  )
def F_X3_copyFrom (σ : SF) (b : Nat) (b2 : Nat) : Option SF :=
  zl (zst σ b 0 (σ b2 0)) fun σ1 =>
  zl (zsr σ1 (b + 1) (va_cpy (σ1 (b2 + 1)) (σ1 (b + 1)) 0 0 (6 : Int32).toNatClampNeg)) fun σ2 =>
  zl (zsr σ2 (b + 2) (va_cpy (σ2 (b2 + 2)) (σ2 (b + 2)) 0 0 (6 : Int32).toNatClampNeg)) fun σ3 =>
  zl (zsr σ3 (b + 3) (va_cpy (σ3 (b2 + 3)) (σ3 (b + 3)) 0 0 (6 : Int32).toNatClampNeg)) fun σ4 =>
  some σ4
def F_X6_doesAt  (x0 : Int32) (x1 : Int32) (x2 : Int32) : Option Int32 :=
  if x0 = 1 then (
  some x2
  ) else (
  if x0 = 2 then (
  some 2
  ) else (
  if x0 = 3 then (
  if (x1 - x1 / 2 * 2) = 0 then (
  some 1
  ) else (
  some 0
  )
  ) else (
  if x0 = 4 then (
  if (x1 - x1 / 3 * 3) = 0 then (
  some 1
  ) else (
  some 0
  )
  ) else (
  some 0
  )
  )
  )
  )
def L_X3_sortsThatDo_4 (y0 : Int32) (y1 : Int32) : Nat → Int32 → Int32 → Option (Int32 × Int32)
  | 0, _, _ => none
  | n + 1, y2, y3 =>
    if 5 ≤ y3 then (
    some (y2, y3)
    ) else (
    zb (F_X6_doesAt y3 y0 0) fun r2 =>
    if r2 = y1 then (
    zl (y2 ||| ((1 : Int32) <<< (y3 &&& 31))) fun v3 =>
    zl (y3 + 1) fun v4 =>
    L_X3_sortsThatDo_4 y0 y1 n v3 v4
    ) else (
    zb (F_X6_doesAt y3 y0 1) fun r6 =>
    if r6 = y1 then (
    zl (y2 ||| ((1 : Int32) <<< (y3 &&& 31))) fun v8 =>
    zl (y3 + 1) fun v9 =>
    L_X3_sortsThatDo_4 y0 y1 n v8 v9
    ) else (
    zl (y3 + 1) fun v7 =>
    L_X3_sortsThatDo_4 y0 y1 n y2 v7
    )
    )
    )
def F_X3_sortsThatDo  (x0 : Int32) (x1 : Int32) : Option Int32 :=
  zb2 (L_X3_sortsThatDo_4 x0 x1 100 0 0) fun v10 v11 =>
  some v10
def L_X3_sortsOf_5 (σ : SF) (b : Nat) (y1 : Int32) : Nat → Int32 → Int32 → Option (Int32 × Int32)
  | 0, _, _ => none
  | n + 1, y2, y3 =>
    if (σ b 0) ≤ y3 then (
    some (y2, y3)
    ) else (
    zg (zin y3 6) <|
    if (σ (b + 1) (y3 : Int32).toNatClampNeg) = y1 then (
    zg (zin y3 6) <|
    zg (zin y3 6) <|
    zb (F_X3_sortsThatDo (σ (b + 2) (y3 : Int32).toNatClampNeg) (σ (b + 3) (y3 : Int32).toNatClampNeg)) fun r3 =>
    zl (y2 &&& r3) fun v4 =>
    zl (y3 + 1) fun v5 =>
    L_X3_sortsOf_5 σ b y1 n v4 v5
    ) else (
    zl (y3 + 1) fun v1 =>
    L_X3_sortsOf_5 σ b y1 n y2 v1
    )
    )
def F_X3_sortsOf (σ : SF) (b : Nat) (x1 : Int32) : Option Int32 :=
  zb2 (L_X3_sortsOf_5 σ b x1 100 31 0) fun v6 v7 =>
  some v6
def F_J6_bitCount_0f7a4  (x0 : Int32) : Option Int32 :=
  zl (x0 - ((((x0).toUInt32 >>> ((1 : Int32).toUInt32 &&& Int32.toUInt32 31)).toInt32) &&& 1431655765)) fun v1 =>
  zl ((v1 &&& 858993459) + ((((v1).toUInt32 >>> ((2 : Int32).toUInt32 &&& Int32.toUInt32 31)).toInt32) &&& 858993459)) fun v2 =>
  zl ((v2 + (((v2).toUInt32 >>> ((4 : Int32).toUInt32 &&& Int32.toUInt32 31)).toInt32)) &&& 252645135) fun v3 =>
  zl (v3 + (((v3).toUInt32 >>> ((8 : Int32).toUInt32 &&& Int32.toUInt32 31)).toInt32)) fun v4 =>
  zl (v4 + (((v4).toUInt32 >>> ((16 : Int32).toUInt32 &&& Int32.toUInt32 31)).toInt32)) fun v5 =>
  some (v5 &&& 63)
def L_X3_askFor_31 (σ : SF) (b : Nat) (y2 : Int32) (y3 : Int32) (y4 : Int32) (y5 : Int32) : Nat → Int32 → Int32 → Option (Int32 × Int32)
  | 0, _, _ => none
  | n + 1, y6, y7 =>
    if 2 < y7 then (
    some (y6, y7)
    ) else (
    zb (F_X3_sortsThatDo y5 y7) fun r4 =>
    zb (F_J6_bitCount_0f7a4 (y2 &&& r4)) fun r6 =>
    zl ((if y6 < r6 then r6 else y6)) fun v7 =>
    zl (y7 + 1) fun v8 =>
    L_X3_askFor_31 σ b y2 y3 y4 y5 n v7 v8
    )
def L_X3_askFor_15 (σ : SF) (b : Nat) (y2 : Int32) : Nat → Int32 → Int32 → Int32 → Option (Int32 × Int32 × Int32)
  | 0, _, _, _ => none
  | n + 1, y3, y4, y5 =>
    if 3 < y5 then (
    some (y3, y4, y5)
    ) else (
    if y2 = 0 then (
    some (y3, y4, y5)
    ) else (
    zb2 (L_X3_askFor_31 σ b y2 y3 y4 y5 100 0 0) fun v9 v10 =>
    if y4 ≤ v9 then (
    zl (y5 + 1) fun v12 =>
    L_X3_askFor_15 σ b y2 n y3 y4 v12
    ) else (
    zl (y5 + 1) fun v13 =>
    L_X3_askFor_15 σ b y2 n y5 v9 v13
    )
    )
    )
def F_X3_askFor (σ : SF) (b : Nat) (x1 : Int32) : Option Int32 :=
  zb (F_X3_sortsOf σ b x1) fun r2 =>
  zb3 (L_X3_askFor_15 σ b r2 100 (-1) 6 1) fun v14 v15 v16 =>
  some v14
def F_X4_put (σ : SF)  (x1 : Int32) : Option SF :=
  if 72 ≤ (σ 13 3) then (
  some σ
  ) else (
  zg (zin (σ 13 3) 72) <|
  zl (zst σ 14 (σ 13 3 : Int32).toNatClampNeg x1) fun σ1 =>
  zl (zst σ1 13 3 ((σ1 13 3) + 1)) fun σ2 =>
  some σ2
  )
def F_X4_putOpening (σ : SF)  (x1 : Int32) : Option SF :=
  zb (F_X4_put σ x1) fun σ2 =>
  if 16 ≤ (σ2 13 8) then (
  zl (zst σ2 13 6 (if (σ2 13 6) < (σ2 13 8) then (σ2 13 8) else (σ2 13 6))) fun σ3 =>
  some σ3
  ) else (
  zg (zin (σ2 13 8) 16) <|
  zl (zst σ2 15 (σ2 13 8 : Int32).toNatClampNeg x1) fun σ4 =>
  zl (zst σ4 13 8 ((σ4 13 8) + 1)) fun σ5 =>
  zl (zst σ5 13 6 (if (σ5 13 6) < (σ5 13 8) then (σ5 13 8) else (σ5 13 6))) fun σ6 =>
  some σ6
  )
def F_X4_isBlockIn (σ : SF)  (x1 : Int32) (x2 : Int32) : Option Int32 :=
  zb (F_X0_isMerge σ 3 x2) fun r2 =>
  if r2 = 0 then (
  some 0
  ) else (
  zb (F_X0_lordOf σ 3 x2) fun r4 =>
  if r4 = x1 then (
  some 1
  ) else (
  some 0
  )
  )
def L_X4_depthOf_2 (σ : SF) (y1 : Int32) : Nat → Int32 → Option (Int32)
  | 0, _ => none
  | n + 1, y2 =>
    if (σ 13 8) ≤ y2 then (
    some y2
    ) else (
    zl (((σ 13 8) - 1) - y2) fun v1 =>
    zg (zin v1 16) <|
    if (σ 15 (v1 : Int32).toNatClampNeg) = y1 then (
    some y2
    ) else (
    zl (y2 + 1) fun v2 =>
    L_X4_depthOf_2 σ y1 n v2
    )
    )
def F_X4_depthOf (σ : SF)  (x1 : Int32) : Option Int32 :=
  zb (L_X4_depthOf_2 σ x1 100 0) fun v3 =>
  some v3
def F_X4_putWayOut (σ : SF)  (x1 : Int32) (x2 : Int32) : Option SF :=
  zb (F_X4_put σ (x1 + x2)) fun σ2 =>
  zl (zst σ2 13 4 ((σ2 13 4) + 1)) fun σ3 =>
  zl (zst σ3 13 5 ((σ3 13 5) + x2)) fun σ4 =>
  some σ4
def F_X4_putBranch (rec : SF → Int32 → Int32 → Option SF) (σ : SF)  (x1 : Int32) (x2 : Int32) (x3 : Int32) : Option SF :=
  zb (F_X1_target σ 3 x1 x2) fun r2 =>
  zb (F_X0_stateOf σ 3 x1 x2) fun r4 =>
  if r4 = 0 then (
  zb (F_X0_isMerge σ 3 r2) fun r6 =>
  if r6 = 0 then (
  zb (rec σ r2 (x3 + 1)) fun σ8 =>
  some σ8
  ) else (
  zb (F_X4_depthOf σ ((200 : Int32) + r2)) fun r10 =>
  zb (F_X4_putWayOut σ 600 r10) fun σ12 =>
  some σ12
  )
  ) else (
  zb (F_X4_depthOf σ ((100 : Int32) + r2)) fun r14 =>
  zb (F_X4_putWayOut σ 500 r14) fun σ16 =>
  some σ16
  )
def F_X4_putClosing (σ : SF)  (x1 : Int32) : Option SF :=
  zb (F_X4_put σ x1) fun σ2 =>
  zl (zst σ2 13 8 (if 0 < ((σ2 13 8) - 1) then ((σ2 13 8) - 1) else 0)) fun σ3 =>
  some σ3
def L_X4_putWithin_10 (rec : SF → Int32 → Int32 → Option SF) (y1 : Int32) (y2 : Int32) : Nat → Int32 → SF → Option (Int32 × SF)
  | 0, _, _ => none
  | n + 1, y3, σ =>
    if y3 ≤ 0 then (
    some (y3, σ)
    ) else (
    zb (F_X0_nodeAt σ 3 y3) fun r3 =>
    zb (F_X4_isBlockIn σ y1 r3) fun r5 =>
    if r5 = 0 then (
    zl (y3 + (-1)) fun v6 =>
    L_X4_putWithin_10 rec y1 y2 n v6 σ
    ) else (
    zb (F_X0_nodeAt σ 3 y3) fun r8 =>
    zb (F_X4_putOpening σ ((200 : Int32) + r8)) fun σ10 =>
    zl (y3 + (-1)) fun v11 =>
    L_X4_putWithin_10 rec y1 y2 n v11 σ10
    )
    )
def L_X4_putWithin_111 (rec : SF → Int32 → Int32 → Option SF) (y1 : Int32) (y2 : Int32) : Nat → Int32 → SF → Option (Int32 × SF)
  | 0, _, _ => none
  | n + 1, y4, σ =>
    if (σ (3 + 4) 6) ≤ y4 then (
    some (y4, σ)
    ) else (
    zb (F_X0_nodeAt σ 3 y4) fun r20 =>
    zb (F_X4_isBlockIn σ y1 r20) fun r22 =>
    if r22 = 0 then (
    zl (y4 + 1) fun v23 =>
    L_X4_putWithin_111 rec y1 y2 n v23 σ
    ) else (
    zb (F_X4_putClosing σ 301) fun σ25 =>
    zb (F_X0_nodeAt σ25 3 y4) fun r27 =>
    zb (rec σ25 r27 (y2 + 1)) fun σ29 =>
    zl (y4 + 1) fun v30 =>
    L_X4_putWithin_111 rec y1 y2 n v30 σ29
    )
    )
def F_X4_putWithin (rec : SF → Int32 → Int32 → Option SF) (σ : SF)  (x1 : Int32) (x2 : Int32) : Option SF :=
  zl ((σ (3 + 4) 6) - 1) fun v1 =>
  zb2 (L_X4_putWithin_10 rec x1 x2 100 v1 σ) fun v12 σ13 =>
  zb (F_X4_put σ13 x1) fun σ16 =>
  zg (zin x1 8) <|
  zb (F_X6_endsOf (σ16 (3 + 1) (x1 : Int32).toNatClampNeg)) fun r18 =>
  if r18 < 1 then (
  if r18 = 2 then (
  zb (F_X4_put σ16 400) fun σ35 =>
  zb (F_X4_putBranch rec σ35 x1 1 x2) fun σ37 =>
  zb (F_X4_put σ37 401) fun σ39 =>
  zb2 (L_X4_putWithin_111 rec x1 x2 100 1 σ39) fun v40 σ41 =>
  some σ41
  ) else (
  zb2 (L_X4_putWithin_111 rec x1 x2 100 1 σ16) fun v31 σ32 =>
  some σ32
  )
  ) else (
  zb (F_X4_putBranch rec σ16 x1 0 x2) fun σ44 =>
  if r18 = 2 then (
  zb (F_X4_put σ44 400) fun σ49 =>
  zb (F_X4_putBranch rec σ49 x1 1 x2) fun σ51 =>
  zb (F_X4_put σ51 401) fun σ53 =>
  zb2 (L_X4_putWithin_111 rec x1 x2 100 1 σ53) fun v54 σ55 =>
  some σ55
  ) else (
  zb2 (L_X4_putWithin_111 rec x1 x2 100 1 σ44) fun v45 σ46 =>
  some σ46
  )
  )
def B_X4_putTree (rec : SF → Int32 → Int32 → Option SF) (σ : SF)  (x1 : Int32) (x2 : Int32) : Option SF :=
  zb (F_X1_has σ 3 x1) fun r2 =>
  if r2 = 0 then (
  some σ
  ) else (
  if x2 < 8 then (
  zb (F_X0_isHead σ 3 x1) fun r4 =>
  if r4 = 0 then (
  zb (F_X4_putWithin rec σ x1 x2) fun σ6 =>
  if r4 = 0 then (
  some σ6
  ) else (
  zb (F_X4_putClosing σ6 300) fun σ8 =>
  some σ8
  )
  ) else (
  zb (F_X4_putOpening σ ((100 : Int32) + x1)) fun σ10 =>
  zb (F_X4_putWithin rec σ10 x1 x2) fun σ12 =>
  if r4 = 0 then (
  some σ12
  ) else (
  zb (F_X4_putClosing σ12 300) fun σ14 =>
  some σ14
  )
  )
  ) else (
  some σ
  )
  )
def F_X4_putTree : Nat → SF → Int32 → Int32 → Option SF
  | 0, _, _, _ => none
  | n + 1, σ, x1, x2 => B_X4_putTree (fun σ x1 x2 => F_X4_putTree n σ x1 x2) σ x1 x2
def F_X4_write (σ : SF)  : Option SF :=
  zl (zst σ 13 3 0) fun σ1 =>
  zl (zst σ1 13 4 0) fun σ2 =>
  zl (zst σ2 13 5 0) fun σ3 =>
  zl (zst σ3 13 6 0) fun σ4 =>
  zl (zst σ4 13 8 0) fun σ5 =>
  zb (F_X0_folds σ5 3) fun r7 =>
  if r7 = 0 then (
  some σ5
  ) else (
  zb (F_X4_putTree 9 σ5 0 0) fun σ9 =>
  some σ9
  )
def L_X5_go_18 : Nat → Int32 → Int32 → SF → Option (Int32 × Int32 × SF)
  | 0, _, _, _ => none
  | n + 1, y3, y4, σ =>
    if 30 ≤ (σ 16 1) then (
    some (y3, y4, σ)
    ) else (
    zb (F_X1_has σ 3 y4) fun r5 =>
    if r5 = 0 then (
    some (y3, y4, σ)
    ) else (
    zg (zin (σ 16 1) 30) <|
    zl (zst σ 17 (σ 16 1 : Int32).toNatClampNeg y4) fun σ6 =>
    zl (zst σ6 16 1 ((σ6 16 1) + 1)) fun σ7 =>
    zg (zin y4 8) <|
    zg (zin y4 8) <|
    zl (zst σ7 18 (y4 : Int32).toNatClampNeg ((σ7 18 (y4 : Int32).toNatClampNeg) + 1)) fun σ8 =>
    zg (zin y4 8) <|
    zg (zin y4 8) <|
    zb (F_X6_doesAt (σ8 (3 + 1) (y4 : Int32).toNatClampNeg) (σ8 18 (y4 : Int32).toNatClampNeg) (y3 &&& 1)) fun r10 =>
    zg (zin y4 8) <|
    if (σ8 (3 + 1) (y4 : Int32).toNatClampNeg) = 1 then (
    zl (y3 >>> (1 &&& 31)) fun v13 =>
    if r10 = 2 then (
    L_X5_go_18 n v13 (-1) σ8
    ) else (
    zb (F_X1_target σ8 3 y4 r10) fun r15 =>
    L_X5_go_18 n v13 r15 σ8
    )
    ) else (
    if r10 = 2 then (
    L_X5_go_18 n y3 (-1) σ8
    ) else (
    zb (F_X1_target σ8 3 y4 r10) fun r12 =>
    L_X5_go_18 n y3 r12 σ8
    )
    )
    )
    )
def F_X5_go (σ : SF)  (x2 : Int32) : Option SF :=
  zb (F_J7_fill_53178 σ 18 8 0) fun σ2 =>
  zl (zst σ2 16 1 0) fun σ3 =>
  zb3 (L_X5_go_18 100 x2 0 σ3) fun v16 v17 σ18 =>
  some σ18
def F_X6_letter (σ : SF)  (x1 : Int32) : Option (Int32 × SF) :=
  if x1 < 32 then (
  some ((-102), σ)
  ) else (
  if x1 ≤ 126 then (
  zb2 (F_X2_add σ x1) fun r3 σ2 =>
  if r3 = 0 then (
  some ((-104), σ2)
  ) else (
  some (σ2 1 1, σ2)
  )
  ) else (
  some ((-102), σ)
  )
  )
def F_X6_blank (σ : SF)  : Option (Int32 × SF) :=
  zl (σ 1 1) fun v1 =>
  zl (zst σ 1 1 0) fun σ2 =>
  some (v1, σ2)
def F_X6_fault (σ : SF)  : Option (Int32 × SF) :=
  zb2 (F_X2_readInto σ) fun r3 σ2 =>
  some (r3, σ2)
def F_X6_lookAnew (σ : SF)  : Option SF :=
  zb (F_X0_look σ 3 0) fun σ2 =>
  zb (F_X4_write σ2) fun σ4 =>
  some σ4
def F_X6_graph (σ : SF)  : Option (Int32 × SF) :=
  zb2 (F_X2_readInto σ) fun r3 σ2 =>
  if r3 < (σ2 1 1) then (
  some ((-103), σ2)
  ) else (
  if (σ2 1 2) = 0 then (
  some ((-103), σ2)
  ) else (
  if (σ2 1 3) < (σ2 31 0) then (
  zl (zst σ2 1 1 0) fun σ4 =>
  zl (zst σ4 0 11 ((σ4 0 11) + 1)) fun σ5 =>
  zl (zst σ5 0 10 0) fun σ6 =>
  zl (zst σ6 16 1 0) fun σ7 =>
  zl (zst σ7 19 0 0) fun σ8 =>
  zb (F_X1_copyFrom σ8 3 31) fun σ10 =>
  zb (F_X6_lookAnew σ10) fun σ12 =>
  some (σ12 3 0, σ12)
  ) else (
  some ((-103), σ2)
  )
  )
  )
def F_X6_node (σ : SF)  (x1 : Int32) (x2 : Int32) : Option Int32 :=
  zb (F_X1_has σ 3 x1) fun r2 =>
  if r2 = 0 then (
  some (-101)
  ) else (
  if x2 = 0 then (
  zg (zin x1 8) <|
  some (σ (3 + 1) (x1 : Int32).toNatClampNeg)
  ) else (
  if x2 = 1 then (
  zg (zin x1 8) <|
  some (σ (3 + 2) (x1 : Int32).toNatClampNeg)
  ) else (
  if x2 = 2 then (
  zg (zin x1 8) <|
  some (σ (3 + 3) (x1 : Int32).toNatClampNeg)
  ) else (
  if x2 = 3 then (
  zb (F_X0_placeOf σ 3 x1) fun r4 =>
  some r4
  ) else (
  if x2 = 4 then (
  zb (F_X0_lordOf σ 3 x1) fun r6 =>
  some r6
  ) else (
  if x2 = 5 then (
  zb (F_X0_isHead σ 3 x1) fun r8 =>
  if r8 = 0 then (
  some 0
  ) else (
  some 1
  )
  ) else (
  if x2 = 6 then (
  zb (F_X0_isMerge σ 3 x1) fun r10 =>
  if r10 = 0 then (
  some 0
  ) else (
  some 1
  )
  ) else (
  if x2 = 7 then (
  zb (F_X0_ruledBy σ 3 x1) fun r12 =>
  some r12
  ) else (
  if x2 = 8 then (
  zb (F_X3_sortsOf σ 19 x1) fun r14 =>
  some r14
  ) else (
  if x2 = 9 then (
  zb (F_X3_askFor σ 19 x1) fun r16 =>
  some r16
  ) else (
  some (-102)
  )
  )
  )
  )
  )
  )
  )
  )
  )
  )
  )
def F_X6_as (σ : SF)  (x1 : Int32) (x2 : Int32) : Option Int32 :=
  zb (F_X1_has σ 3 x1) fun r2 =>
  if r2 = 0 then (
  some (-101)
  ) else (
  zb (F_X6_isKind x2) fun r4 =>
  if r4 = 0 then (
  some (-102)
  ) else (
  zg (zin x1 8) <|
  zl (σ (3 + 1) (x1 : Int32).toNatClampNeg) fun v5 =>
  if x2 = v5 then (
  some x1
  ) else (
  if x2 = 0 then (
  some x1
  ) else (
  if x2 = 3 then (
  if v5 = 4 then (
  some x1
  ) else (
  some (-1)
  )
  ) else (
  some (-1)
  )
  )
  )
  )
  )
def F_X6_dominates (σ : SF)  (x1 : Int32) (x2 : Int32) : Option Int32 :=
  zb (F_X1_has σ 3 x1) fun r2 =>
  if r2 = 0 then (
  some (-101)
  ) else (
  zb (F_X1_has σ 3 x2) fun r4 =>
  if r4 = 0 then (
  some (-101)
  ) else (
  zb (F_X0_rules σ 3 x1 x2) fun r6 =>
  if r6 = 0 then (
  some 0
  ) else (
  some 1
  )
  )
  )
def F_X6_edge (σ : SF)  (x1 : Int32) (x2 : Int32) : Option Int32 :=
  zb (F_X1_has σ 3 x1) fun r2 =>
  if r2 = 0 then (
  some (-101)
  ) else (
  zb (F_X6_isEnd x2) fun r4 =>
  if r4 = 0 then (
  some (-102)
  ) else (
  zb (F_X0_stateOf σ 3 x1 x2) fun r6 =>
  some r6
  )
  )
def F_X6_aim (σ : SF)  (x1 : Int32) (x2 : Int32) (x3 : Int32) : Option (Int32 × SF) :=
  zb (F_X1_has σ 3 x1) fun r2 =>
  if r2 = 0 then (
  some ((-101), σ)
  ) else (
  zb (F_X1_has σ 3 x3) fun r4 =>
  if r4 = 0 then (
  some ((-101), σ)
  ) else (
  zb (F_X6_isEnd x2) fun r6 =>
  if r6 = 0 then (
  some ((-102), σ)
  ) else (
  zb (F_X1_target σ 3 x1 x2) fun r8 =>
  zb (F_X1_put σ 3 x1 x2 x3) fun σ10 =>
  zb (F_X6_lookAnew σ10) fun σ12 =>
  some (r8, σ12)
  )
  )
  )
def F_X6_be (σ : SF)  (x1 : Int32) (x2 : Int32) : Option (Int32 × SF) :=
  zb (F_X1_has σ 3 x1) fun r2 =>
  if r2 = 0 then (
  some ((-101), σ)
  ) else (
  zb (F_X6_isKind x2) fun r4 =>
  if r4 = 0 then (
  some ((-102), σ)
  ) else (
  zg (zin x1 8) <|
  zl (σ (3 + 1) (x1 : Int32).toNatClampNeg) fun v5 =>
  zg (zin x1 8) <|
  zl (zst σ (3 + 1) (x1 : Int32).toNatClampNeg x2) fun σ6 =>
  zb (F_X6_lookAnew σ6) fun σ8 =>
  some (v5, σ8)
  )
  )
def F_X6_walk (σ : SF)  (x1 : Int32) : Option (Int32 × SF) :=
  if 0 ≤ x1 then (
  if (σ 3 0) = 0 then (
  some ((-103), σ)
  ) else (
  zb (F_X5_go σ x1) fun σ2 =>
  some (σ2 16 1, σ2)
  )
  ) else (
  some ((-102), σ)
  )
def F_X6_visit (σ : SF)  (x1 : Int32) : Option Int32 :=
  if x1 < 0 then (
  some (-101)
  ) else (
  if (σ 16 1) ≤ x1 then (
  some (-101)
  ) else (
  zg (zin x1 30) <|
  some (σ 17 (x1 : Int32).toNatClampNeg)
  )
  )
def F_X6_sign (σ : SF)  (x1 : Int32) : Option Int32 :=
  if x1 < 0 then (
  some (-101)
  ) else (
  if (σ 13 3) ≤ x1 then (
  some (-101)
  ) else (
  zg (zin x1 72) <|
  some (σ 14 (x1 : Int32).toNatClampNeg)
  )
  )
def F_X6_fold (σ : SF)  (x1 : Int32) : Option Int32 :=
  if x1 < 0 then (
  some (-102)
  ) else (
  if x1 < 4 then (
  if (σ 3 0) = 0 then (
  some (-103)
  ) else (
  zb (F_X0_folds σ 3) fun r2 =>
  if r2 = 0 then (
  some (-1)
  ) else (
  if x1 = 0 then (
  some (σ 13 3)
  ) else (
  if x1 = 1 then (
  some (σ 13 4)
  ) else (
  if x1 = 2 then (
  some (σ 13 5)
  ) else (
  some (σ 13 6)
  )
  )
  )
  )
  )
  ) else (
  some (-102)
  )
  )
def L_X6_leastLeftOut_33 (rec : SF → Int32 → Int32 → Int32 → Option (Int32 × SF)) (y1 : Int32) (y2 : Int32) (y3 : Int32) : Nat → Int32 → SF → Option ((Int32 × SF) ⊕ (Int32 × SF))
  | 0, _, _ => none
  | n + 1, y4, σ =>
    if y2 ≤ y4 then (
    some (.inr (y4, σ))
    ) else (
    zb (F_X0_stateOf σ 3 (y4 / 2) (y4 - y4 / 2 * 2)) fun r3 =>
    if r3 = (-1) then (
    zl (y4 + 1) fun v4 =>
    L_X6_leastLeftOut_33 rec y1 y2 y3 n v4 σ
    ) else (
    zb2 (rec σ (y1 - 1) y4 (y3 ||| ((1 : Int32) <<< (y4 &&& 31)))) fun r7 σ6 =>
    if r7 = (-1) then (
    zl (y4 + 1) fun v8 =>
    L_X6_leastLeftOut_33 rec y1 y2 y3 n v8 σ6
    ) else (
    some (.inl (r7, σ6))
    )
    )
    )
def B_X6_leastLeftOut (rec : SF → Int32 → Int32 → Int32 → Option (Int32 × SF)) (σ : SF)  (x1 : Int32) (x2 : Int32) (x3 : Int32) : Option (Int32 × SF) :=
  if 0 < x1 then (
  zl (x1 - 1) fun v1 =>
  zs (L_X6_leastLeftOut_33 rec x1 x2 x3 100 v1 σ) (fun ρ13 => some ρ13) (fun u12 =>
  zb2 (some u12) fun v9 σ10 =>
  some ((-1), σ10)
  )
  ) else (
  zb (F_X0_look σ 31 x3) fun σ15 =>
  zb (F_X0_folds σ15 31) fun r17 =>
  if r17 = 0 then (
  some ((-1), σ15)
  ) else (
  some (x3, σ15)
  )
  )
def F_X6_leastLeftOut : Nat → SF → Int32 → Int32 → Int32 → Option (Int32 × SF)
  | 0, _, _, _, _ => none
  | n + 1, σ, x1, x2, x3 => B_X6_leastLeftOut (fun σ x1 x2 x3 => F_X6_leastLeftOut n σ x1 x2 x3) σ x1 x2 x3
def L_X6_fewestLeftOut_15 : Nat → Int32 → Int32 → SF → Option (Int32 × Int32 × SF)
  | 0, _, _, _ => none
  | n + 1, y1, y2, σ =>
    if 3 < y2 then (
    some (y1, y2, σ)
    ) else (
    if y1 = (-1) then (
    zb2 (F_X6_leastLeftOut 5 σ y2 16 0) fun r5 σ4 =>
    zl (y2 + 1) fun v6 =>
    L_X6_fewestLeftOut_15 n r5 v6 σ4
    ) else (
    some (y1, y2, σ)
    )
    )
def F_X6_fewestLeftOut (σ : SF)  : Option (Int32 × SF) :=
  zb (F_X1_copyFrom σ 31 3) fun σ2 =>
  zb3 (L_X6_fewestLeftOut_15 100 (-1) 0 σ2) fun v7 v8 σ9 =>
  some (v7, σ9)
def F_X6_mend (σ : SF)  (x1 : Int32) : Option (Int32 × SF) :=
  if x1 < 0 then (
  some ((-102), σ)
  ) else (
  if x1 ≤ 1 then (
  if (σ 3 0) = 0 then (
  some ((-103), σ)
  ) else (
  if (σ 0 12) < 5 then (
  zl (zst σ 0 12 ((σ 0 12) + 1)) fun σ1 =>
  zb2 (F_X6_fewestLeftOut σ1) fun r4 σ3 =>
  if x1 = 1 then (
  some (r4, σ3)
  ) else (
  if r4 = (-1) then (
  some (r4, σ3)
  ) else (
  zb (F_J6_bitCount_0f7a4 r4) fun r6 =>
  some (r6, σ3)
  )
  )
  ) else (
  some ((-103), σ)
  )
  )
  ) else (
  some ((-102), σ)
  )
  )
def F_X6_see (σ : SF)  (x1 : Int32) (x2 : Int32) (x3 : Int32) : Option (Int32 × SF) :=
  zb (F_X1_has σ 3 x1) fun r2 =>
  if r2 = 0 then (
  some ((-101), σ)
  ) else (
  if x2 < 1 then (
  some ((-102), σ)
  ) else (
  if 3 < x2 then (
  some ((-102), σ)
  ) else (
  if x3 < 0 then (
  some ((-102), σ)
  ) else (
  if x3 ≤ 2 then (
  zb2 (F_X3_add σ 19 x1 x2 x3) fun r5 σ4 =>
  if r5 = 0 then (
  some ((-104), σ4)
  ) else (
  some (σ4 19 0, σ4)
  )
  ) else (
  some ((-102), σ)
  )
  )
  )
  )
  )
def F_X6_forget (σ : SF)  : Option (Int32 × SF) :=
  zl (σ 19 0) fun v1 =>
  zl (zst σ 19 0 0) fun σ2 =>
  some (v1, σ2)
def F_X6_nextSeed  (x0 : Int32) : Option Int32 :=
  some (((((1103515245 : Int64) * ((x0 : Int32).toInt64)) + 12345) &&& 2147483647 : Int64).toInt32)
def F_X6_drawBy  (x0 : Int32) (x1 : Int32) : Option Int32 :=
  if x1 ≤ 0 then (
  some 0
  ) else (
  zg (znz x1) <|
  some ((((x0).toUInt32 >>> ((16 : Int32).toUInt32 &&& Int32.toUInt32 31)).toInt32) - (((x0).toUInt32 >>> ((16 : Int32).toUInt32 &&& Int32.toUInt32 31)).toInt32) / x1 * x1)
  )
def L_X6_drawDraft_12 : Nat → Int32 → Int32 → SF → Option (Int32 × Int32 × SF)
  | 0, _, _, _ => none
  | n + 1, y2, y3, σ =>
    if 5 ≤ y3 then (
    some (y2, y3, σ)
    ) else (
    zb (F_X6_nextSeed y2) fun r3 =>
    zb (F_X6_drawBy r3 5) fun r5 =>
    zg (zin y3 8) <|
    zl (zst σ (31 + 1) (y3 : Int32).toNatClampNeg r5) fun σ6 =>
    zb (F_X6_nextSeed r3) fun r8 =>
    zb (F_X6_drawBy r8 5) fun r10 =>
    zg (zin y3 8) <|
    zl (zst σ6 (31 + 2) (y3 : Int32).toNatClampNeg r10) fun σ11 =>
    zb (F_X6_nextSeed r8) fun r13 =>
    zb (F_X6_drawBy r13 5) fun r15 =>
    zg (zin y3 8) <|
    zl (zst σ11 (31 + 3) (y3 : Int32).toNatClampNeg r15) fun σ16 =>
    zl (y3 + 1) fun v17 =>
    L_X6_drawDraft_12 n r13 v17 σ16
    )
def F_X6_drawDraft (σ : SF)  (x1 : Int32) : Option (Int32 × SF) :=
  zl (zst σ 31 0 5) fun σ1 =>
  zb3 (L_X6_drawDraft_12 100 x1 0 σ1) fun v18 v19 σ20 =>
  some (v18, σ20)
def L_X6_drawn_39 (y1 : Int32) (y3 : Int32) : Nat → Int32 → Int32 → Int32 → Int32 → SF → Option (Int32 × Int32 × Int32 × Int32 × SF)
  | 0, _, _, _, _, _ => none
  | n + 1, y4, y5, y6, y7, σ =>
    if y1 ≤ y7 then (
    some (y4, y5, y6, y7, σ)
    ) else (
    zb2 (F_X6_drawDraft σ y6) fun r3 σ2 =>
    zb (F_X0_look σ2 31 0) fun σ5 =>
    zb (F_X0_folds σ5 31) fun r7 =>
    if r7 = 0 then (
    zl (y4 + 0) fun v8 =>
    zb (F_J6_bitCount_0f7a4 (σ5 (31 + 4) 11)) fun r10 =>
    zl (y5 + r10) fun v11 =>
    zl (y7 + 1) fun v12 =>
    L_X6_drawn_39 y1 y3 n v8 v11 r3 v12 σ5
    ) else (
    zl (y4 + 1) fun v13 =>
    zb (F_J6_bitCount_0f7a4 (σ5 (31 + 4) 11)) fun r15 =>
    zl (y5 + r15) fun v16 =>
    zl (y7 + 1) fun v17 =>
    L_X6_drawn_39 y1 y3 n v13 v16 r3 v17 σ5
    )
    )
def F_X6_drawn (σ : SF)  (x1 : Int32) (x2 : Int32) (x3 : Int32) : Option (Int32 × SF) :=
  if x1 < 1 then (
  some ((-102), σ)
  ) else (
  if 8 < x1 then (
  some ((-102), σ)
  ) else (
  if x2 < 0 then (
  some ((-102), σ)
  ) else (
  if x3 < 0 then (
  some ((-102), σ)
  ) else (
  if x3 ≤ 2 then (
  zb5 (L_X6_drawn_39 x1 x3 100 0 0 x2 0 σ) fun v18 v19 v20 v21 σ22 =>
  if x3 = 0 then (
  some (v18, σ22)
  ) else (
  if x3 = 1 then (
  some (v19, σ22)
  ) else (
  some (v20, σ22)
  )
  )
  ) else (
  some ((-102), σ)
  )
  )
  )
  )
  )
def F_X6_image (σ : SF)  : Option (Int32 × SF) :=
  if (σ 3 0) = 0 then (
  some ((-103), σ)
  ) else (
  zl (zst σ 0 10 1) fun σ1 =>
  zb (F_X1_copyFrom σ1 23 3) fun σ3 =>
  zb (F_X3_copyFrom σ3 27 19) fun σ5 =>
  some (σ5 3 0, σ5)
  )
def F_X6_restore (σ : SF)  : Option (Int32 × SF) :=
  if (σ 0 10) = 0 then (
  some ((-103), σ)
  ) else (
  zb (F_X1_copyFrom σ 3 23) fun σ2 =>
  zb (F_X3_copyFrom σ2 19 27) fun σ4 =>
  zb (F_X6_lookAnew σ4) fun σ6 =>
  some (σ6 3 0, σ6)
  )
def F_X6_count (σ : SF)  (x1 : Int32) : Option Int32 :=
  if x1 = 0 then (
  some (σ 3 0)
  ) else (
  if x1 = 1 then (
  some (σ (3 + 4) 6)
  ) else (
  if x1 = 2 then (
  some (σ (3 + 4) 8)
  ) else (
  if x1 = 3 then (
  some (σ (3 + 4) 9)
  ) else (
  if x1 = 4 then (
  some (σ (3 + 4) 10)
  ) else (
  if x1 = 5 then (
  zb (F_J6_bitCount_0f7a4 (σ (3 + 4) 11)) fun r2 =>
  some r2
  ) else (
  if x1 = 6 then (
  zb (F_J6_bitCount_0f7a4 (σ (3 + 4) 12)) fun r4 =>
  some r4
  ) else (
  if x1 = 7 then (
  some (σ 16 1)
  ) else (
  if x1 = 8 then (
  some (σ 19 0)
  ) else (
  if x1 = 9 then (
  some (σ 1 1)
  ) else (
  if x1 = 10 then (
  some (σ 0 11)
  ) else (
  if x1 = 11 then (
  some (σ 0 12)
  ) else (
  some (-102)
  )
  )
  )
  )
  )
  )
  )
  )
  )
  )
  )
  )
def L_X6_joined_6 (σ : SF) (q : Nat) (nn : Nat) (y3 : Int32) : Nat → Int64 → Int32 → Option (Int64 × Int32)
  | 0, _, _ => none
  | n + 1, y4, y6 =>
    if y3 ≤ y6 then (
    some (y4, y6)
    ) else (
    if (nI nn) ≤ y6 then (
    some (y4, y6)
    ) else (
    zg (zin y6 nn) <|
    zl (((31 : Int64) * y4) + ((σ q (y6 : Int32).toNatClampNeg : Int32).toInt64)) fun w1 =>
    zl (y6 + 1) fun v2 =>
    L_X6_joined_6 σ q nn y3 n w1 v2
    )
    )
def F_X6_joined (σ : SF) (q : Nat) (nn : Nat) (x0 : Int64) (x3 : Int32) : Option Int64 :=
  zb2 (L_X6_joined_6 σ q nn x3 100 x0 0) fun w3 v4 =>
  some w3
def L_X6_digest_20 (σ : SF) (y3 : Int32) : Nat → Int64 → Int32 → Option (Int64 × Int32)
  | 0, _, _ => none
  | n + 1, y1, y4 =>
    if 10 ≤ y4 then (
    some (y1, y4)
    ) else (
    zb (F_X6_node σ y3 y4) fun r2 =>
    zl (((31 : Int64) * y1) + ((r2 : Int32).toInt64)) fun w3 =>
    zl (y4 + 1) fun v4 =>
    L_X6_digest_20 σ y3 n w3 v4
    )
def L_X6_digest_6 (σ : SF) : Nat → Int64 → Int32 → Option (Int64 × Int32)
  | 0, _, _ => none
  | n + 1, y1, y3 =>
    if (σ 3 0) ≤ y3 then (
    some (y1, y3)
    ) else (
    zb2 (L_X6_digest_20 σ y3 100 y1 0) fun w5 v6 =>
    zb (F_X6_edge σ y3 0) fun r9 =>
    zl (((31 : Int64) * w5) + ((r9 : Int32).toInt64)) fun w10 =>
    zb (F_X6_edge σ y3 1) fun r12 =>
    zl (((31 : Int64) * w10) + ((r12 : Int32).toInt64)) fun w13 =>
    zl (y3 + 1) fun v14 =>
    L_X6_digest_6 σ n w13 v14
    )
def L_X6_digest_177 (σ : SF) : Nat → Int64 → Int32 → Option (Int64 × Int32)
  | 0, _, _ => none
  | n + 1, y1, y3 =>
    if 12 ≤ y3 then (
    some (y1, y3)
    ) else (
    zb (F_X6_count σ y3) fun r25 =>
    zl (((31 : Int64) * y1) + ((r25 : Int32).toInt64)) fun w26 =>
    zl (y3 + 1) fun v27 =>
    L_X6_digest_177 σ n w26 v27
    )
def L_X6_digest_94 (σ : SF) : Nat → Int64 → Int32 → Option (Int64 × Int32)
  | 0, _, _ => none
  | n + 1, y1, y3 =>
    if 4 ≤ y3 then (
    some (y1, y3)
    ) else (
    zb (F_X6_fold σ y3) fun r32 =>
    zl (((31 : Int64) * y1) + ((r32 : Int32).toInt64)) fun w33 =>
    zl (y3 + 1) fun v34 =>
    L_X6_digest_94 σ n w33 v34
    )
def F_X6_digest (σ : SF)  : Option Int64 :=
  zb2 (L_X6_digest_6 σ 100 1381 0) fun w15 v16 =>
  if (σ 3 0) ≤ 0 then (
  zb (F_X6_joined σ 14 72 w15 (σ 13 3)) fun r19 =>
  zb (F_X6_joined σ 17 30 r19 (σ 16 1)) fun r21 =>
  zb (F_X6_joined σ 2 34 r21 (σ 1 1)) fun r23 =>
  zb2 (L_X6_digest_177 σ 100 r23 0) fun w28 v29 =>
  some w28
  ) else (
  zb2 (L_X6_digest_94 σ 100 w15 0) fun w35 v36 =>
  zb (F_X6_joined σ 14 72 w35 (σ 13 3)) fun r39 =>
  zb (F_X6_joined σ 17 30 r39 (σ 16 1)) fun r41 =>
  zb (F_X6_joined σ 2 34 r41 (σ 1 1)) fun r43 =>
  zb2 (L_X6_digest_177 σ 100 r43 0) fun w44 v45 =>
  some w44
  )
def F_X7_within  (x0 : Int32) (x1 : Int32) (x2 : Int32) : Option Int32 :=
  if x0 < x1 then (
  some 0
  ) else (
  if x2 < x0 then (
  some 0
  ) else (
  some 1
  )
  )
def F_X7_isIn  (x0 : Int32) (x1 : Int32) : Option Int32 :=
  if ((x0 >>> (x1 &&& 31)) &&& 1) = 1 then (
  some 1
  ) else (
  some 0
  )
def L_X7_size_4 (y0 : Int32) : Nat → Int32 → Int32 → Option (Int32 × Int32)
  | 0, _, _ => none
  | n + 1, y1, y2 =>
    if 16 ≤ y2 then (
    some (y1, y2)
    ) else (
    zl (y1 + ((y0 >>> (y2 &&& 31)) &&& 1)) fun v1 =>
    zl (y2 + 1) fun v2 =>
    L_X7_size_4 y0 n v1 v2
    )
def F_X7_size  (x0 : Int32) : Option Int32 :=
  zb2 (L_X7_size_4 x0 100 0 0) fun v3 v4 =>
  some v3
def F_X7_letter (σ : SF)  (x1 : Int32) : Option (Int32 × SF) :=
  zb (F_X7_within x1 32 126) fun r2 =>
  if r2 = 0 then (
  some ((-102), σ)
  ) else (
  if (σ 0 11) = 34 then (
  some ((-104), σ)
  ) else (
  zg (zin (σ 0 11) 34) <|
  zl (zst σ 7 (σ 0 11 : Int32).toNatClampNeg (vp_nar .byte ((x1 : Int32).toInt8.toInt32))) fun σ3 =>
  zl (zst σ3 0 11 ((σ3 0 11) + 1)) fun σ4 =>
  some (σ4 0 11, σ4)
  )
  )
def F_X7_blank (σ : SF)  : Option (Int32 × SF) :=
  zl (σ 0 11) fun v1 =>
  zl (zst σ 0 11 0) fun σ2 =>
  some (v1, σ2)
def F_X7_kindBy  (x0 : Int32) : Option Int32 :=
  if x0 = 101 then (
  some 2
  ) else (
  if x0 = 102 then (
  some 1
  ) else (
  if x0 = 110 then (
  some 0
  ) else (
  if x0 = 116 then (
  some 4
  ) else (
  if x0 = 120 then (
  some 3
  ) else (
  some (-1)
  )
  )
  )
  )
  )
def F_X7_ends  (x0 : Int32) : Option Int32 :=
  if x0 = 2 then (
  some 0
  ) else (
  if x0 = 0 then (
  some 1
  ) else (
  some 2
  )
  )
def F_X7_at (σ : SF)  (x1 : Int32) : Option Int32 :=
  if (σ 0 11) ≤ x1 then (
  some 0
  ) else (
  zg (zin x1 34) <|
  some (σ 7 (x1 : Int32).toNatClampNeg)
  )
def L_X7_read_74 (y2 : Int32) : Nat → Int32 → Int32 → SF → Option ((Int32 × SF) ⊕ (Int32 × Int32 × SF))
  | 0, _, _, _ => none
  | n + 1, y1, y3, σ =>
    zb (F_X7_ends y2) fun r13 =>
    if r13 ≤ y3 then (
    some (.inr (y1, y3, σ))
    ) else (
    zb (F_X7_at σ y1) fun r15 =>
    zl (r15 - 48) fun v16 =>
    zb (F_X7_within v16 0 7) fun r18 =>
    if r18 = 0 then (
    some (.inl (y1, σ))
    ) else (
    zg (zin (((2 : Int32) * (σ 0 14)) + y3) 16) <|
    zl (zst σ 9 (((2 : Int32) * (σ 0 14)) + y3 : Int32).toNatClampNeg v16) fun σ19 =>
    if v16 ≤ (σ19 0 15) then (
    zl (zst σ19 0 15 (σ19 0 15)) fun σ20 =>
    zl (y1 + 1) fun v21 =>
    zl (y3 + 1) fun v22 =>
    L_X7_read_74 y2 n v21 v22 σ20
    ) else (
    zl (zst σ19 0 15 v16) fun σ23 =>
    zl (y1 + 1) fun v24 =>
    zl (y3 + 1) fun v25 =>
    L_X7_read_74 y2 n v24 v25 σ23
    )
    )
    )
def L_X7_read_17 : Nat → Int32 → SF → Option ((Int32 × SF) ⊕ (Int32 × SF))
  | 0, _, _ => none
  | n + 1, y1, σ =>
    zb (F_X7_at σ y1) fun r5 =>
    zb (F_X7_kindBy r5) fun r7 =>
    if r7 = (-1) then (
    some (.inl (y1, σ))
    ) else (
    zl (y1 + 1) fun v8 =>
    zg (zin (σ 0 14) 8) <|
    zl (zst σ 8 (σ 0 14 : Int32).toNatClampNeg r7) fun σ9 =>
    zg (zin ((2 : Int32) * (σ9 0 14)) 16) <|
    zl (zst σ9 9 ((2 : Int32) * (σ9 0 14) : Int32).toNatClampNeg 0) fun σ10 =>
    zg (zin (((2 : Int32) * (σ10 0 14)) + 1) 16) <|
    zl (zst σ10 9 (((2 : Int32) * (σ10 0 14)) + 1 : Int32).toNatClampNeg 0) fun σ11 =>
    zs (L_X7_read_74 r7 100 v8 0 σ11) (fun ρ31 => some (.inl ρ31)) (fun u30 =>
    zb3 (some u30) fun v26 v27 σ28 =>
    zl (zst σ28 0 14 ((σ28 0 14) + 1)) fun σ32 =>
    if (σ32 0 14) = 8 then (
    some (.inr (v26, σ32))
    ) else (
    zb (F_X7_at σ32 v26) fun r34 =>
    if r34 = 44 then (
    zl (v26 + 1) fun v35 =>
    L_X7_read_17 n v35 σ32
    ) else (
    some (.inr (v26, σ32))
    )
    )
    )
    )
def F_X7_read (σ : SF)  : Option (Int32 × SF) :=
  zl (zst σ 0 13 0) fun σ1 =>
  zl (zst σ1 0 14 0) fun σ2 =>
  zl (zst σ2 0 15 (-1)) fun σ3 =>
  zs (L_X7_read_17 100 0 σ3) (fun ρ40 => some ρ40) (fun u39 =>
  zb2 (some u39) fun v36 σ37 =>
  if v36 = (σ37 0 11) then (
  zl (zst σ37 0 13 1) fun σ42 =>
  some (v36, σ42)
  ) else (
  zl (zst σ37 0 13 0) fun σ41 =>
  some (v36, σ41)
  )
  )
def F_X7_fault (σ : SF)  : Option (Int32 × SF) :=
  zb2 (F_X7_read σ) fun r3 σ2 =>
  some (r3, σ2)
def L_X7_graph_36 : Nat → Int32 → SF → Option (Int32 × SF)
  | 0, _, _ => none
  | n + 1, y1, σ =>
    if (σ 0 1) ≤ y1 then (
    some (y1, σ)
    ) else (
    zg (zin y1 8) <|
    zg (zin y1 8) <|
    zl (zst σ 1 (y1 : Int32).toNatClampNeg (σ 8 (y1 : Int32).toNatClampNeg)) fun σ5 =>
    zl ((2 : Int32) * y1) fun v6 =>
    zg (zin v6 16) <|
    zg (zin ((2 : Int32) * y1) 16) <|
    zl (zst σ5 2 ((2 : Int32) * y1 : Int32).toNatClampNeg (σ5 9 (v6 : Int32).toNatClampNeg)) fun σ7 =>
    zl (((2 : Int32) * y1) + 1) fun v8 =>
    zg (zin v8 16) <|
    zg (zin (((2 : Int32) * y1) + 1) 16) <|
    zl (zst σ7 2 (((2 : Int32) * y1) + 1 : Int32).toNatClampNeg (σ7 9 (v8 : Int32).toNatClampNeg)) fun σ9 =>
    zl (y1 + 1) fun v10 =>
    L_X7_graph_36 n v10 σ9
    )
def F_X7_graph (σ : SF)  : Option (Int32 × SF) :=
  zb2 (F_X7_read σ) fun r3 σ2 =>
  if (σ2 0 13) = 0 then (
  some ((-103), σ2)
  ) else (
  if (σ2 0 15) < (σ2 0 14) then (
  zl (zst σ2 0 1 (σ2 0 14)) fun σ4 =>
  zb2 (L_X7_graph_36 100 0 σ4) fun v11 σ12 =>
  zl (zst σ12 0 4 0) fun σ14 =>
  zl (zst σ14 0 0 ((σ14 0 0) + 1)) fun σ15 =>
  zl (zst σ15 0 7 0) fun σ16 =>
  zl (zst σ16 0 11 0) fun σ17 =>
  some (σ17 0 1, σ17)
  ) else (
  some ((-103), σ2)
  )
  )
def F_X7_isNode (σ : SF)  (x1 : Int32) : Option Int32 :=
  zb (F_X7_within x1 0 ((σ 0 1) - 1)) fun r2 =>
  zg (zbl r2) <|
  some r2
def L_X7_layGraph_15 : Nat → Int32 → SF → Option (Int32 × SF)
  | 0, _, _ => none
  | n + 1, y1, σ =>
    if (σ 0 1) ≤ y1 then (
    some (y1, σ)
    ) else (
    zg (zin y1 8) <|
    zg (zin y1 8) <|
    zl (zst σ 10 (y1 : Int32).toNatClampNeg (σ 1 (y1 : Int32).toNatClampNeg)) fun σ3 =>
    zl ((2 : Int32) * y1) fun v4 =>
    zg (zin v4 16) <|
    zg (zin ((2 : Int32) * y1) 16) <|
    zl (zst σ3 11 ((2 : Int32) * y1 : Int32).toNatClampNeg (σ3 2 (v4 : Int32).toNatClampNeg)) fun σ5 =>
    zl (((2 : Int32) * y1) + 1) fun v6 =>
    zg (zin v6 16) <|
    zg (zin (((2 : Int32) * y1) + 1) 16) <|
    zl (zst σ5 11 (((2 : Int32) * y1) + 1 : Int32).toNatClampNeg (σ5 2 (v6 : Int32).toNatClampNeg)) fun σ7 =>
    zl (y1 + 1) fun v8 =>
    L_X7_layGraph_15 n v8 σ7
    )
def F_X7_layGraph (σ : SF)  : Option SF :=
  zl (zst σ 0 18 (σ 0 1)) fun σ1 =>
  zl (zst σ1 0 19 0) fun σ2 =>
  zb2 (L_X7_layGraph_15 100 0 σ2) fun v9 σ10 =>
  some σ10
def F_X7_isEdge (σ : SF)  (x1 : Int32) : Option Int32 :=
  zl (x1 / 2) fun v1 =>
  zg (zin v1 8) <|
  zb (F_X7_ends (σ 10 (v1 : Int32).toNatClampNeg)) fun r3 =>
  if r3 ≤ (x1 - x1 / 2 * 2) then (
  some 0
  ) else (
  zb (F_X7_isIn (σ 0 19) x1) fun r5 =>
  if r5 = 0 then (
  some 1
  ) else (
  some 0
  )
  )
def L_X7_layOrder_23 : Nat → Int32 → Int32 → SF → Option (Int32 × Int32 × SF)
  | 0, _, _, _ => none
  | n + 1, y1, y2, σ =>
    if y1 ≤ 0 then (
    some (y1, y2, σ)
    ) else (
    zl (y1 - 1) fun v4 =>
    zg (zin v4 8) <|
    zl (σ 16 (v4 : Int32).toNatClampNeg) fun v5 =>
    zl (y1 - 1) fun v6 =>
    zg (zin v6 8) <|
    if (σ 17 (v6 : Int32).toNatClampNeg) = 2 then (
    zg (zin y2 8) <|
    zl (zst σ 12 (y2 : Int32).toNatClampNeg v5) fun σ19 =>
    zl (y2 + 1) fun v20 =>
    zl (y1 + (-1)) fun v21 =>
    L_X7_layOrder_23 n v21 v20 σ19
    ) else (
    zl (y1 - 1) fun v7 =>
    zg (zin v7 8) <|
    zl (((2 : Int32) * v5) + (σ 17 (v7 : Int32).toNatClampNeg)) fun v8 =>
    zl (y1 - 1) fun v9 =>
    zg (zin v9 8) <|
    zg (zin v9 8) <|
    zl (zst σ 17 (v9 : Int32).toNatClampNeg ((σ 17 (v9 : Int32).toNatClampNeg) + 1)) fun σ10 =>
    zb (F_X7_isEdge σ10 v8) fun r12 =>
    if r12 = 0 then (
    L_X7_layOrder_23 n y1 y2 σ10
    ) else (
    zg (zin v8 16) <|
    zb (F_X7_isIn (σ10 0 22) (σ10 11 (v8 : Int32).toNatClampNeg)) fun r14 =>
    if r14 = 0 then (
    zg (zin v8 16) <|
    zl (zst σ10 0 22 ((σ10 0 22) ||| ((1 : Int32) <<< ((σ10 11 (v8 : Int32).toNatClampNeg) &&& 31)))) fun σ15 =>
    zg (zin v8 16) <|
    zg (zin y1 8) <|
    zl (zst σ15 16 (y1 : Int32).toNatClampNeg (σ15 11 (v8 : Int32).toNatClampNeg)) fun σ16 =>
    zg (zin y1 8) <|
    zl (zst σ16 17 (y1 : Int32).toNatClampNeg 0) fun σ17 =>
    zl (y1 + 1) fun v18 =>
    L_X7_layOrder_23 n v18 y2 σ17
    ) else (
    L_X7_layOrder_23 n y1 y2 σ10
    )
    )
    )
    )
def L_X7_layOrder_167 (y2 : Int32) : Nat → Int32 → SF → Option (Int32 × SF)
  | 0, _, _ => none
  | n + 1, y3, σ =>
    if (y2 / 2) ≤ y3 then (
    some (y3, σ)
    ) else (
    zg (zin y3 8) <|
    zl (σ 12 (y3 : Int32).toNatClampNeg) fun v27 =>
    zl ((y2 - 1) - y3) fun v28 =>
    zg (zin v28 8) <|
    zg (zin y3 8) <|
    zl (zst σ 12 (y3 : Int32).toNatClampNeg (σ 12 (v28 : Int32).toNatClampNeg)) fun σ29 =>
    zg (zin ((y2 - 1) - y3) 8) <|
    zl (zst σ29 12 ((y2 - 1) - y3 : Int32).toNatClampNeg v27) fun σ30 =>
    zl (y3 + 1) fun v31 =>
    L_X7_layOrder_167 y2 n v31 σ30
    )
def L_X7_layOrder_218 (y2 : Int32) : Nat → Int32 → SF → Option (Int32 × SF)
  | 0, _, _ => none
  | n + 1, y3, σ =>
    if y2 ≤ y3 then (
    some (y3, σ)
    ) else (
    zg (zin y3 8) <|
    zg (zin (σ 12 (y3 : Int32).toNatClampNeg) 8) <|
    zl (zst σ 13 (σ 12 (y3 : Int32).toNatClampNeg : Int32).toNatClampNeg y3) fun σ35 =>
    zl (y3 + 1) fun v36 =>
    L_X7_layOrder_218 y2 n v36 σ35
    )
def F_X7_layOrder (σ : SF)  : Option SF :=
  zg (zin 0 8) <|
  zl (zst σ 16 (0 : Int32).toNatClampNeg 0) fun σ1 =>
  zg (zin 0 8) <|
  zl (zst σ1 17 (0 : Int32).toNatClampNeg 0) fun σ2 =>
  zl (zst σ2 0 22 1) fun σ3 =>
  zb3 (L_X7_layOrder_23 100 1 0 σ3) fun v22 v23 σ24 =>
  zl (zst σ24 0 23 v23) fun σ26 =>
  zb2 (L_X7_layOrder_167 v23 100 0 σ26) fun v32 σ33 =>
  zb2 (L_X7_layOrder_218 v23 100 0 σ33) fun v37 σ38 =>
  some σ38
def L_X7_without_21 (σ : SF) (y1 : Int32) (y3 : Int32) : Nat → Int32 → Int32 → Option (Int32 × Int32)
  | 0, _, _ => none
  | n + 1, y2, y4 =>
    if ((2 : Int32) * (σ 0 18)) ≤ y4 then (
    some (y2, y4)
    ) else (
    zb (F_X7_isIn y2 (y4 / 2)) fun r2 =>
    if r2 = 0 then (
    zl (y2 ||| 0) fun v3 =>
    zl (y4 + 1) fun v4 =>
    L_X7_without_21 σ y1 y3 n v3 v4
    ) else (
    zb (F_X7_isEdge σ y4) fun r6 =>
    if r6 = 0 then (
    zl (y2 ||| 0) fun v7 =>
    zl (y4 + 1) fun v8 =>
    L_X7_without_21 σ y1 y3 n v7 v8
    ) else (
    zg (zin y4 16) <|
    if (σ 11 (y4 : Int32).toNatClampNeg) = y1 then (
    zl (y2 ||| 0) fun v9 =>
    zl (y4 + 1) fun v10 =>
    L_X7_without_21 σ y1 y3 n v9 v10
    ) else (
    zg (zin y4 16) <|
    zl (y2 ||| ((1 : Int32) <<< ((σ 11 (y4 : Int32).toNatClampNeg) &&& 31))) fun v11 =>
    zl (y4 + 1) fun v12 =>
    L_X7_without_21 σ y1 y3 n v11 v12
    )
    )
    )
    )
def L_X7_without_12 (σ : SF) (y1 : Int32) : Nat → Int32 → Int32 → Option (Int32 × Int32)
  | 0, _, _ => none
  | n + 1, y2, y3 =>
    if 8 ≤ y3 then (
    some (y2, y3)
    ) else (
    zb2 (L_X7_without_21 σ y1 y3 100 y2 0) fun v13 v14 =>
    zl (y3 + 1) fun v16 =>
    L_X7_without_12 σ y1 n v13 v16
    )
def F_X7_without (σ : SF)  (x1 : Int32) : Option Int32 :=
  if x1 = 0 then (
  zb2 (L_X7_without_12 σ x1 100 0 0) fun v20 v21 =>
  some v20
  ) else (
  zb2 (L_X7_without_12 σ x1 100 1 0) fun v17 v18 =>
  some v17
  )
def L_X7_layLords_2 : Nat → Int32 → SF → Option (Int32 × SF)
  | 0, _, _ => none
  | n + 1, y1, σ =>
    if (σ 0 18) ≤ y1 then (
    some (y1, σ)
    ) else (
    zg (zin y1 8) <|
    zl (zst σ 14 (y1 : Int32).toNatClampNeg 0) fun σ1 =>
    zg (zin y1 8) <|
    zl (zst σ1 15 (y1 : Int32).toNatClampNeg (-1)) fun σ2 =>
    zl (y1 + 1) fun v3 =>
    L_X7_layLords_2 n v3 σ2
    )
def L_X7_layLords_70 (y1 : Int32) (y2 : Int32) : Nat → Int32 → SF → Option (Int32 × SF)
  | 0, _, _ => none
  | n + 1, y3, σ =>
    if (σ 0 18) ≤ y3 then (
    some (y3, σ)
    ) else (
    zg (zin y3 8) <|
    zb (F_X7_isIn y2 y3) fun r10 =>
    if r10 = 0 then (
    zg (zin y3 8) <|
    zl (zst σ 14 (y3 : Int32).toNatClampNeg ((σ 14 (y3 : Int32).toNatClampNeg) ||| 0)) fun σ11 =>
    zl (y3 + 1) fun v12 =>
    L_X7_layLords_70 y1 y2 n v12 σ11
    ) else (
    zg (zin y3 8) <|
    zl (zst σ 14 (y3 : Int32).toNatClampNeg ((σ 14 (y3 : Int32).toNatClampNeg) ||| ((1 : Int32) <<< (y1 &&& 31)))) fun σ13 =>
    zl (y3 + 1) fun v14 =>
    L_X7_layLords_70 y1 y2 n v14 σ13
    )
    )
def L_X7_layLords_32 : Nat → Int32 → SF → Option (Int32 × SF)
  | 0, _, _ => none
  | n + 1, y1, σ =>
    if (σ 0 18) ≤ y1 then (
    some (y1, σ)
    ) else (
    zb (F_X7_isIn (σ 0 22) y1) fun r8 =>
    if r8 = 0 then (
    zb2 (L_X7_layLords_70 y1 0 100 0 σ) fun v15 σ16 =>
    zl (y1 + 1) fun v18 =>
    L_X7_layLords_32 n v18 σ16
    ) else (
    zb (F_X7_without σ y1) fun r20 =>
    zl ((σ 0 22) &&& (r20 ^^^ (-1))) fun v21 =>
    zb2 (L_X7_layLords_70 y1 v21 100 0 σ) fun v22 σ23 =>
    zl (y1 + 1) fun v25 =>
    L_X7_layLords_32 n v25 σ23
    )
    )
def L_X7_layLords_126 (y1 : Int32) : Nat → Int32 → SF → Option (Int32 × SF)
  | 0, _, _ => none
  | n + 1, y2, σ =>
    if (σ 0 18) ≤ y2 then (
    some (y2, σ)
    ) else (
    if y2 = y1 then (
    zg (zin y1 8) <|
    zg (zin y1 8) <|
    zl (zst σ 15 (y1 : Int32).toNatClampNeg (σ 15 (y1 : Int32).toNatClampNeg)) fun σ29 =>
    zl (y2 + 1) fun v30 =>
    L_X7_layLords_126 y1 n v30 σ29
    ) else (
    zg (zin y1 8) <|
    zb (F_X7_isIn (σ 14 (y1 : Int32).toNatClampNeg) y2) fun r32 =>
    if r32 = 0 then (
    zg (zin y1 8) <|
    zg (zin y1 8) <|
    zl (zst σ 15 (y1 : Int32).toNatClampNeg (σ 15 (y1 : Int32).toNatClampNeg)) fun σ33 =>
    zl (y2 + 1) fun v34 =>
    L_X7_layLords_126 y1 n v34 σ33
    ) else (
    zg (zin y2 8) <|
    zb (F_X7_size (σ 14 (y2 : Int32).toNatClampNeg)) fun r36 =>
    zg (zin y1 8) <|
    zb (F_X7_size (σ 14 (y1 : Int32).toNatClampNeg)) fun r38 =>
    if r36 = (r38 - 1) then (
    zg (zin y1 8) <|
    zl (zst σ 15 (y1 : Int32).toNatClampNeg y2) fun σ41 =>
    zl (y2 + 1) fun v42 =>
    L_X7_layLords_126 y1 n v42 σ41
    ) else (
    zg (zin y1 8) <|
    zg (zin y1 8) <|
    zl (zst σ 15 (y1 : Int32).toNatClampNeg (σ 15 (y1 : Int32).toNatClampNeg)) fun σ39 =>
    zl (y2 + 1) fun v40 =>
    L_X7_layLords_126 y1 n v40 σ39
    )
    )
    )
    )
def L_X7_layLords_116 : Nat → Int32 → SF → Option (Int32 × SF)
  | 0, _, _ => none
  | n + 1, y1, σ =>
    if (σ 0 18) ≤ y1 then (
    some (y1, σ)
    ) else (
    zb2 (L_X7_layLords_126 y1 100 0 σ) fun v43 σ44 =>
    zl (y1 + 1) fun v46 =>
    L_X7_layLords_116 n v46 σ44
    )
def F_X7_layLords (σ : SF)  : Option SF :=
  zb2 (L_X7_layLords_2 100 0 σ) fun v4 σ5 =>
  zb2 (L_X7_layLords_32 100 0 σ5) fun v26 σ27 =>
  zb2 (L_X7_layLords_116 100 0 σ27) fun v47 σ48 =>
  some σ48
def F_X7_isLive (σ : SF)  (x1 : Int32) : Option Int32 :=
  zb (F_X7_isIn (σ 0 22) (x1 / 2)) fun r2 =>
  if r2 = 0 then (
  some 0
  ) else (
  zb (F_X7_isEdge σ x1) fun r4 =>
  if r4 = 0 then (
  some 0
  ) else (
  some 1
  )
  )
def F_X7_retreats (σ : SF)  (x1 : Int32) : Option Int32 :=
  zg (zin x1 16) <|
  zl (σ 11 (x1 : Int32).toNatClampNeg) fun v1 =>
  zg (zin v1 8) <|
  zl (x1 / 2) fun v2 =>
  zg (zin v2 8) <|
  if (σ 13 (v2 : Int32).toNatClampNeg) < (σ 13 (v1 : Int32).toNatClampNeg) then (
  some 0
  ) else (
  some 1
  )
def F_X7_isBack (σ : SF)  (x1 : Int32) : Option Int32 :=
  zl (x1 / 2) fun v1 =>
  zg (zin v1 8) <|
  zg (zin x1 16) <|
  zb (F_X7_isIn (σ 14 (v1 : Int32).toNatClampNeg) (σ 11 (x1 : Int32).toNatClampNeg)) fun r3 =>
  zg (zbl r3) <|
  some r3
def L_X7_layEdges_29 : Nat → Int32 → Int32 → SF → Option (Int32 × Int32 × SF)
  | 0, _, _, _ => none
  | n + 1, y1, y2, σ =>
    if ((2 : Int32) * (σ 0 18)) ≤ y2 then (
    some (y1, y2, σ)
    ) else (
    zb (F_X7_isLive σ y2) fun r7 =>
    if r7 = 0 then (
    zl (y2 + 1) fun v8 =>
    L_X7_layEdges_29 n y1 v8 σ
    ) else (
    zg (zin y2 16) <|
    zl (σ 11 (y2 : Int32).toNatClampNeg) fun v9 =>
    zl (zst σ 0 28 ((σ 0 28) + 1)) fun σ10 =>
    zb (F_X7_isBack σ10 y2) fun r12 =>
    if r12 = 0 then (
    zb (F_X7_retreats σ10 y2) fun r14 =>
    if r14 = 0 then (
    zb (F_X7_retreats σ10 y2) fun r16 =>
    if r16 = 0 then (
    zb (F_X7_isIn y1 v9) fun r19 =>
    if r19 = 0 then (
    zl (zst σ10 0 32 ((σ10 0 32) ||| 0)) fun σ20 =>
    zl (y1 ||| ((1 : Int32) <<< (v9 &&& 31))) fun v21 =>
    zl (y2 + 1) fun v22 =>
    L_X7_layEdges_29 n v21 v22 σ20
    ) else (
    zl (zst σ10 0 32 ((σ10 0 32) ||| ((1 : Int32) <<< (v9 &&& 31)))) fun σ23 =>
    zl (y1 ||| ((1 : Int32) <<< (v9 &&& 31))) fun v24 =>
    zl (y2 + 1) fun v25 =>
    L_X7_layEdges_29 n v24 v25 σ23
    )
    ) else (
    zl (y2 + 1) fun v17 =>
    L_X7_layEdges_29 n y1 v17 σ10
    )
    ) else (
    zl (zst σ10 0 30 ((σ10 0 30) + 1)) fun σ26 =>
    zb (F_X7_retreats σ26 y2) fun r28 =>
    if r28 = 0 then (
    zb (F_X7_isIn y1 v9) fun r31 =>
    if r31 = 0 then (
    zl (zst σ26 0 32 ((σ26 0 32) ||| 0)) fun σ32 =>
    zl (y1 ||| ((1 : Int32) <<< (v9 &&& 31))) fun v33 =>
    zl (y2 + 1) fun v34 =>
    L_X7_layEdges_29 n v33 v34 σ32
    ) else (
    zl (zst σ26 0 32 ((σ26 0 32) ||| ((1 : Int32) <<< (v9 &&& 31)))) fun σ35 =>
    zl (y1 ||| ((1 : Int32) <<< (v9 &&& 31))) fun v36 =>
    zl (y2 + 1) fun v37 =>
    L_X7_layEdges_29 n v36 v37 σ35
    )
    ) else (
    zl (y2 + 1) fun v29 =>
    L_X7_layEdges_29 n y1 v29 σ26
    )
    )
    ) else (
    zl (zst σ10 0 29 ((σ10 0 29) + 1)) fun σ38 =>
    zl (zst σ38 0 31 ((σ38 0 31) ||| ((1 : Int32) <<< (v9 &&& 31)))) fun σ39 =>
    zb (F_X7_retreats σ39 y2) fun r41 =>
    if r41 = 0 then (
    zb (F_X7_isIn y1 v9) fun r44 =>
    if r44 = 0 then (
    zl (zst σ39 0 32 ((σ39 0 32) ||| 0)) fun σ45 =>
    zl (y1 ||| ((1 : Int32) <<< (v9 &&& 31))) fun v46 =>
    zl (y2 + 1) fun v47 =>
    L_X7_layEdges_29 n v46 v47 σ45
    ) else (
    zl (zst σ39 0 32 ((σ39 0 32) ||| ((1 : Int32) <<< (v9 &&& 31)))) fun σ48 =>
    zl (y1 ||| ((1 : Int32) <<< (v9 &&& 31))) fun v49 =>
    zl (y2 + 1) fun v50 =>
    L_X7_layEdges_29 n v49 v50 σ48
    )
    ) else (
    zl (y2 + 1) fun v42 =>
    L_X7_layEdges_29 n y1 v42 σ39
    )
    )
    )
    )
def F_X7_layEdges (σ : SF)  : Option SF :=
  zl (zst σ 0 28 0) fun σ1 =>
  zl (zst σ1 0 29 0) fun σ2 =>
  zl (zst σ2 0 30 0) fun σ3 =>
  zl (zst σ3 0 31 0) fun σ4 =>
  zl (zst σ4 0 32 0) fun σ5 =>
  zb3 (L_X7_layEdges_29 100 0 0 σ5) fun v51 v52 σ53 =>
  some σ53
def F_X7_lay (σ : SF)  : Option SF :=
  zb (F_X7_layOrder σ) fun σ2 =>
  zb (F_X7_layLords σ2) fun σ4 =>
  zb (F_X7_layEdges σ4) fun σ6 =>
  some σ6
def F_X7_layNow (σ : SF)  : Option SF :=
  zb (F_X7_layGraph σ) fun σ2 =>
  zb (F_X7_lay σ2) fun σ4 =>
  some σ4
def L_X7_dominated_4 (σ : SF) (y1 : Int32) : Nat → Int32 → Int32 → Option (Int32 × Int32)
  | 0, _, _ => none
  | n + 1, y2, y3 =>
    if (σ 0 1) ≤ y3 then (
    some (y2, y3)
    ) else (
    zg (zin y3 8) <|
    zb (F_X7_isIn (σ 14 (y3 : Int32).toNatClampNeg) y1) fun r2 =>
    if r2 = 0 then (
    zl (y2 + 0) fun v3 =>
    zl (y3 + 1) fun v4 =>
    L_X7_dominated_4 σ y1 n v3 v4
    ) else (
    zl (y2 + 1) fun v5 =>
    zl (y3 + 1) fun v6 =>
    L_X7_dominated_4 σ y1 n v5 v6
    )
    )
def F_X7_dominated (σ : SF)  (x1 : Int32) : Option Int32 :=
  zb2 (L_X7_dominated_4 σ x1 100 0 0) fun v7 v8 =>
  some v7
def F_X7_endBy  (x0 : Int32) (x1 : Int32) (x2 : Int32) : Option Int32 :=
  if x0 = 1 then (
  some x2
  ) else (
  if x0 = 3 then (
  some ((x1 + 1) - (x1 + 1) / 2 * 2)
  ) else (
  if x0 = 4 then (
  if (x1 - x1 / 3 * 3) = 0 then (
  some 1
  ) else (
  some 0
  )
  ) else (
  some 0
  )
  )
  )
def F_X7_could  (x0 : Int32) (x1 : Int32) (x2 : Int32) : Option Int32 :=
  if x0 = 2 then (
  if x2 = 2 then (
  some 1
  ) else (
  some 0
  )
  ) else (
  if 2 ≤ x2 then (
  some 0
  ) else (
  if x0 = 1 then (
  some 1
  ) else (
  zb (F_X7_endBy x0 x1 0) fun r2 =>
  if r2 = x2 then (
  some 1
  ) else (
  some 0
  )
  )
  )
  )
def L_X7_sortsOf_15 (σ : SF) (y1 : Int32) (y2 : Int32) (y3 : Int32) : Nat → Int32 → Int32 → Option (Int32 × Int32)
  | 0, _, _ => none
  | n + 1, y4, y5 =>
    if (σ 0 7) ≤ y5 then (
    some (y4, y5)
    ) else (
    if y4 = 0 then (
    zl (y5 + 1) fun v1 =>
    L_X7_sortsOf_15 σ y1 y2 y3 n 0 v1
    ) else (
    zg (zin y5 6) <|
    if (σ 4 (y5 : Int32).toNatClampNeg) = y1 then (
    zg (zin y5 6) <|
    zg (zin y5 6) <|
    zb (F_X7_could y3 (σ 5 (y5 : Int32).toNatClampNeg) (σ 6 (y5 : Int32).toNatClampNeg)) fun r4 =>
    if r4 = 0 then (
    zl (y5 + 1) fun v5 =>
    L_X7_sortsOf_15 σ y1 y2 y3 n 0 v5
    ) else (
    zl (y5 + 1) fun v6 =>
    L_X7_sortsOf_15 σ y1 y2 y3 n 1 v6
    )
    ) else (
    zl (y5 + 1) fun v2 =>
    L_X7_sortsOf_15 σ y1 y2 y3 n 1 v2
    )
    )
    )
def L_X7_sortsOf_4 (σ : SF) (y1 : Int32) : Nat → Int32 → Int32 → Option (Int32 × Int32)
  | 0, _, _ => none
  | n + 1, y2, y3 =>
    if 4 < y3 then (
    some (y2, y3)
    ) else (
    zb2 (L_X7_sortsOf_15 σ y1 y2 y3 100 1 0) fun v7 v8 =>
    if v7 = 0 then (
    zl (y2 ||| 0) fun v10 =>
    zl (y3 + 1) fun v11 =>
    L_X7_sortsOf_4 σ y1 n v10 v11
    ) else (
    zl (y2 ||| ((1 : Int32) <<< (y3 &&& 31))) fun v12 =>
    zl (y3 + 1) fun v13 =>
    L_X7_sortsOf_4 σ y1 n v12 v13
    )
    )
def F_X7_sortsOf (σ : SF)  (x1 : Int32) : Option Int32 :=
  zb2 (L_X7_sortsOf_4 σ x1 100 0 0) fun v14 v15 =>
  some v14
def L_X7_askOf_44 (σ : SF) (y2 : Int32) (y3 : Int32) (y4 : Int32) (y5 : Int32) (y6 : Int32) (y7 : Int32) : Nat → Int32 → Int32 → Option (Int32 × Int32)
  | 0, _, _ => none
  | n + 1, y8, y9 =>
    if 4 < y9 then (
    some (y8, y9)
    ) else (
    zb (F_X7_isIn y2 y9) fun r4 =>
    if r4 = 0 then (
    zl (y8 + 0) fun v5 =>
    zl (y9 + 1) fun v6 =>
    L_X7_askOf_44 σ y2 y3 y4 y5 y6 y7 n v5 v6
    ) else (
    zb (F_X7_could y9 y5 y7) fun r8 =>
    if r8 = 0 then (
    zl (y8 + 0) fun v9 =>
    zl (y9 + 1) fun v10 =>
    L_X7_askOf_44 σ y2 y3 y4 y5 y6 y7 n v9 v10
    ) else (
    zl (y8 + 1) fun v11 =>
    zl (y9 + 1) fun v12 =>
    L_X7_askOf_44 σ y2 y3 y4 y5 y6 y7 n v11 v12
    )
    )
    )
def L_X7_askOf_32 (σ : SF) (y2 : Int32) (y3 : Int32) (y4 : Int32) (y5 : Int32) : Nat → Int32 → Int32 → Option (Int32 × Int32)
  | 0, _, _ => none
  | n + 1, y6, y7 =>
    if 3 ≤ y7 then (
    some (y6, y7)
    ) else (
    zb2 (L_X7_askOf_44 σ y2 y3 y4 y5 y6 y7 100 0 0) fun v13 v14 =>
    if v13 ≤ y6 then (
    zl (y7 + 1) fun v16 =>
    L_X7_askOf_32 σ y2 y3 y4 y5 n y6 v16
    ) else (
    zl (y7 + 1) fun v17 =>
    L_X7_askOf_32 σ y2 y3 y4 y5 n v13 v17
    )
    )
def L_X7_askOf_16 (σ : SF) (y2 : Int32) : Nat → Int32 → Int32 → Int32 → Option (Int32 × Int32 × Int32)
  | 0, _, _, _ => none
  | n + 1, y3, y4, y5 =>
    if 4 ≤ y5 then (
    some (y3, y4, y5)
    ) else (
    if y2 = 0 then (
    some (y3, y4, y5)
    ) else (
    zb2 (L_X7_askOf_32 σ y2 y3 y4 y5 100 0 0) fun v18 v19 =>
    if y4 ≤ v18 then (
    if y4 ≤ v18 then (
    zl (y5 + 1) fun v21 =>
    L_X7_askOf_16 σ y2 n y3 y4 v21
    ) else (
    zl (y5 + 1) fun v22 =>
    L_X7_askOf_16 σ y2 n y3 v18 v22
    )
    ) else (
    if y4 ≤ v18 then (
    zl (y5 + 1) fun v23 =>
    L_X7_askOf_16 σ y2 n y5 y4 v23
    ) else (
    zl (y5 + 1) fun v24 =>
    L_X7_askOf_16 σ y2 n y5 v18 v24
    )
    )
    )
    )
def F_X7_askOf (σ : SF)  (x1 : Int32) : Option Int32 :=
  zb (F_X7_sortsOf σ x1) fun r2 =>
  zb3 (L_X7_askOf_16 σ r2 100 (-1) 268435456 1) fun v25 v26 v27 =>
  some v25
def F_X7_nodeNow (σ : SF)  (x1 : Int32) (x2 : Int32) : Option Int32 :=
  if x2 = 0 then (
  zg (zin x1 8) <|
  some (σ 1 (x1 : Int32).toNatClampNeg)
  ) else (
  if x2 = 1 then (
  zl ((((2 : Int32) * x1) + x2) - 1) fun v1 =>
  zg (zin v1 16) <|
  some (σ 2 (v1 : Int32).toNatClampNeg)
  ) else (
  if x2 = 2 then (
  zl ((((2 : Int32) * x1) + x2) - 1) fun v2 =>
  zg (zin v2 16) <|
  some (σ 2 (v2 : Int32).toNatClampNeg)
  ) else (
  if x2 = 3 then (
  zb (F_X7_isIn (σ 0 22) x1) fun r4 =>
  if r4 = 0 then (
  some (-1)
  ) else (
  zg (zin x1 8) <|
  some (σ 13 (x1 : Int32).toNatClampNeg)
  )
  ) else (
  if x2 = 4 then (
  zg (zin x1 8) <|
  some (σ 15 (x1 : Int32).toNatClampNeg)
  ) else (
  if x2 = 5 then (
  zb (F_X7_isIn (σ 0 31) x1) fun r6 =>
  if r6 = 0 then (
  some 0
  ) else (
  some 1
  )
  ) else (
  if x2 = 6 then (
  zb (F_X7_isIn (σ 0 32) x1) fun r8 =>
  if r8 = 0 then (
  some 0
  ) else (
  some 1
  )
  ) else (
  if x2 = 7 then (
  zb (F_X7_dominated σ x1) fun r10 =>
  some r10
  ) else (
  if x2 = 8 then (
  zb (F_X7_sortsOf σ x1) fun r12 =>
  some r12
  ) else (
  zb (F_X7_askOf σ x1) fun r14 =>
  some r14
  )
  )
  )
  )
  )
  )
  )
  )
  )
def F_X7_node (σ : SF)  (x1 : Int32) (x2 : Int32) : Option (Int32 × SF) :=
  zb (F_X7_isNode σ x1) fun r2 =>
  if r2 = 0 then (
  some ((-101), σ)
  ) else (
  zb (F_X7_within x2 0 9) fun r4 =>
  if r4 = 0 then (
  some ((-102), σ)
  ) else (
  zb (F_X7_layNow σ) fun σ6 =>
  zb (F_X7_nodeNow σ6 x1 x2) fun r8 =>
  some (r8, σ6)
  )
  )
def F_X7_as (σ : SF)  (x1 : Int32) (x2 : Int32) : Option Int32 :=
  zb (F_X7_isNode σ x1) fun r2 =>
  if r2 = 0 then (
  some (-101)
  ) else (
  zb (F_X7_within x2 0 4) fun r4 =>
  if r4 = 0 then (
  some (-102)
  ) else (
  zg (zin x1 8) <|
  zl (σ 1 (x1 : Int32).toNatClampNeg) fun v5 =>
  if x2 = 0 then (
  some x1
  ) else (
  if v5 = x2 then (
  some x1
  ) else (
  if x2 = 3 then (
  if v5 = 4 then (
  some x1
  ) else (
  some (-1)
  )
  ) else (
  some (-1)
  )
  )
  )
  )
  )
def F_X7_dominates (σ : SF)  (x1 : Int32) (x2 : Int32) : Option (Int32 × SF) :=
  zb (F_X7_isNode σ x1) fun r2 =>
  if r2 = 0 then (
  some ((-101), σ)
  ) else (
  zb (F_X7_isNode σ x2) fun r4 =>
  if r4 = 0 then (
  some ((-101), σ)
  ) else (
  zb (F_X7_layNow σ) fun σ6 =>
  zg (zin x2 8) <|
  zb (F_X7_isIn (σ6 14 (x2 : Int32).toNatClampNeg) x1) fun r8 =>
  if r8 = 0 then (
  some (0, σ6)
  ) else (
  some (1, σ6)
  )
  )
  )
def F_X7_edgeNow (σ : SF)  (x1 : Int32) : Option Int32 :=
  zb (F_X7_isLive σ x1) fun r2 =>
  if r2 = 0 then (
  some (-1)
  ) else (
  zb (F_X7_isBack σ x1) fun r4 =>
  if r4 = 0 then (
  zb (F_X7_retreats σ x1) fun r6 =>
  if r6 = 0 then (
  some 0
  ) else (
  some 2
  )
  ) else (
  some 1
  )
  )
def F_X7_edge (σ : SF)  (x1 : Int32) (x2 : Int32) : Option (Int32 × SF) :=
  zb (F_X7_isNode σ x1) fun r2 =>
  if r2 = 0 then (
  some ((-101), σ)
  ) else (
  zb (F_X7_within x2 0 1) fun r4 =>
  if r4 = 0 then (
  some ((-102), σ)
  ) else (
  zb (F_X7_layNow σ) fun σ6 =>
  zb (F_X7_edgeNow σ6 (((2 : Int32) * x1) + x2)) fun r8 =>
  some (r8, σ6)
  )
  )
def F_X7_aim (σ : SF)  (x1 : Int32) (x2 : Int32) (x3 : Int32) : Option (Int32 × SF) :=
  zb (F_X7_isNode σ x1) fun r2 =>
  if r2 = 0 then (
  some ((-101), σ)
  ) else (
  zb (F_X7_isNode σ x3) fun r4 =>
  if r4 = 0 then (
  some ((-101), σ)
  ) else (
  zb (F_X7_within x2 0 1) fun r6 =>
  if r6 = 0 then (
  some ((-102), σ)
  ) else (
  zl (((2 : Int32) * x1) + x2) fun v7 =>
  zg (zin v7 16) <|
  zl (σ 2 (v7 : Int32).toNatClampNeg) fun v8 =>
  zg (zin (((2 : Int32) * x1) + x2) 16) <|
  zl (zst σ 2 (((2 : Int32) * x1) + x2 : Int32).toNatClampNeg x3) fun σ9 =>
  some (v8, σ9)
  )
  )
  )
def F_X7_be (σ : SF)  (x1 : Int32) (x2 : Int32) : Option (Int32 × SF) :=
  zb (F_X7_isNode σ x1) fun r2 =>
  if r2 = 0 then (
  some ((-101), σ)
  ) else (
  zb (F_X7_within x2 0 4) fun r4 =>
  if r4 = 0 then (
  some ((-102), σ)
  ) else (
  zg (zin x1 8) <|
  zl (σ 1 (x1 : Int32).toNatClampNeg) fun v5 =>
  zg (zin x1 8) <|
  zl (zst σ 1 (x1 : Int32).toNatClampNeg x2) fun σ6 =>
  some (v5, σ6)
  )
  )
def L_X7_walkNow_2 (y1 : Int32) : Nat → Int32 → SF → Option (Int32 × SF)
  | 0, _, _ => none
  | n + 1, y2, σ =>
    if 8 ≤ y2 then (
    some (y2, σ)
    ) else (
    zg (zin y2 8) <|
    zl (zst σ 18 (y2 : Int32).toNatClampNeg 0) fun σ1 =>
    zl (y2 + 1) fun v2 =>
    L_X7_walkNow_2 y1 n v2 σ1
    )
def L_X7_walkNow_33 : Nat → Int32 → Int32 → Int32 → SF → Option (Int32 × Int32 × Int32 × SF)
  | 0, _, _, _, _ => none
  | n + 1, y2, y3, y4, σ =>
    if y4 = 0 then (
    some (y2, y3, y4, σ)
    ) else (
    zg (zin (σ 0 4) 30) <|
    zl (zst σ 3 (σ 0 4 : Int32).toNatClampNeg y2) fun σ7 =>
    zl (zst σ7 0 4 ((σ7 0 4) + 1)) fun σ8 =>
    zg (zin y2 8) <|
    zg (zin y2 8) <|
    zl (zst σ8 18 (y2 : Int32).toNatClampNeg ((σ8 18 (y2 : Int32).toNatClampNeg) + 1)) fun σ9 =>
    zg (zin y2 8) <|
    if (σ9 1 (y2 : Int32).toNatClampNeg) = 2 then (
    zg (zin y2 8) <|
    zg (zin y2 8) <|
    zb (F_X7_endBy (σ9 1 (y2 : Int32).toNatClampNeg) (σ9 18 (y2 : Int32).toNatClampNeg) (y3 &&& 1)) fun r11 =>
    zg (zin y2 8) <|
    if (σ9 1 (y2 : Int32).toNatClampNeg) = 1 then (
    zl (y3 >>> (1 &&& 31)) fun v14 =>
    zl (((2 : Int32) * y2) + r11) fun v15 =>
    zg (zin v15 16) <|
    zl (σ9 2 (v15 : Int32).toNatClampNeg) fun v16 =>
    L_X7_walkNow_33 n v16 v14 0 σ9
    ) else (
    zl (((2 : Int32) * y2) + r11) fun v12 =>
    zg (zin v12 16) <|
    zl (σ9 2 (v12 : Int32).toNatClampNeg) fun v13 =>
    L_X7_walkNow_33 n v13 y3 0 σ9
    )
    ) else (
    if 30 ≤ (σ9 0 4) then (
    zg (zin y2 8) <|
    zg (zin y2 8) <|
    zb (F_X7_endBy (σ9 1 (y2 : Int32).toNatClampNeg) (σ9 18 (y2 : Int32).toNatClampNeg) (y3 &&& 1)) fun r18 =>
    zg (zin y2 8) <|
    if (σ9 1 (y2 : Int32).toNatClampNeg) = 1 then (
    zl (y3 >>> (1 &&& 31)) fun v21 =>
    zl (((2 : Int32) * y2) + r18) fun v22 =>
    zg (zin v22 16) <|
    zl (σ9 2 (v22 : Int32).toNatClampNeg) fun v23 =>
    L_X7_walkNow_33 n v23 v21 0 σ9
    ) else (
    zl (((2 : Int32) * y2) + r18) fun v19 =>
    zg (zin v19 16) <|
    zl (σ9 2 (v19 : Int32).toNatClampNeg) fun v20 =>
    L_X7_walkNow_33 n v20 y3 0 σ9
    )
    ) else (
    zg (zin y2 8) <|
    zg (zin y2 8) <|
    zb (F_X7_endBy (σ9 1 (y2 : Int32).toNatClampNeg) (σ9 18 (y2 : Int32).toNatClampNeg) (y3 &&& 1)) fun r25 =>
    zg (zin y2 8) <|
    if (σ9 1 (y2 : Int32).toNatClampNeg) = 1 then (
    zl (y3 >>> (1 &&& 31)) fun v28 =>
    zl (((2 : Int32) * y2) + r25) fun v29 =>
    zg (zin v29 16) <|
    zl (σ9 2 (v29 : Int32).toNatClampNeg) fun v30 =>
    L_X7_walkNow_33 n v30 v28 1 σ9
    ) else (
    zl (((2 : Int32) * y2) + r25) fun v26 =>
    zg (zin v26 16) <|
    zl (σ9 2 (v26 : Int32).toNatClampNeg) fun v27 =>
    L_X7_walkNow_33 n v27 y3 1 σ9
    )
    )
    )
    )
def F_X7_walkNow (σ : SF)  (x1 : Int32) : Option (Int32 × SF) :=
  zb2 (L_X7_walkNow_2 x1 100 0 σ) fun v3 σ4 =>
  zl (zst σ4 0 4 0) fun σ6 =>
  zb4 (L_X7_walkNow_33 100 0 x1 1 σ6) fun v31 v32 v33 σ34 =>
  some (σ34 0 4, σ34)
def F_X7_walk (σ : SF)  (x1 : Int32) : Option (Int32 × SF) :=
  if 0 ≤ x1 then (
  if (σ 0 1) = 0 then (
  some ((-103), σ)
  ) else (
  zb2 (F_X7_walkNow σ x1) fun r3 σ2 =>
  some (r3, σ2)
  )
  ) else (
  some ((-102), σ)
  )
def F_X7_visit (σ : SF)  (x1 : Int32) : Option Int32 :=
  zb (F_X7_within x1 0 ((σ 0 4) - 1)) fun r2 =>
  if r2 = 0 then (
  some (-101)
  ) else (
  zg (zin x1 30) <|
  some (σ 3 (x1 : Int32).toNatClampNeg)
  )
def F_X7_tell (σ : SF)  (x1 : Int32) : Option SF :=
  zg (zin (σ 0 36) 128) <|
  zl (zst σ 19 (σ 0 36 : Int32).toNatClampNeg x1) fun σ1 =>
  zl (zst σ1 0 36 ((σ1 0 36) + 1)) fun σ2 =>
  some σ2
def F_X7_later (σ : SF)  (x1 : Int32) : Option SF :=
  zg (zin (σ 0 41) 256) <|
  zl (zst σ 20 (σ 0 41 : Int32).toNatClampNeg x1) fun σ1 =>
  zl (zst σ1 0 41 ((σ1 0 41) + 1)) fun σ2 =>
  some σ2
def F_X7_opens (σ : SF)  (x1 : Int32) : Option SF :=
  zg (zin (σ 0 43) 64) <|
  zl (zst σ 21 (σ 0 43 : Int32).toNatClampNeg x1) fun σ1 =>
  zl (zst σ1 0 43 ((σ1 0 43) + 1)) fun σ2 =>
  if (σ2 0 43) ≤ (σ2 0 39) then (
  zl (zst σ2 0 39 (σ2 0 39)) fun σ3 =>
  some σ3
  ) else (
  zl (zst σ2 0 39 (σ2 0 43)) fun σ4 =>
  some σ4
  )
def L_X7_depthOf_7 (σ : SF) (y1 : Int32) : Nat → Int32 → Option (Int32)
  | 0, _ => none
  | n + 1, y2 =>
    zg (zin y2 64) <|
    if (σ 21 (y2 : Int32).toNatClampNeg) = y1 then (
    some y2
    ) else (
    zl (y2 + (-1)) fun v2 =>
    L_X7_depthOf_7 σ y1 n v2
    )
def F_X7_depthOf (σ : SF)  (x1 : Int32) : Option Int32 :=
  zl ((σ 0 43) - 1) fun v1 =>
  zb (L_X7_depthOf_7 σ x1 100 v1) fun v3 =>
  some (((σ 0 43) - 1) - v3)
def F_X7_goOut (σ : SF)  (x1 : Int32) (x2 : Int32) : Option SF :=
  zb (F_X7_depthOf σ x2) fun r2 =>
  zb (F_X7_tell σ (x1 + r2)) fun σ4 =>
  zl (zst σ4 0 37 ((σ4 0 37) + 1)) fun σ5 =>
  zl (zst σ5 0 38 ((σ5 0 38) + r2)) fun σ6 =>
  some σ6
def F_X7_isBlock (σ : SF)  (x1 : Int32) (x2 : Int32) : Option Int32 :=
  zg (zin x2 8) <|
  if (σ 15 (x2 : Int32).toNatClampNeg) = x1 then (
  zb (F_X7_isIn (σ 0 32) x2) fun r2 =>
  if r2 = 0 then (
  some 0
  ) else (
  zb (F_X7_isIn (σ 0 22) x2) fun r4 =>
  if r4 = 0 then (
  some 0
  ) else (
  some 1
  )
  )
  ) else (
  some 0
  )
def L_X7_layWithin_7 (y1 : Int32) : Nat → Int32 → SF → Option (Int32 × SF)
  | 0, _, _ => none
  | n + 1, y2, σ =>
    if y2 < 0 then (
    some (y2, σ)
    ) else (
    zg (zin y2 8) <|
    zb (F_X7_isBlock σ y1 (σ 12 (y2 : Int32).toNatClampNeg)) fun r3 =>
    if r3 = 0 then (
    zl (y2 + (-1)) fun v4 =>
    L_X7_layWithin_7 y1 n v4 σ
    ) else (
    zg (zin y2 8) <|
    zb (F_X7_later σ ((1000 : Int32) + (σ 12 (y2 : Int32).toNatClampNeg))) fun σ6 =>
    zb (F_X7_later σ6 6301) fun σ8 =>
    zl (y2 + (-1)) fun v9 =>
    L_X7_layWithin_7 y1 n v9 σ8
    )
    )
def L_X7_layWithin_116 (y1 : Int32) : Nat → Int32 → SF → Option (Int32 × SF)
  | 0, _, _ => none
  | n + 1, y3, σ =>
    if (σ 0 23) ≤ y3 then (
    some (y3, σ)
    ) else (
    zg (zin y3 8) <|
    zb (F_X7_isBlock σ y1 (σ 12 (y3 : Int32).toNatClampNeg)) fun r18 =>
    if r18 = 0 then (
    zl (y3 + 1) fun v19 =>
    L_X7_layWithin_116 y1 n v19 σ
    ) else (
    zg (zin y3 8) <|
    zb (F_X7_later σ ((5000 : Int32) + (σ 12 (y3 : Int32).toNatClampNeg))) fun σ21 =>
    zl (y3 + 1) fun v22 =>
    L_X7_layWithin_116 y1 n v22 σ21
    )
    )
def F_X7_layWithin (σ : SF)  (x1 : Int32) : Option SF :=
  zl ((σ 0 23) - 1) fun v1 =>
  zb2 (L_X7_layWithin_7 x1 100 v1 σ) fun v10 σ11 =>
  zg (zin x1 8) <|
  zb (F_X7_ends (σ11 10 (x1 : Int32).toNatClampNeg)) fun r14 =>
  if r14 ≤ 1 then (
  if r14 ≤ 0 then (
  zb (F_X7_later σ11 x1) fun σ16 =>
  zb2 (L_X7_layWithin_116 x1 100 0 σ16) fun v23 σ24 =>
  some σ24
  ) else (
  zb (F_X7_later σ11 ((3000 : Int32) + ((2 : Int32) * x1))) fun σ27 =>
  zb (F_X7_later σ27 x1) fun σ29 =>
  zb2 (L_X7_layWithin_116 x1 100 0 σ29) fun v30 σ31 =>
  some σ31
  )
  ) else (
  zb (F_X7_later σ11 401) fun σ34 =>
  zb (F_X7_later σ34 (((3000 : Int32) + ((2 : Int32) * x1)) + 1)) fun σ36 =>
  zb (F_X7_later σ36 400) fun σ38 =>
  if r14 ≤ 0 then (
  zb (F_X7_later σ38 x1) fun σ40 =>
  zb2 (L_X7_layWithin_116 x1 100 0 σ40) fun v41 σ42 =>
  some σ42
  ) else (
  zb (F_X7_later σ38 ((3000 : Int32) + ((2 : Int32) * x1))) fun σ45 =>
  zb (F_X7_later σ45 x1) fun σ47 =>
  zb2 (L_X7_layWithin_116 x1 100 0 σ47) fun v48 σ49 =>
  some σ49
  )
  )
def F_X7_layTree (σ : SF)  (x1 : Int32) : Option SF :=
  zb (F_X7_isIn (σ 0 31) x1) fun r2 =>
  if r2 = 0 then (
  zb (F_X7_later σ ((2000 : Int32) + x1)) fun σ4 =>
  some σ4
  ) else (
  zb (F_X7_later σ 6300) fun σ6 =>
  zb (F_X7_later σ6 ((2000 : Int32) + x1)) fun σ8 =>
  zb (F_X7_later σ8 ((4000 : Int32) + x1)) fun σ10 =>
  some σ10
  )
def F_X7_branch (σ : SF)  (x1 : Int32) : Option SF :=
  zg (zin x1 16) <|
  zl (σ 11 (x1 : Int32).toNatClampNeg) fun v1 =>
  zb (F_X7_retreats σ x1) fun r3 =>
  if r3 = 0 then (
  zb (F_X7_isIn (σ 0 32) v1) fun r5 =>
  if r5 = 0 then (
  zb (F_X7_later σ ((1000 : Int32) + v1)) fun σ7 =>
  some σ7
  ) else (
  zb (F_X7_goOut σ 600 ((5000 : Int32) + v1)) fun σ9 =>
  some σ9
  )
  ) else (
  zb (F_X7_goOut σ 500 ((4000 : Int32) + v1)) fun σ11 =>
  some σ11
  )
def F_X7_doNext (σ : SF)  (x1 : Int32) : Option SF :=
  zl ((x1 / 1000) * 1000) fun v1 =>
  zl (x1 - x1 / 1000 * 1000) fun v2 =>
  if v1 = 1000 then (
  zb (F_X7_layTree σ v2) fun σ4 =>
  some σ4
  ) else (
  if v1 = 2000 then (
  zb (F_X7_layWithin σ v2) fun σ6 =>
  some σ6
  ) else (
  if v1 = 3000 then (
  zb (F_X7_branch σ v2) fun σ8 =>
  some σ8
  ) else (
  if v1 = 4000 then (
  zb (F_X7_tell σ ((100 : Int32) + v2)) fun σ10 =>
  zb (F_X7_opens σ10 x1) fun σ12 =>
  some σ12
  ) else (
  if v1 = 5000 then (
  zb (F_X7_tell σ ((200 : Int32) + v2)) fun σ14 =>
  zb (F_X7_opens σ14 x1) fun σ16 =>
  some σ16
  ) else (
  if v1 = 6000 then (
  zb (F_X7_tell σ v2) fun σ18 =>
  zl (zst σ18 0 43 ((σ18 0 43) - 1)) fun σ19 =>
  some σ19
  ) else (
  zb (F_X7_tell σ x1) fun σ21 =>
  some σ21
  )
  )
  )
  )
  )
  )
def L_X7_layFold_55 : Nat → SF → Option (SF)
  | 0, _ => none
  | n + 1, σ =>
    if (σ 0 41) ≤ 0 then (
    some σ
    ) else (
    zl (zst σ 0 41 ((σ 0 41) - 1)) fun σ9 =>
    zl (σ9 0 41) fun v10 =>
    zg (zin v10 256) <|
    zb (F_X7_doNext σ9 (σ9 20 (v10 : Int32).toNatClampNeg)) fun σ12 =>
    L_X7_layFold_55 n σ12
    )
def F_X7_layFold (σ : SF)  : Option SF :=
  zb (F_X7_layNow σ) fun σ2 =>
  zl (zst σ2 0 36 0) fun σ3 =>
  zl (zst σ3 0 37 0) fun σ4 =>
  zl (zst σ4 0 38 0) fun σ5 =>
  zl (zst σ5 0 39 0) fun σ6 =>
  zl (zst σ6 0 41 0) fun σ7 =>
  zl (zst σ7 0 43 0) fun σ8 =>
  if (σ8 0 1) ≤ 0 then (
  zb (L_X7_layFold_55 300 σ8) fun σ13 =>
  some σ13
  ) else (
  if (σ8 0 30) = 0 then (
  zb (F_X7_later σ8 1000) fun σ18 =>
  zb (L_X7_layFold_55 300 σ18) fun σ19 =>
  some σ19
  ) else (
  zb (L_X7_layFold_55 300 σ8) fun σ15 =>
  some σ15
  )
  )
def F_X7_sign (σ : SF)  (x1 : Int32) : Option (Int32 × SF) :=
  if (σ 0 1) = 0 then (
  some ((-101), σ)
  ) else (
  zb (F_X7_layFold σ) fun σ2 =>
  zb (F_X7_within x1 0 ((σ2 0 36) - 1)) fun r4 =>
  if r4 = 0 then (
  some ((-101), σ2)
  ) else (
  zg (zin x1 128) <|
  some (σ2 19 (x1 : Int32).toNatClampNeg, σ2)
  )
  )
def F_X7_foldNow (σ : SF)  (x1 : Int32) : Option Int32 :=
  if (σ 0 30) ≤ 0 then (
  if x1 = 0 then (
  some (σ 0 36)
  ) else (
  if x1 = 1 then (
  some (σ 0 37)
  ) else (
  if x1 = 2 then (
  some (σ 0 38)
  ) else (
  some (σ 0 39)
  )
  )
  )
  ) else (
  some (-1)
  )
def F_X7_fold (σ : SF)  (x1 : Int32) : Option (Int32 × SF) :=
  zb (F_X7_within x1 0 3) fun r2 =>
  if r2 = 0 then (
  some ((-102), σ)
  ) else (
  if (σ 0 1) = 0 then (
  some ((-103), σ)
  ) else (
  zb (F_X7_layFold σ) fun σ4 =>
  zb (F_X7_foldNow σ4 x1) fun r6 =>
  some (r6, σ4)
  )
  )
def L_X7_mendSet_8 (σ : SF) : Nat → Int32 → Int32 → Option (Int32 × Int32)
  | 0, _, _ => none
  | n + 1, y1, y2 =>
    if ((2 : Int32) * (σ 0 1)) ≤ y2 then (
    some (y1, y2)
    ) else (
    zb (F_X7_isLive σ y2) fun r4 =>
    if r4 = 0 then (
    zl (y1 ||| 0) fun v5 =>
    zl (y2 + 1) fun v6 =>
    L_X7_mendSet_8 σ n v5 v6
    ) else (
    zl (y1 ||| ((1 : Int32) <<< (y2 &&& 31))) fun v7 =>
    zl (y2 + 1) fun v8 =>
    L_X7_mendSet_8 σ n v7 v8
    )
    )
def L_X7_mendSet_49 (y1 : Int32) : Nat → Int32 → Int32 → Int32 → SF → Option (Int32 × Int32 × Int32 × SF)
  | 0, _, _, _, _ => none
  | n + 1, y2, y3, y4, σ =>
    if y4 < 0 then (
    some (y2, y3, y4, σ)
    ) else (
    zb (F_X7_size y4) fun r13 =>
    if y3 < r13 then (
    if y4 = 0 then (
    L_X7_mendSet_49 y1 n y2 y3 (-1) σ
    ) else (
    zl ((y4 - 1) &&& y1) fun v14 =>
    L_X7_mendSet_49 y1 n y2 y3 v14 σ
    )
    ) else (
    zb (F_X7_size y4) fun r16 =>
    if 4 ≤ r16 then (
    if y4 = 0 then (
    L_X7_mendSet_49 y1 n y2 y3 (-1) σ
    ) else (
    zl ((y4 - 1) &&& y1) fun v17 =>
    L_X7_mendSet_49 y1 n y2 y3 v17 σ
    )
    ) else (
    zl (zst σ 0 19 y4) fun σ18 =>
    zb (F_X7_lay σ18) fun σ20 =>
    if (σ20 0 30) = 0 then (
    zb (F_X7_size y4) fun r23 =>
    if y4 = 0 then (
    L_X7_mendSet_49 y1 n y4 r23 (-1) σ20
    ) else (
    zl ((y4 - 1) &&& y1) fun v24 =>
    L_X7_mendSet_49 y1 n y4 r23 v24 σ20
    )
    ) else (
    if y4 = 0 then (
    L_X7_mendSet_49 y1 n y2 y3 (-1) σ20
    ) else (
    zl ((y4 - 1) &&& y1) fun v21 =>
    L_X7_mendSet_49 y1 n y2 y3 v21 σ20
    )
    )
    )
    )
    )
def F_X7_mendSet (σ : SF)  : Option (Int32 × SF) :=
  zb (F_X7_layNow σ) fun σ2 =>
  zb2 (L_X7_mendSet_8 σ2 100 0 0) fun v9 v10 =>
  zb4 (L_X7_mendSet_49 v9 70000 (-1) 4 v9 σ2) fun v25 v26 v27 σ28 =>
  some (v25, σ28)
def F_X7_mendNow (σ : SF)  (x1 : Int32) : Option (Int32 × SF) :=
  zl (zst σ 0 6 ((σ 0 6) + 1)) fun σ1 =>
  zb2 (F_X7_mendSet σ1) fun r4 σ3 =>
  if r4 = (-1) then (
  some ((-1), σ3)
  ) else (
  if x1 = 0 then (
  zb (F_X7_size r4) fun r6 =>
  some (r6, σ3)
  ) else (
  some (r4, σ3)
  )
  )
def F_X7_mend (σ : SF)  (x1 : Int32) : Option (Int32 × SF) :=
  zb (F_X7_within x1 0 1) fun r2 =>
  if r2 = 0 then (
  some ((-102), σ)
  ) else (
  if (σ 0 1) = 0 then (
  some ((-103), σ)
  ) else (
  if (σ 0 6) = 5 then (
  some ((-103), σ)
  ) else (
  zb2 (F_X7_mendNow σ x1) fun r5 σ4 =>
  some (r5, σ4)
  )
  )
  )
def F_X7_see (σ : SF)  (x1 : Int32) (x2 : Int32) (x3 : Int32) : Option (Int32 × SF) :=
  zb (F_X7_isNode σ x1) fun r2 =>
  if r2 = 0 then (
  some ((-101), σ)
  ) else (
  zb (F_X7_within x2 1 3) fun r4 =>
  if r4 = 0 then (
  some ((-102), σ)
  ) else (
  zb (F_X7_within x3 0 2) fun r6 =>
  if r6 = 0 then (
  some ((-102), σ)
  ) else (
  if (σ 0 7) = 6 then (
  some ((-104), σ)
  ) else (
  zg (zin (σ 0 7) 6) <|
  zl (zst σ 4 (σ 0 7 : Int32).toNatClampNeg x1) fun σ7 =>
  zg (zin (σ7 0 7) 6) <|
  zl (zst σ7 5 (σ7 0 7 : Int32).toNatClampNeg x2) fun σ8 =>
  zg (zin (σ8 0 7) 6) <|
  zl (zst σ8 6 (σ8 0 7 : Int32).toNatClampNeg x3) fun σ9 =>
  zl (zst σ9 0 7 ((σ9 0 7) + 1)) fun σ10 =>
  some (σ10 0 7, σ10)
  )
  )
  )
  )
def F_X7_forget (σ : SF)  : Option (Int32 × SF) :=
  zl (σ 0 7) fun v1 =>
  zl (zst σ 0 7 0) fun σ2 =>
  some (v1, σ2)
def F_X7_draw (σ : SF)  (x1 : Int32) : Option (Int32 × SF) :=
  zl (zsL σ 0 45 ((((1103515245 : Int64) * (zgL σ 0 45)) + 12345) &&& 2147483647)) fun σ1 =>
  zg (znzL ((x1 : Int32).toInt64)) <|
  some ((((zgL σ1 0 45) / 65536) - ((zgL σ1 0 45) / 65536) / ((x1 : Int32).toInt64) * ((x1 : Int32).toInt64) : Int64).toInt32, σ1)
def L_X7_drawnNow_34 (y1 : Int32) (y3 : Int32) (y4 : Int32) (y5 : Int32) (y6 : Int32) : Nat → Int32 → SF → Option (Int32 × SF)
  | 0, _, _ => none
  | n + 1, y7, σ =>
    if 5 ≤ y7 then (
    some (y7, σ)
    ) else (
    zb2 (F_X7_draw σ 5) fun r6 σ5 =>
    zg (zin y7 8) <|
    zl (zst σ5 10 (y7 : Int32).toNatClampNeg r6) fun σ7 =>
    zb2 (F_X7_draw σ7 5) fun r10 σ9 =>
    zg (zin ((2 : Int32) * y7) 16) <|
    zl (zst σ9 11 ((2 : Int32) * y7 : Int32).toNatClampNeg r10) fun σ11 =>
    zb2 (F_X7_draw σ11 5) fun r14 σ13 =>
    zg (zin (((2 : Int32) * y7) + 1) 16) <|
    zl (zst σ13 11 (((2 : Int32) * y7) + 1 : Int32).toNatClampNeg r14) fun σ15 =>
    zl (y7 + 1) fun v16 =>
    L_X7_drawnNow_34 y1 y3 y4 y5 y6 n v16 σ15
    )
def L_X7_drawnNow_15 (y1 : Int32) (y3 : Int32) : Nat → Int32 → Int32 → Int32 → SF → Option (Int32 × Int32 × Int32 × SF)
  | 0, _, _, _, _ => none
  | n + 1, y4, y5, y6, σ =>
    if y1 ≤ y6 then (
    some (y4, y5, y6, σ)
    ) else (
    zl (zst σ 0 18 5) fun σ2 =>
    zl (zst σ2 0 19 0) fun σ3 =>
    zb2 (L_X7_drawnNow_34 y1 y3 y4 y5 y6 100 0 σ3) fun v17 σ18 =>
    zb (F_X7_lay σ18) fun σ21 =>
    if (σ21 0 30) = 0 then (
    zl (y4 + 1) fun v27 =>
    zb (F_X7_size (σ21 0 31)) fun r29 =>
    zl (y5 + r29) fun v30 =>
    zl (y6 + 1) fun v31 =>
    L_X7_drawnNow_15 y1 y3 n v27 v30 v31 σ21
    ) else (
    zl (y4 + 0) fun v22 =>
    zb (F_X7_size (σ21 0 31)) fun r24 =>
    zl (y5 + r24) fun v25 =>
    zl (y6 + 1) fun v26 =>
    L_X7_drawnNow_15 y1 y3 n v22 v25 v26 σ21
    )
    )
def F_X7_drawnNow (σ : SF)  (x1 : Int32) (x2 : Int32) (x3 : Int32) : Option (Int32 × SF) :=
  zl (zsL σ 0 45 ((x2 : Int32).toInt64)) fun σ1 =>
  zb4 (L_X7_drawnNow_15 x1 x3 100 0 0 0 σ1) fun v32 v33 v34 σ35 =>
  if x3 = 0 then (
  some (v32, σ35)
  ) else (
  if x3 = 1 then (
  some (v33, σ35)
  ) else (
  some ((zgL σ35 0 45 : Int64).toInt32, σ35)
  )
  )
def F_X7_drawn (σ : SF)  (x1 : Int32) (x2 : Int32) (x3 : Int32) : Option (Int32 × SF) :=
  zb (F_X7_within x1 1 8) fun r2 =>
  if r2 = 0 then (
  some ((-102), σ)
  ) else (
  if x2 < 0 then (
  some ((-102), σ)
  ) else (
  zb (F_X7_within x3 0 2) fun r4 =>
  if r4 = 0 then (
  some ((-102), σ)
  ) else (
  zb2 (F_X7_drawnNow σ x1 x2 x3) fun r7 σ6 =>
  some (r7, σ6)
  )
  )
  )
def L_X7_image_33 : Nat → Int32 → SF → Option (Int32 × SF)
  | 0, _, _ => none
  | n + 1, y1, σ =>
    if 8 ≤ y1 then (
    some (y1, σ)
    ) else (
    zg (zin y1 8) <|
    zg (zin y1 8) <|
    zl (zst σ 22 (y1 : Int32).toNatClampNeg (σ 1 (y1 : Int32).toNatClampNeg)) fun σ4 =>
    zl ((2 : Int32) * y1) fun v5 =>
    zg (zin v5 16) <|
    zg (zin ((2 : Int32) * y1) 16) <|
    zl (zst σ4 23 ((2 : Int32) * y1 : Int32).toNatClampNeg (σ4 2 (v5 : Int32).toNatClampNeg)) fun σ6 =>
    zl (((2 : Int32) * y1) + 1) fun v7 =>
    zg (zin v7 16) <|
    zg (zin (((2 : Int32) * y1) + 1) 16) <|
    zl (zst σ6 23 (((2 : Int32) * y1) + 1 : Int32).toNatClampNeg (σ6 2 (v7 : Int32).toNatClampNeg)) fun σ8 =>
    zl (y1 + 1) fun v9 =>
    L_X7_image_33 n v9 σ8
    )
def L_X7_image_95 : Nat → Int32 → SF → Option (Int32 × SF)
  | 0, _, _ => none
  | n + 1, y1, σ =>
    if 6 ≤ y1 then (
    some (y1, σ)
    ) else (
    zg (zin y1 6) <|
    zg (zin y1 6) <|
    zl (zst σ 24 (y1 : Int32).toNatClampNeg (σ 4 (y1 : Int32).toNatClampNeg)) fun σ13 =>
    zg (zin y1 6) <|
    zg (zin y1 6) <|
    zl (zst σ13 25 (y1 : Int32).toNatClampNeg (σ13 5 (y1 : Int32).toNatClampNeg)) fun σ14 =>
    zg (zin y1 6) <|
    zg (zin y1 6) <|
    zl (zst σ14 26 (y1 : Int32).toNatClampNeg (σ14 6 (y1 : Int32).toNatClampNeg)) fun σ15 =>
    zl (y1 + 1) fun v16 =>
    L_X7_image_95 n v16 σ15
    )
def F_X7_image (σ : SF)  : Option (Int32 × SF) :=
  if (σ 0 1) = 0 then (
  some ((-103), σ)
  ) else (
  zl (zst σ 0 46 1) fun σ1 =>
  zl (zst σ1 0 47 (σ1 0 0)) fun σ2 =>
  zl (zst σ2 0 48 (σ2 0 7)) fun σ3 =>
  zb2 (L_X7_image_33 100 0 σ3) fun v10 σ11 =>
  zb2 (L_X7_image_95 100 0 σ11) fun v17 σ18 =>
  some (σ18 0 1, σ18)
  )
def L_X7_restore_31 : Nat → Int32 → SF → Option (Int32 × SF)
  | 0, _, _ => none
  | n + 1, y1, σ =>
    if 8 ≤ y1 then (
    some (y1, σ)
    ) else (
    zg (zin y1 8) <|
    zg (zin y1 8) <|
    zl (zst σ 1 (y1 : Int32).toNatClampNeg (σ 22 (y1 : Int32).toNatClampNeg)) fun σ2 =>
    zl ((2 : Int32) * y1) fun v3 =>
    zg (zin v3 16) <|
    zg (zin ((2 : Int32) * y1) 16) <|
    zl (zst σ2 2 ((2 : Int32) * y1 : Int32).toNatClampNeg (σ2 23 (v3 : Int32).toNatClampNeg)) fun σ4 =>
    zl (((2 : Int32) * y1) + 1) fun v5 =>
    zg (zin v5 16) <|
    zg (zin (((2 : Int32) * y1) + 1) 16) <|
    zl (zst σ4 2 (((2 : Int32) * y1) + 1 : Int32).toNatClampNeg (σ4 23 (v5 : Int32).toNatClampNeg)) fun σ6 =>
    zl (y1 + 1) fun v7 =>
    L_X7_restore_31 n v7 σ6
    )
def L_X7_restore_93 : Nat → Int32 → SF → Option (Int32 × SF)
  | 0, _, _ => none
  | n + 1, y1, σ =>
    if 6 ≤ y1 then (
    some (y1, σ)
    ) else (
    zg (zin y1 6) <|
    zg (zin y1 6) <|
    zl (zst σ 4 (y1 : Int32).toNatClampNeg (σ 24 (y1 : Int32).toNatClampNeg)) fun σ11 =>
    zg (zin y1 6) <|
    zg (zin y1 6) <|
    zl (zst σ11 5 (y1 : Int32).toNatClampNeg (σ11 25 (y1 : Int32).toNatClampNeg)) fun σ12 =>
    zg (zin y1 6) <|
    zg (zin y1 6) <|
    zl (zst σ12 6 (y1 : Int32).toNatClampNeg (σ12 26 (y1 : Int32).toNatClampNeg)) fun σ13 =>
    zl (y1 + 1) fun v14 =>
    L_X7_restore_93 n v14 σ13
    )
def F_X7_restore (σ : SF)  : Option (Int32 × SF) :=
  if (σ 0 46) = 0 then (
  some ((-103), σ)
  ) else (
  if (σ 0 47) = (σ 0 0) then (
  zl (zst σ 0 7 (σ 0 48)) fun σ1 =>
  zb2 (L_X7_restore_31 100 0 σ1) fun v8 σ9 =>
  zb2 (L_X7_restore_93 100 0 σ9) fun v15 σ16 =>
  some (σ16 0 1, σ16)
  ) else (
  some ((-103), σ)
  )
  )
def F_X7_ofGraph (σ : SF)  (x1 : Int32) : Option (Int32 × SF) :=
  if (σ 0 1) = 0 then (
  some (0, σ)
  ) else (
  zb (F_X7_layNow σ) fun σ2 =>
  if x1 = 1 then (
  some (σ2 0 23, σ2)
  ) else (
  if x1 = 2 then (
  some (σ2 0 28, σ2)
  ) else (
  if x1 = 3 then (
  some (σ2 0 29, σ2)
  ) else (
  if x1 = 4 then (
  some (σ2 0 30, σ2)
  ) else (
  if x1 = 5 then (
  zb (F_X7_size (σ2 0 31)) fun r6 =>
  some (r6, σ2)
  ) else (
  zb (F_X7_size (σ2 0 32)) fun r4 =>
  some (r4, σ2)
  )
  )
  )
  )
  )
  )
def F_X7_howMany (σ : SF)  (x1 : Int32) : Option (Int32 × SF) :=
  if x1 = 0 then (
  some (σ 0 1, σ)
  ) else (
  if x1 = 7 then (
  some (σ 0 4, σ)
  ) else (
  if x1 = 8 then (
  some (σ 0 7, σ)
  ) else (
  if x1 = 9 then (
  some (σ 0 11, σ)
  ) else (
  if x1 = 10 then (
  some (σ 0 0, σ)
  ) else (
  if x1 = 11 then (
  some (σ 0 6, σ)
  ) else (
  zb (F_X7_within x1 1 6) fun r2 =>
  if r2 = 0 then (
  some ((-102), σ)
  ) else (
  zb2 (F_X7_ofGraph σ x1) fun r5 σ4 =>
  some (r5, σ4)
  )
  )
  )
  )
  )
  )
  )
def F_X7_count (σ : SF)  (x1 : Int32) : Option (Int32 × SF) :=
  zb2 (F_X7_howMany σ x1) fun r3 σ2 =>
  some (r3, σ2)
def F_X7_mix (σ : SF)  (x1 : Int64) : Option SF :=
  zl (zsL σ 0 54 (((31 : Int64) * (zgL σ 0 54)) + x1)) fun σ1 =>
  some σ1
def L_X7_mixGraph_16 (y1 : Int32) : Nat → Int32 → SF → Option (Int32 × SF)
  | 0, _, _ => none
  | n + 1, y2, σ =>
    if 10 ≤ y2 then (
    some (y2, σ)
    ) else (
    zb (F_X7_nodeNow σ y1 y2) fun r4 =>
    zb (F_X7_mix σ ((r4 : Int32).toInt64)) fun σ6 =>
    zl (y2 + 1) fun v7 =>
    L_X7_mixGraph_16 y1 n v7 σ6
    )
def L_X7_mixGraph_6 : Nat → Int32 → SF → Option (Int32 × SF)
  | 0, _, _ => none
  | n + 1, y1, σ =>
    if (σ 0 1) ≤ y1 then (
    some (y1, σ)
    ) else (
    zb2 (L_X7_mixGraph_16 y1 100 0 σ) fun v8 σ9 =>
    zb (F_X7_edgeNow σ9 ((2 : Int32) * y1)) fun r12 =>
    zb (F_X7_mix σ9 ((r12 : Int32).toInt64)) fun σ14 =>
    zb (F_X7_edgeNow σ14 (((2 : Int32) * y1) + 1)) fun r16 =>
    zb (F_X7_mix σ14 ((r16 : Int32).toInt64)) fun σ18 =>
    zl (y1 + 1) fun v19 =>
    L_X7_mixGraph_6 n v19 σ18
    )
def L_X7_mixGraph_77 : Nat → Int32 → SF → Option (Int32 × SF)
  | 0, _, _ => none
  | n + 1, y1, σ =>
    if 4 ≤ y1 then (
    some (y1, σ)
    ) else (
    zb (F_X7_foldNow σ y1) fun r26 =>
    zb (F_X7_mix σ ((r26 : Int32).toInt64)) fun σ28 =>
    zl (y1 + 1) fun v29 =>
    L_X7_mixGraph_77 n v29 σ28
    )
def L_X7_mixGraph_100 : Nat → Int32 → SF → Option (Int32 × SF)
  | 0, _, _ => none
  | n + 1, y1, σ =>
    if (σ 0 36) ≤ y1 then (
    some (y1, σ)
    ) else (
    zg (zin y1 128) <|
    zb (F_X7_mix σ ((σ 19 (y1 : Int32).toNatClampNeg : Int32).toInt64)) fun σ34 =>
    zl (y1 + 1) fun v35 =>
    L_X7_mixGraph_100 n v35 σ34
    )
def F_X7_mixGraph (σ : SF)  : Option SF :=
  zb (F_X7_layNow σ) fun σ2 =>
  zb2 (L_X7_mixGraph_6 100 0 σ2) fun v20 σ21 =>
  zb (F_X7_layFold σ21) fun σ24 =>
  zb2 (L_X7_mixGraph_77 100 0 σ24) fun v30 σ31 =>
  zb2 (L_X7_mixGraph_100 100 0 σ31) fun v36 σ37 =>
  some σ37
def L_X7_digest_20 : Nat → Int32 → SF → Option (Int32 × SF)
  | 0, _, _ => none
  | n + 1, y1, σ =>
    if (σ 0 4) ≤ y1 then (
    some (y1, σ)
    ) else (
    zg (zin y1 30) <|
    zb (F_X7_mix σ ((σ 3 (y1 : Int32).toNatClampNeg : Int32).toInt64)) fun σ3 =>
    zl (y1 + 1) fun v4 =>
    L_X7_digest_20 n v4 σ3
    )
def L_X7_digest_47 : Nat → Int32 → SF → Option (Int32 × SF)
  | 0, _, _ => none
  | n + 1, y1, σ =>
    if (σ 0 11) ≤ y1 then (
    some (y1, σ)
    ) else (
    zg (zin y1 34) <|
    zb (F_X7_mix σ ((σ 7 (y1 : Int32).toNatClampNeg : Int32).toInt64)) fun σ9 =>
    zl (y1 + 1) fun v10 =>
    L_X7_digest_47 n v10 σ9
    )
def L_X7_digest_74 : Nat → Int32 → SF → Option (Int32 × SF)
  | 0, _, _ => none
  | n + 1, y1, σ =>
    if 12 ≤ y1 then (
    some (y1, σ)
    ) else (
    zb2 (F_X7_howMany σ y1) fun r16 σ15 =>
    zb (F_X7_mix σ15 ((r16 : Int32).toInt64)) fun σ18 =>
    zl (y1 + 1) fun v19 =>
    L_X7_digest_74 n v19 σ18
    )
def F_X7_digest (σ : SF)  : Option (Int64 × SF) :=
  zl (zsL σ 0 54 1381) fun σ1 =>
  if (σ1 0 1) ≤ 0 then (
  zb2 (L_X7_digest_20 100 0 σ1) fun v5 σ6 =>
  zb2 (L_X7_digest_47 100 0 σ6) fun v11 σ12 =>
  zb2 (L_X7_digest_74 100 0 σ12) fun v20 σ21 =>
  some (zgL σ21 0 54, σ21)
  ) else (
  zb (F_X7_mixGraph σ1) fun σ24 =>
  zb2 (L_X7_digest_20 100 0 σ24) fun v25 σ26 =>
  zb2 (L_X7_digest_47 100 0 σ26) fun v28 σ29 =>
  zb2 (L_X7_digest_74 100 0 σ29) fun v31 σ32 =>
  some (zgL σ32 0 54, σ32)
  )
