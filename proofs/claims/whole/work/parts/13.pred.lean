/-! ===== what each method does, as a predicate: its obligations, its ways, what it gives back ===== -/
def cpy (v : VT) (a b n : Nat) : VT := fun x j => if x = b ∧ j < n then v a j else v x j
def sLen (k : Nat) : Int := if k = 1 then 5 else 3
def sAt (k i : Nat) : Int := if k = 1 then ([110, 111, 100, 101, 115] : List Int).getD i 0 else ([119, 97, 121] : List Int).getD i 0
def P_X0_wipe (g : Nat) (v : VT) (q : VT → Prop) : Prop :=
  ∀ v2 : VT, v2 = upd2 v g 0 0 →
  ∀ v7 : VT, v7 = upd2 v2 g 1 0 →
  q v7

def P_X0_takeFrom (g : Nat) (o : Nat) (v : VT) (q : VT → Prop) : Prop :=
  ∀ v5 : VT, v5 = upd2 v g 0 (v o 0) →
  ∀ v13 : VT, v13 = upd2 v5 g 1 (v5 o 1) →
  (0 ≤ (v13 g 0) ∧ (v13 g 0) ≤ 24) ∧
  ∀ v30 : VT, v30 = cpy v13 (o + 1) (g + 1) (v13 g 0).toNat →
  (0 ≤ (v30 g 1) ∧ (v30 g 1) ≤ 60) ∧
  ∀ v47 : VT, v47 = cpy v30 (o + 2) (g + 2) (v30 g 1).toNat →
  (0 ≤ (v47 g 1) ∧ (v47 g 1) ≤ 60) ∧
  ∀ v64 : VT, v64 = cpy v47 (o + 3) (g + 3) (v47 g 1).toNat →
  (0 ≤ (v64 g 1) ∧ (v64 g 1) ≤ 60) ∧
  ∀ v81 : VT, v81 = cpy v64 (o + 4) (g + 4) (v64 g 1).toNat →
  q v81

def P_X0_isNode (g : Nat) (x1 : Int) (v : VT) (q : Int → Prop) : Prop :=
  ((x1 < 0) →
    q 0) ∧
  ((0 ≤ x1) →
    (((v g 0) ≤ x1) →
      q 0) ∧
    ((x1 < (v g 0)) →
      q 1))

def P_X0_isLine (g : Nat) (x1 : Int) (v : VT) (q : Int → Prop) : Prop :=
  ((x1 < 0) →
    q 0) ∧
  ((0 ≤ x1) →
    (((v g 1) ≤ x1) →
      q 0) ∧
    ((x1 < (v g 1)) →
      q 1))

def P_X0_findName (g : Nat) (x1 : Int) (v : VT) (q : Int → Prop) : Prop :=
  ∀ X2 : Int → Prop, (∀ (i2 : Int), (
    ((x1 = 0) →
      q (-1)) ∧
    ((¬ x1 = 0) →
      (((v g 0) ≤ i2) →
        q (-1)) ∧
      ((i2 < (v g 0)) →
        (0 ≤ i2 ∧ i2 < 24) ∧
        ((¬ (v (g + 1) i2.toNat) = x1) →
          (-2147483648 ≤ i2 + 1 ∧ i2 + 1 ≤ 2147483647) ∧
          X2 (i2 + 1)) ∧
        (((v (g + 1) i2.toNat) = x1) →
          q i2)))) → X2 i2) →
  X2 0

def P_X0_findLine (g : Nat) (x1 : Int) (x2 : Int) (v : VT) (q : Int → Prop) : Prop :=
  ∀ X16 : Int → Prop, (∀ (i5 : Int), (
    (((v g 1) ≤ i5) →
      q (-1)) ∧
    ((i5 < (v g 1)) →
      (0 ≤ i5 ∧ i5 < 60) ∧
      ((¬ (v (g + 2) i5.toNat) = (min x1 x2)) →
        (-2147483648 ≤ i5 + 1 ∧ i5 + 1 ≤ 2147483647) ∧
        X16 (i5 + 1)) ∧
      (((v (g + 2) i5.toNat) = (min x1 x2)) →
        (0 ≤ i5 ∧ i5 < 60) ∧
        ((¬ (v (g + 3) i5.toNat) = (max x1 x2)) →
          (-2147483648 ≤ i5 + 1 ∧ i5 + 1 ≤ 2147483647) ∧
          X16 (i5 + 1)) ∧
        (((v (g + 3) i5.toNat) = (max x1 x2)) →
          q i5)))) → X16 i5) →
  X16 0

def P_X0_canJoin (g : Nat) (x1 : Int) (x2 : Int) (v : VT) (q : Int → Prop) : Prop :=
  P_X0_isNode g x1 v (fun r2 =>
    ((r2 = 0) →
      q 0) ∧
    ((¬ r2 = 0) →
      P_X0_isNode g x2 v (fun r10 =>
        ((r10 = 0) →
          q 0) ∧
        ((¬ r10 = 0) →
          ((x1 = x2) →
            q 0) ∧
          ((¬ x1 = x2) →
            ((60 ≤ (v g 1)) →
              q 0) ∧
            (((v g 1) < 60) →
              P_X0_findLine g x1 x2 v (fun r33 =>
                ((¬ r33 = (-1)) →
                  q 0) ∧
                ((r33 = (-1)) →
                  q 1))))))))

def P_X0_canGrow (g : Nat) (x1 : Int) (v : VT) (q : Int → Prop) : Prop :=
  P_X0_isNode g x1 v (fun r2 =>
    ((r2 = 0) →
      q 0) ∧
    ((¬ r2 = 0) →
      ((24 ≤ (v g 0)) →
        q 0) ∧
      (((v g 0) < 24) →
        ((60 ≤ (v g 1)) →
          q 0) ∧
        (((v g 1) < 60) →
          q 1))))

def P_X0_addNode (g : Nat) (x1 : Int) (v : VT) (q : VT → Prop) : Prop :=
  ((24 ≤ (v g 0)) →
    q v) ∧
  (((v g 0) < 24) →
    (0 ≤ (v g 0) ∧ (v g 0) < 24) ∧
    ∀ v18 : VT, v18 = upd2 v (g + 1) (v g 0).toNat x1 →
    (-2147483648 ≤ (v18 g 0) + 1 ∧ (v18 g 0) + 1 ≤ 2147483647) ∧
    ∀ v26 : VT, v26 = upd2 v18 g 0 ((v18 g 0) + 1) →
    q v26)

def P_X0_addLine (g : Nat) (x1 : Int) (x2 : Int) (x3 : Int) (v : VT) (q : VT → Prop) : Prop :=
  ((60 ≤ (v g 1)) →
    q v) ∧
  (((v g 1) < 60) →
    (0 ≤ (v g 1) ∧ (v g 1) < 60) ∧
    ∀ v22 : VT, v22 = upd2 v (g + 2) (v g 1).toNat (min x1 x2) →
    (0 ≤ (v22 g 1) ∧ (v22 g 1) < 60) ∧
    ∀ v36 : VT, v36 = upd2 v22 (g + 3) (v22 g 1).toNat (max x1 x2) →
    (0 ≤ (v36 g 1) ∧ (v36 g 1) < 60) ∧
    ∀ v46 : VT, v46 = upd2 v36 (g + 4) (v36 g 1).toNat x3 →
    (-2147483648 ≤ (v46 g 1) + 1 ∧ (v46 g 1) + 1 ≤ 2147483647) ∧
    ∀ v54 : VT, v54 = upd2 v46 g 1 ((v46 g 1) + 1) →
    q v54)

def P_X0_addLeaf (g : Nat) (x1 : Int) (v : VT) (q : VT → Prop) : Prop :=
  P_X0_addNode g 0 v (fun v2 =>
    (-2147483648 ≤ (v2 g 0) - 1 ∧ (v2 g 0) - 1 ≤ 2147483647) ∧
    P_X0_addLine g x1 ((v2 g 0) - 1) 1 v2 (fun v14 =>
      q v14))

def P_X0_removeLine (g : Nat) (x1 : Int) (v : VT) (q : VT → Prop) : Prop :=
  ∀ v7 : VT, v7 = upd2 v g 1 0 →
  ∀ X12 : Int → VT → Prop, (∀ (i3 : Int) (v12 : VT), (
    (((v g 1) ≤ i3) →
      q v12) ∧
    ((i3 < (v g 1)) →
      ((i3 = x1) →
        (-2147483648 ≤ i3 + 1 ∧ i3 + 1 ≤ 2147483647) ∧
        X12 (i3 + 1) v12) ∧
      ((¬ i3 = x1) →
        (0 ≤ i3 ∧ i3 < 60) ∧
        (0 ≤ i3 ∧ i3 < 60) ∧
        (0 ≤ i3 ∧ i3 < 60) ∧
        P_X0_addLine g (v12 (g + 2) i3.toNat) (v12 (g + 3) i3.toNat) (v12 (g + 4) i3.toNat) v12 (fun v41 =>
          (-2147483648 ≤ i3 + 1 ∧ i3 + 1 ≤ 2147483647) ∧
          X12 (i3 + 1) v41)))) → X12 i3 v12) →
  X12 0 v7

def P_X0_removeNode (g : Nat) (x1 : Int) (v : VT) (q : VT → Prop) : Prop :=
  ∀ v7 : VT, v7 = upd2 v g 1 0 →
  ∀ K91 : VT → Prop, (∀ (v91 : VT), (
    (-2147483648 ≤ (v91 g 0) - 1 ∧ (v91 g 0) - 1 ≤ 2147483647) ∧
    ∀ v98 : VT, v98 = upd2 v91 g 0 ((v91 g 0) - 1) →
    ∀ X103 : Int → VT → Prop, (∀ (i3 : Int) (v103 : VT), (
      (((v103 g 0) ≤ i3) →
        q v103) ∧
      ((i3 < (v103 g 0)) →
        (-2147483648 ≤ i3 + 1 ∧ i3 + 1 ≤ 2147483647) ∧
        (0 ≤ (i3 + 1) ∧ (i3 + 1) < 24) ∧
        (0 ≤ i3 ∧ i3 < 24) ∧
        ∀ v124 : VT, v124 = upd2 v103 (g + 1) i3.toNat (v103 (g + 1) (i3 + 1).toNat) →
        (-2147483648 ≤ i3 + 1 ∧ i3 + 1 ≤ 2147483647) ∧
        X103 (i3 + 1) v124)) → X103 i3 v103) →
    X103 x1 v98) → K91 v91) →
  ∀ X12 : Int → VT → Prop, (∀ (i3_1 : Int) (v12 : VT), (
    (((v g 1) ≤ i3_1) →
      K91 v12) ∧
    ((i3_1 < (v g 1)) →
      (0 ≤ i3_1 ∧ i3_1 < 60) ∧
      ∀ l4 : Int, l4 = (v12 (g + 2) i3_1.toNat) →
      (0 ≤ i3_1 ∧ i3_1 < 60) ∧
      ∀ l5 : Int, l5 = (v12 (g + 3) i3_1.toNat) →
      ((l4 = x1) →
        (-2147483648 ≤ i3_1 + 1 ∧ i3_1 + 1 ≤ 2147483647) ∧
        X12 (i3_1 + 1) v12) ∧
      ((¬ l4 = x1) →
        ((l5 = x1) →
          (-2147483648 ≤ i3_1 + 1 ∧ i3_1 + 1 ≤ 2147483647) ∧
          X12 (i3_1 + 1) v12) ∧
        ((¬ l5 = x1) →
          ∀ K61 : Int → Prop, (∀ (s0 : Int), (
            ((l5 ≤ x1) →
              (0 ≤ i3_1 ∧ i3_1 < 60) ∧
              P_X0_addLine g s0 l5 (v12 (g + 4) i3_1.toNat) v12 (fun v82 =>
                (-2147483648 ≤ i3_1 + 1 ∧ i3_1 + 1 ≤ 2147483647) ∧
                X12 (i3_1 + 1) v82)) ∧
            ((x1 < l5) →
              (-2147483648 ≤ l5 - 1 ∧ l5 - 1 ≤ 2147483647) ∧
              (0 ≤ i3_1 ∧ i3_1 < 60) ∧
              P_X0_addLine g s0 (l5 - 1) (v12 (g + 4) i3_1.toNat) v12 (fun v82_1 =>
                (-2147483648 ≤ i3_1 + 1 ∧ i3_1 + 1 ≤ 2147483647) ∧
                X12 (i3_1 + 1) v82_1))) → K61 s0) →
          ((l4 ≤ x1) →
            K61 l4) ∧
          ((x1 < l4) →
            (-2147483648 ≤ l4 - 1 ∧ l4 - 1 ≤ 2147483647) ∧
            K61 (l4 - 1)))))) → X12 i3_1 v12) →
  X12 0 v7

def P_X0_merge (g : Nat) (v : VT) (q : VT → Prop) : Prop :=
  ∀ K47 : Int → VT → Prop, (∀ (i2 : Int) (v47 : VT), (
    ∀ v49 : VT, v49 = upd2 v47 g 0 i2 →
    ∀ v59 : VT, v59 = upd2 v49 g 1 0 →
    ∀ X65 : Int → VT → Prop, (∀ (i4 : Int) (v65 : VT), (
      (((v49 g 1) ≤ i4) →
        q v65) ∧
      ((i4 < (v49 g 1)) →
        (0 ≤ i4 ∧ i4 < 60) ∧
        (0 ≤ (v65 (g + 2) i4.toNat) ∧ (v65 (g + 2) i4.toNat) < 24) ∧
        (0 ≤ (v65 195 (v65 (g + 2) i4.toNat).toNat) ∧ (v65 195 (v65 (g + 2) i4.toNat).toNat) < 24) ∧
        ∀ l5 : Int, l5 = (v65 (g + 5) (v65 195 (v65 (g + 2) i4.toNat).toNat).toNat) →
        (0 ≤ i4 ∧ i4 < 60) ∧
        (0 ≤ (v65 (g + 3) i4.toNat) ∧ (v65 (g + 3) i4.toNat) < 24) ∧
        (0 ≤ (v65 195 (v65 (g + 3) i4.toNat).toNat) ∧ (v65 195 (v65 (g + 3) i4.toNat).toNat) < 24) ∧
        ∀ l6 : Int, l6 = (v65 (g + 5) (v65 195 (v65 (g + 3) i4.toNat).toNat).toNat) →
        ((l5 = l6) →
          (-2147483648 ≤ i4 + 1 ∧ i4 + 1 ≤ 2147483647) ∧
          X65 (i4 + 1) v65) ∧
        ((¬ l5 = l6) →
          P_X0_findLine g l5 l6 v65 (fun r115 =>
            ((¬ r115 = (-1)) →
              (-2147483648 ≤ i4 + 1 ∧ i4 + 1 ≤ 2147483647) ∧
              X65 (i4 + 1) v65) ∧
            ((r115 = (-1)) →
              (0 ≤ i4 ∧ i4 < 60) ∧
              P_X0_addLine g l5 l6 (v65 (g + 4) i4.toNat) v65 (fun v134 =>
                (-2147483648 ≤ i4 + 1 ∧ i4 + 1 ≤ 2147483647) ∧
                X65 (i4 + 1) v134)))))) → X65 i4 v65) →
    X65 0 v59) → K47 i2 v47) →
  ∀ X4 : Int → Int → VT → Prop, (∀ (i2_1 : Int) (i3 : Int) (v4 : VT), (
    (((v4 g 0) ≤ i3) →
      K47 i2_1 v4) ∧
    ((i3 < (v4 g 0)) →
      (0 ≤ i3 ∧ i3 < 24) ∧
      ((¬ (v4 195 i3.toNat) = i3) →
        (-2147483648 ≤ i3 + 1 ∧ i3 + 1 ≤ 2147483647) ∧
        X4 i2_1 (i3 + 1) v4) ∧
      (((v4 195 i3.toNat) = i3) →
        (0 ≤ i3 ∧ i3 < 24) ∧
        ∀ v25 : VT, v25 = upd2 v4 (g + 5) i3.toNat i2_1 →
        (0 ≤ i3 ∧ i3 < 24) ∧
        (0 ≤ i2_1 ∧ i2_1 < 24) ∧
        ∀ v37 : VT, v37 = upd2 v25 (g + 1) i2_1.toNat (v25 (g + 1) i3.toNat) →
        (-2147483648 ≤ i2_1 + 1 ∧ i2_1 + 1 ≤ 2147483647) ∧
        (-2147483648 ≤ i3 + 1 ∧ i3 + 1 ≤ 2147483647) ∧
        X4 (i2_1 + 1) (i3 + 1) v37))) → X4 i2_1 i3 v4) →
  X4 0 0 v

def P_X10_allBits (x0 : Int) (v : VT) (q : Int → Prop) : Prop :=
  (-2147483648 ≤ (i_shl 1 x0) - 1 ∧ (i_shl 1 x0) - 1 ≤ 2147483647) ∧
  q ((i_shl 1 x0) - 1)

def P_J6_bitCount_0f7a4 (x0 : Int) (v : VT) (q : Int → Prop) : Prop :=
  (-2147483648 ≤ x0 - (i_and (i_ushr x0 1) 1431655765) ∧ x0 - (i_and (i_ushr x0 1) 1431655765) ≤ 2147483647) ∧
  ∀ l0 : Int, l0 = (x0 - (i_and (i_ushr x0 1) 1431655765)) →
  (-2147483648 ≤ (i_and l0 858993459) + (i_and (i_ushr l0 2) 858993459) ∧ (i_and l0 858993459) + (i_and (i_ushr l0 2) 858993459) ≤ 2147483647) ∧
  ∀ l0_1 : Int, l0_1 = ((i_and l0 858993459) + (i_and (i_ushr l0 2) 858993459)) →
  (-2147483648 ≤ l0_1 + (i_ushr l0_1 4) ∧ l0_1 + (i_ushr l0_1 4) ≤ 2147483647) ∧
  ∀ l0_2 : Int, l0_2 = (i_and (l0_1 + (i_ushr l0_1 4)) 252645135) →
  (-2147483648 ≤ l0_2 + (i_ushr l0_2 8) ∧ l0_2 + (i_ushr l0_2 8) ≤ 2147483647) ∧
  ∀ l0_3 : Int, l0_3 = (l0_2 + (i_ushr l0_2 8)) →
  (-2147483648 ≤ l0_3 + (i_ushr l0_3 16) ∧ l0_3 + (i_ushr l0_3 16) ≤ 2147483647) ∧
  ∀ l0_4 : Int, l0_4 = (l0_3 + (i_ushr l0_3 16)) →
  q (i_and l0_4 63)

def P_X0_canOpen (g : Nat) (x1 : Int) (x2 : Int) (v : VT) (q : Int → Prop) : Prop :=
  P_X10_allBits (v g 0) v (fun r11 =>
    ((¬ (i_or x1 x2) = r11) →
      q 0) ∧
    (((i_or x1 x2) = r11) →
      ((¬ (i_and x1 x2) = 0) →
        P_J6_bitCount_0f7a4 (i_and x1 x2) v (fun r24 =>
          ∀ K104 : Int → Prop, (∀ (i5 : Int), (
            (-2147483648 ≤ (v g 0) + r24 ∧ (v g 0) + r24 ≤ 2147483647) ∧
            ((24 < ((v g 0) + r24)) →
              q 0) ∧
            ((((v g 0) + r24) ≤ 24) →
              (-2147483648 ≤ (v g 1) + i5 ∧ (v g 1) + i5 ≤ 2147483647) ∧
              ((60 < ((v g 1) + i5)) →
                q 0) ∧
              ((((v g 1) + i5) ≤ 60) →
                q 1))) → K104 i5) →
          ∀ X36 : Int → Int → Prop, (∀ (i5_1 : Int) (i6 : Int), (
            (((v g 1) ≤ i6) →
              K104 i5_1) ∧
            ((i6 < (v g 1)) →
              (0 ≤ i6 ∧ i6 < 60) ∧
              (0 ≤ i6 ∧ i6 < 60) ∧
              ∀ l7 : Int, l7 = (i_or (i_shl 1 (v (g + 2) i6.toNat)) (i_shl 1 (v (g + 3) i6.toNat))) →
              (((i_and l7 x1) = l7) →
                ((¬ (i_and l7 (i_and x1 x2)) = l7) →
                  (-2147483648 ≤ i6 + 1 ∧ i6 + 1 ≤ 2147483647) ∧
                  X36 i5_1 (i6 + 1)) ∧
                (((i_and l7 (i_and x1 x2)) = l7) →
                  (-2147483648 ≤ i5_1 + 1 ∧ i5_1 + 1 ≤ 2147483647) ∧
                  (-2147483648 ≤ i6 + 1 ∧ i6 + 1 ≤ 2147483647) ∧
                  X36 (i5_1 + 1) (i6 + 1))) ∧
              ((¬ (i_and l7 x1) = l7) →
                (((i_and l7 x2) = l7) →
                  ((¬ (i_and l7 (i_and x1 x2)) = l7) →
                    (-2147483648 ≤ i6 + 1 ∧ i6 + 1 ≤ 2147483647) ∧
                    X36 i5_1 (i6 + 1)) ∧
                  (((i_and l7 (i_and x1 x2)) = l7) →
                    (-2147483648 ≤ i5_1 + 1 ∧ i5_1 + 1 ≤ 2147483647) ∧
                    (-2147483648 ≤ i6 + 1 ∧ i6 + 1 ≤ 2147483647) ∧
                    X36 (i5_1 + 1) (i6 + 1))) ∧
                ((¬ (i_and l7 x2) = l7) →
                  q 0)))) → X36 i5_1 i6) →
          X36 r24 0)) ∧
      (((i_and x1 x2) = 0) →
        q 0)))

def P_X10_hasBit (x0 : Int) (x1 : Int) (v : VT) (q : Int → Prop) : Prop :=
  (((i_and (i_shr x0 x1) 1) = 0) →
    q 0) ∧
  ((¬ (i_and (i_shr x0 x1) 1) = 0) →
    q 1)

def P_X0_moveToSecond (g : Nat) (x1 : Int) (x2 : Int) (x3 : Int) (v : VT) (q : VT → Prop) : Prop :=
  (0 ≤ x1 ∧ x1 < 60) ∧
  ∀ l4 : Int, l4 = (v (g + 2) x1.toNat) →
  (0 ≤ x1 ∧ x1 < 60) ∧
  ∀ l5 : Int, l5 = (v (g + 3) x1.toNat) →
  P_X10_hasBit x2 l4 v (fun r19 =>
    ∀ K58 : Prop, ((
      P_X10_hasBit x2 l5 v (fun r61 =>
        ((r61 = 0) →
          q v) ∧
        ((¬ r61 = 0) →
          P_X10_hasBit x3 l4 v (fun r70 =>
            ((r70 = 0) →
              q v) ∧
            ((¬ r70 = 0) →
              (0 ≤ l5 ∧ l5 < 24) ∧
              (0 ≤ x1 ∧ x1 < 60) ∧
              ∀ v88 : VT, v88 = upd2 v (g + 3) x1.toNat (v (g + 5) l5.toNat) →
              q v88))))) → K58) →
    ((r19 = 0) →
      K58) ∧
    ((¬ r19 = 0) →
      P_X10_hasBit x3 l5 v (fun r28 =>
        ((r28 = 0) →
          K58) ∧
        ((¬ r28 = 0) →
          (0 ≤ x1 ∧ x1 < 60) ∧
          ∀ v41 : VT, v41 = upd2 v (g + 2) x1.toNat l5 →
          (0 ≤ l4 ∧ l4 < 24) ∧
          (0 ≤ x1 ∧ x1 < 60) ∧
          ∀ v54 : VT, v54 = upd2 v41 (g + 3) x1.toNat (v41 (g + 5) l4.toNat) →
          q v54))))

def P_X0_doubleAlong (g : Nat) (x1 : Int) (x2 : Int) (v : VT) (q : VT → Prop) : Prop :=
  ∀ K57 : VT → Prop, (∀ (v57 : VT), (
    ∀ K136 : VT → Prop, (∀ (v136 : VT), (
      ∀ K164 : VT → Prop, (∀ (v164 : VT), (
        ∀ X167 : Int → VT → Prop, (∀ (i6 : Int) (v167 : VT), (
          (((v g 0) ≤ i6) →
            q v167) ∧
          ((i6 < (v g 0)) →
            P_X10_hasBit (i_and x1 x2) i6 v167 (fun r177 =>
              ((r177 = 0) →
                (-2147483648 ≤ i6 + 1 ∧ i6 + 1 ≤ 2147483647) ∧
                X167 (i6 + 1) v167) ∧
              ((¬ r177 = 0) →
                (0 ≤ i6 ∧ i6 < 24) ∧
                P_X0_addLine g i6 (v167 (g + 5) i6.toNat) 1 v167 (fun v194 =>
                  (-2147483648 ≤ i6 + 1 ∧ i6 + 1 ≤ 2147483647) ∧
                  X167 (i6 + 1) v194))))) → X167 i6 v167) →
        X167 0 v164) → K164 v164) →
      ∀ X139 : Int → VT → Prop, (∀ (i6_1 : Int) (v139 : VT), (
        (((v g 1) ≤ i6_1) →
          K164 v139) ∧
        ((i6_1 < (v g 1)) →
          P_X0_moveToSecond g i6_1 (i_and x1 x2) (i_and x2 (i_xor x1 (-1))) v139 (fun v155 =>
            (-2147483648 ≤ i6_1 + 1 ∧ i6_1 + 1 ≤ 2147483647) ∧
            X139 (i6_1 + 1) v155))) → X139 i6_1 v139) →
      X139 0 v136) → K136 v136) →
    ∀ X60 : Int → VT → Prop, (∀ (i6_2 : Int) (v60 : VT), (
      (((v g 1) ≤ i6_2) →
        K136 v60) ∧
      ((i6_2 < (v g 1)) →
        (0 ≤ i6_2 ∧ i6_2 < 60) ∧
        P_X10_hasBit (i_and x1 x2) (v60 (g + 2) i6_2.toNat) v60 (fun r75 =>
          ((r75 = 0) →
            (-2147483648 ≤ i6_2 + 1 ∧ i6_2 + 1 ≤ 2147483647) ∧
            X60 (i6_2 + 1) v60) ∧
          ((¬ r75 = 0) →
            (0 ≤ i6_2 ∧ i6_2 < 60) ∧
            P_X10_hasBit (i_and x1 x2) (v60 (g + 3) i6_2.toNat) v60 (fun r89 =>
              ((r89 = 0) →
                (-2147483648 ≤ i6_2 + 1 ∧ i6_2 + 1 ≤ 2147483647) ∧
                X60 (i6_2 + 1) v60) ∧
              ((¬ r89 = 0) →
                (0 ≤ i6_2 ∧ i6_2 < 60) ∧
                (0 ≤ (v60 (g + 2) i6_2.toNat) ∧ (v60 (g + 2) i6_2.toNat) < 24) ∧
                (0 ≤ i6_2 ∧ i6_2 < 60) ∧
                (0 ≤ (v60 (g + 3) i6_2.toNat) ∧ (v60 (g + 3) i6_2.toNat) < 24) ∧
                (0 ≤ i6_2 ∧ i6_2 < 60) ∧
                P_X0_addLine g (v60 (g + 5) (v60 (g + 2) i6_2.toNat).toNat) (v60 (g + 5) (v60 (g + 3) i6_2.toNat).toNat) (v60 (g + 4) i6_2.toNat) v60 (fun v127 =>
                  (-2147483648 ≤ i6_2 + 1 ∧ i6_2 + 1 ≤ 2147483647) ∧
                  X60 (i6_2 + 1) v127))))))) → X60 i6_2 v60) →
    X60 0 v57) → K57 v57) →
  ∀ X19 : Int → VT → Prop, (∀ (i6_3 : Int) (v19 : VT), (
    (((v g 0) ≤ i6_3) →
      K57 v19) ∧
    ((i6_3 < (v g 0)) →
      P_X10_hasBit (i_and x1 x2) i6_3 v19 (fun r29 =>
        ((r29 = 0) →
          (-2147483648 ≤ i6_3 + 1 ∧ i6_3 + 1 ≤ 2147483647) ∧
          X19 (i6_3 + 1) v19) ∧
        ((¬ r29 = 0) →
          (0 ≤ i6_3 ∧ i6_3 < 24) ∧
          ∀ v45 : VT, v45 = upd2 v19 (g + 5) i6_3.toNat (v19 g 0) →
          P_X0_addNode g 0 v45 (fun v48 =>
            (-2147483648 ≤ i6_3 + 1 ∧ i6_3 + 1 ≤ 2147483647) ∧
            X19 (i6_3 + 1) v48))))) → X19 i6_3 v19) →
  X19 0 v

def P_X2_areAlike (x2 : Int) (x3 : Int) (v : VT) (q : Int → Prop) : Prop :=
  (0 ≤ x2 ∧ x2 < 60) ∧
  (0 ≤ (v 12 x2.toNat) ∧ (v 12 x2.toNat) < 24) ∧
  (0 ≤ x2 ∧ x2 < 60) ∧
  (0 ≤ (v 13 x2.toNat) ∧ (v 13 x2.toNat) < 24) ∧
  (0 ≤ x3 ∧ x3 < 60) ∧
  ∀ l6 : Int, l6 = (v 12 x3.toNat) →
  (0 ≤ x3 ∧ x3 < 60) ∧
  ∀ l7 : Int, l7 = (v 13 x3.toNat) →
  (0 ≤ l6 ∧ l6 < 24) ∧
  ((¬ (v (141 + (v 12 x2.toNat).toNat) l6.toNat) = (-1)) →
    (0 ≤ l6 ∧ l6 < 24) ∧
    (0 ≤ l7 ∧ l7 < 24) ∧
    (-2147483648 ≤ (v (141 + (v 12 x2.toNat).toNat) l6.toNat) + (v (141 + (v 13 x2.toNat).toNat) l7.toNat) ∧ (v (141 + (v 12 x2.toNat).toNat) l6.toNat) + (v (141 + (v 13 x2.toNat).toNat) l7.toNat) ≤ 2147483647) ∧
    (0 ≤ l7 ∧ l7 < 24) ∧
    (0 ≤ l6 ∧ l6 < 24) ∧
    (-2147483648 ≤ (v (141 + (v 12 x2.toNat).toNat) l7.toNat) + (v (141 + (v 13 x2.toNat).toNat) l6.toNat) ∧ (v (141 + (v 12 x2.toNat).toNat) l7.toNat) + (v (141 + (v 13 x2.toNat).toNat) l6.toNat) ≤ 2147483647) ∧
    ((((v (141 + (v 12 x2.toNat).toNat) l6.toNat) + (v (141 + (v 13 x2.toNat).toNat) l7.toNat)) = ((v (141 + (v 12 x2.toNat).toNat) l7.toNat) + (v (141 + (v 13 x2.toNat).toNat) l6.toNat))) →
      q 0) ∧
    ((¬ ((v (141 + (v 12 x2.toNat).toNat) l6.toNat) + (v (141 + (v 13 x2.toNat).toNat) l7.toNat)) = ((v (141 + (v 12 x2.toNat).toNat) l7.toNat) + (v (141 + (v 13 x2.toNat).toNat) l6.toNat))) →
      q 1)) ∧
  (((v (141 + (v 12 x2.toNat).toNat) l6.toNat) = (-1)) →
    q 0)

def P_X1_collectFrom (x3 : Int) (v : VT) (q : VT → Prop) : Prop :=
  (0 ≤ x3 ∧ x3 < 60) ∧
  ∀ v9 : VT, v9 = upd2 v 192 x3.toNat (v 191 1) →
  ∀ v16 : VT, v16 = upd2 v9 196 0 x3 →
  ∀ K114 : Int → VT → Prop, (∀ (i4 : Int) (v114 : VT), (
    (0 ≤ (v114 191 1) ∧ (v114 191 1) < 60) ∧
    ∀ v123 : VT, v123 = upd2 v114 194 (v114 191 1).toNat x3 →
    (0 ≤ (v123 191 1) ∧ (v123 191 1) < 60) ∧
    ∀ v134 : VT, v134 = upd2 v123 193 (v123 191 1).toNat i4 →
    (-2147483648 ≤ (v134 191 1) + 1 ∧ (v134 191 1) + 1 ≤ 2147483647) ∧
    ∀ v142 : VT, v142 = upd2 v134 191 1 ((v134 191 1) + 1) →
    q v142) → K114 i4 v114) →
  ∀ X23 : Int → Int → VT → Prop, (∀ (i4_1 : Int) (i5 : Int) (v23 : VT), (
    ((i4_1 ≤ i5) →
      K114 i4_1 v23) ∧
    ((i5 < i4_1) →
      ((60 ≤ i5) →
        K114 i4_1 v23) ∧
      ((i5 < 60) →
        (-2147483648 ≤ x3 + 1 ∧ x3 + 1 ≤ 2147483647) ∧
        ∀ X42 : Int → Int → VT → Prop, (∀ (i4_2 : Int) (i6 : Int) (v42 : VT), (
          (((v42 10 1) ≤ i6) →
            (-2147483648 ≤ i5 + 1 ∧ i5 + 1 ≤ 2147483647) ∧
            X23 i4_2 (i5 + 1) v42) ∧
          ((i6 < (v42 10 1)) →
            (0 ≤ i6 ∧ i6 < 60) ∧
            ((¬ (v42 192 i6.toNat) = (-1)) →
              (-2147483648 ≤ i6 + 1 ∧ i6 + 1 ≤ 2147483647) ∧
              X42 i4_2 (i6 + 1) v42) ∧
            (((v42 192 i6.toNat) = (-1)) →
              (0 ≤ i5 ∧ i5 < 60) ∧
              P_X2_areAlike (v42 196 i5.toNat) i6 v42 (fun r73 =>
                ((r73 = 0) →
                  (-2147483648 ≤ i6 + 1 ∧ i6 + 1 ≤ 2147483647) ∧
                  X42 i4_2 (i6 + 1) v42) ∧
                ((¬ r73 = 0) →
                  (0 ≤ i6 ∧ i6 < 60) ∧
                  ∀ v89 : VT, v89 = upd2 v42 192 i6.toNat (v42 191 1) →
                  (0 ≤ i4_2 ∧ i4_2 < 60) ∧
                  ∀ v98 : VT, v98 = upd2 v89 196 i4_2.toNat i6 →
                  (-2147483648 ≤ i4_2 + 1 ∧ i4_2 + 1 ≤ 2147483647) ∧
                  (-2147483648 ≤ i6 + 1 ∧ i6 + 1 ≤ 2147483647) ∧
                  X42 (i4_2 + 1) (i6 + 1) v98))))) → X42 i4_2 i6 v42) →
        X42 i4_1 (x3 + 1) v23))) → X23 i4_1 i5 v23) →
  X23 1 0 v16

def P_X1_collect  (v : VT) (q : VT → Prop) : Prop :=
  ∀ v2 : VT, v2 = upd2 v 191 1 0 →
  ∀ K28 : VT → Prop, (∀ (v28 : VT), (
    ∀ X30 : Int → VT → Prop, (∀ (i3 : Int) (v30 : VT), (
      (((v30 10 1) ≤ i3) →
        ∀ v63 : VT, v63 = upd2 v30 191 0 1 →
        q v63) ∧
      ((i3 < (v30 10 1)) →
        (0 ≤ i3 ∧ i3 < 60) ∧
        ((¬ (v30 192 i3.toNat) = (-1)) →
          (-2147483648 ≤ i3 + 1 ∧ i3 + 1 ≤ 2147483647) ∧
          X30 (i3 + 1) v30) ∧
        (((v30 192 i3.toNat) = (-1)) →
          P_X1_collectFrom i3 v30 (fun v52 =>
            (-2147483648 ≤ i3 + 1 ∧ i3 + 1 ≤ 2147483647) ∧
            X30 (i3 + 1) v52)))) → X30 i3 v30) →
    X30 0 v28) → K28 v28) →
  ∀ X7 : Int → VT → Prop, (∀ (i3_1 : Int) (v7 : VT), (
    (((v7 10 1) ≤ i3_1) →
      K28 v7) ∧
    ((i3_1 < (v7 10 1)) →
      (0 ≤ i3_1 ∧ i3_1 < 60) ∧
      ∀ v21 : VT, v21 = upd2 v7 192 i3_1.toNat (-1) →
      (-2147483648 ≤ i3_1 + 1 ∧ i3_1 + 1 ≤ 2147483647) ∧
      X7 (i3_1 + 1) v21)) → X7 i3_1 v7) →
  X7 0 v2

def P_X1_isFair  (v : VT) (q : Int → Prop) : Prop :=
  ∀ X2 : Int → Prop, (∀ (i2 : Int), (
    (((v 10 1) ≤ i2) →
      q 1) ∧
    ((i2 < (v 10 1)) →
      (0 ≤ i2 ∧ i2 < 60) ∧
      (0 ≤ i2 ∧ i2 < 60) ∧
      (0 ≤ (v 192 i2.toNat) ∧ (v 192 i2.toNat) < 60) ∧
      (0 ≤ (v 194 (v 192 i2.toNat).toNat) ∧ (v 194 (v 192 i2.toNat).toNat) < 60) ∧
      (((v 14 i2.toNat) = (v 14 (v 194 (v 192 i2.toNat).toNat).toNat)) →
        (-2147483648 ≤ i2 + 1 ∧ i2 + 1 ≤ 2147483647) ∧
        X2 (i2 + 1)) ∧
      ((¬ (v 14 i2.toNat) = (v 14 (v 194 (v 192 i2.toNat).toNat).toNat)) →
        q 0))) → X2 i2) →
  X2 0

def P_X1_unite (x1 : Int) (x2 : Int) (x3 : Int) (v : VT) (q : VT → Prop) : Prop :=
  ∀ X17 : Int → VT → Prop, (∀ (i6 : Int) (v17 : VT), (
    ((x1 ≤ i6) →
      q v17) ∧
    ((i6 < x1) →
      (0 ≤ i6 ∧ i6 < 24) ∧
      ((¬ (v17 195 i6.toNat) = (max x2 x3)) →
        (-2147483648 ≤ i6 + 1 ∧ i6 + 1 ≤ 2147483647) ∧
        X17 (i6 + 1) v17) ∧
      (((v17 195 i6.toNat) = (max x2 x3)) →
        (0 ≤ i6 ∧ i6 < 24) ∧
        ∀ v43 : VT, v43 = upd2 v17 195 i6.toNat (min x2 x3) →
        (-2147483648 ≤ i6 + 1 ∧ i6 + 1 ≤ 2147483647) ∧
        X17 (i6 + 1) v43))) → X17 i6 v17) →
  X17 0 v

def P_X1_gather (x2 : Int) (v : VT) (q : VT → Prop) : Prop :=
  ∀ K23 : VT → Prop, (∀ (v23 : VT), (
    ∀ X25 : Int → VT → Prop, (∀ (i3 : Int) (v25 : VT), (
      (((v25 10 1) ≤ i3) →
        q v25) ∧
      ((i3 < (v25 10 1)) →
        (0 ≤ i3 ∧ i3 < 60) ∧
        ((¬ (v25 192 i3.toNat) = x2) →
          (-2147483648 ≤ i3 + 1 ∧ i3 + 1 ≤ 2147483647) ∧
          X25 (i3 + 1) v25) ∧
        (((v25 192 i3.toNat) = x2) →
          (0 ≤ i3 ∧ i3 < 60) ∧
          (0 ≤ (v25 12 i3.toNat) ∧ (v25 12 i3.toNat) < 24) ∧
          (0 ≤ i3 ∧ i3 < 60) ∧
          (0 ≤ (v25 13 i3.toNat) ∧ (v25 13 i3.toNat) < 24) ∧
          P_X1_unite (v25 10 0) (v25 195 (v25 12 i3.toNat).toNat) (v25 195 (v25 13 i3.toNat).toNat) v25 (fun v70 =>
            (-2147483648 ≤ i3 + 1 ∧ i3 + 1 ≤ 2147483647) ∧
            X25 (i3 + 1) v70)))) → X25 i3 v25) →
    X25 0 v23) → K23 v23) →
  ∀ X2 : Int → VT → Prop, (∀ (i3_1 : Int) (v2 : VT), (
    (((v2 10 0) ≤ i3_1) →
      K23 v2) ∧
    ((i3_1 < (v2 10 0)) →
      (0 ≤ i3_1 ∧ i3_1 < 24) ∧
      ∀ v16 : VT, v16 = upd2 v2 195 i3_1.toNat i3_1 →
      (-2147483648 ≤ i3_1 + 1 ∧ i3_1 + 1 ≤ 2147483647) ∧
      X2 (i3_1 + 1) v16)) → X2 i3_1 v2) →
  X2 0 v

def P_X2_measureFrom (x1 : Int) (v : VT) (q : VT → Prop) : Prop :=
  (0 ≤ x1 ∧ x1 < 24) ∧
  ∀ K27 : VT → Prop, (∀ (v27 : VT), (
    ∀ K119 : Int → VT → Prop, (∀ (i3 : Int) (v119 : VT), (
      (((v119 138 1) = 0) →
        ∀ v143 : VT, v143 = upd2 v119 138 1 0 →
        q v143) ∧
      ((¬ (v119 138 1) = 0) →
        P_X10_allBits (v119 138 2) v119 (fun r132 =>
          ((¬ i3 = r132) →
            ∀ v143_1 : VT, v143_1 = upd2 v119 138 1 0 →
            q v143_1) ∧
          ((i3 = r132) →
            ∀ v143_2 : VT, v143_2 = upd2 v119 138 1 1 →
            q v143_2)))) → K119 i3 v119) →
    ∀ X37 : Int → Int → Int → VT → Prop, (∀ (i3_1 : Int) (i4 : Int) (i5 : Int) (v37 : VT), (
      (((v37 138 2) ≤ i5) →
        K119 i3_1 v37) ∧
      ((i5 < (v37 138 2)) →
        ((i4 = 0) →
          K119 i3_1 v37) ∧
        ((¬ i4 = 0) →
          ∀ K100 : Int → VT → Prop, (∀ (i6 : Int) (v100 : VT), (
            ∀ l4 : Int, l4 = (i_and i6 (i_xor i3_1 (-1))) →
            (-2147483648 ≤ i5 + 1 ∧ i5 + 1 ≤ 2147483647) ∧
            X37 (i_or i3_1 l4) l4 (i5 + 1) v100) → K100 i6 v100) →
          ∀ X57 : Int → Int → VT → Prop, (∀ (i6_1 : Int) (i7 : Int) (v57 : VT), (
            (((v57 138 2) ≤ i7) →
              K100 i6_1 v57) ∧
            ((i7 < (v57 138 2)) →
              P_X10_hasBit i4 i7 v57 (fun r70 =>
                ((r70 = 0) →
                  (-2147483648 ≤ i7 + 1 ∧ i7 + 1 ≤ 2147483647) ∧
                  X57 i6_1 (i7 + 1) v57) ∧
                ((¬ r70 = 0) →
                  (0 ≤ i7 ∧ i7 < 24) ∧
                  ∀ v81 : VT, v81 = upd2 v57 (141 + x1.toNat) i7.toNat i5 →
                  (0 ≤ i7 ∧ i7 < 24) ∧
                  ∀ l6 : Int, l6 = (i_or i6_1 (v81 139 i7.toNat)) →
                  (-2147483648 ≤ i7 + 1 ∧ i7 + 1 ≤ 2147483647) ∧
                  X57 l6 (i7 + 1) v81)))) → X57 i6_1 i7 v57) →
          X57 0 0 v37))) → X37 i3_1 i4 i5 v37) →
    X37 (i_shl 1 x1) (i_shl 1 x1) 0 v27) → K27 v27) →
  ∀ X9 : Int → VT → Prop, (∀ (i3_2 : Int) (v9 : VT), (
    (((v9 138 2) ≤ i3_2) →
      K27 v9) ∧
    ((i3_2 < (v9 138 2)) →
      (0 ≤ i3_2 ∧ i3_2 < 24) ∧
      ∀ v20 : VT, v20 = upd2 v9 (141 + x1.toNat) i3_2.toNat (-1) →
      (-2147483648 ≤ i3_2 + 1 ∧ i3_2 + 1 ≤ 2147483647) ∧
      X9 (i3_2 + 1) v20)) → X9 i3_2 v9) →
  X9 0 v

def P_X2_measure  (v : VT) (q : VT → Prop) : Prop :=
  ∀ v5 : VT, v5 = upd2 v 138 2 (v 10 0) →
  ∀ v10 : VT, v10 = upd2 v5 138 1 1 →
  ∀ v15 : VT, v15 = upd2 v10 138 6 0 →
  ∀ K41 : VT → Prop, (∀ (v41 : VT), (
    ∀ K101 : VT → Prop, (∀ (v101 : VT), (
      ∀ X103 : Int → VT → Prop, (∀ (i2 : Int) (v103 : VT), (
        (((v103 138 2) ≤ i2) →
          ∀ v124 : VT, v124 = upd2 v103 138 0 1 →
          q v124) ∧
        ((i2 < (v103 138 2)) →
          P_X2_measureFrom i2 v103 (fun v113 =>
            (-2147483648 ≤ i2 + 1 ∧ i2 + 1 ≤ 2147483647) ∧
            X103 (i2 + 1) v113))) → X103 i2 v103) →
      X103 0 v101) → K101 v101) →
    ∀ X43 : Int → VT → Prop, (∀ (i2_1 : Int) (v43 : VT), (
      (((v43 10 1) ≤ i2_1) →
        K101 v43) ∧
      ((i2_1 < (v43 10 1)) →
        (0 ≤ i2_1 ∧ i2_1 < 60) ∧
        (0 ≤ (v43 12 i2_1.toNat) ∧ (v43 12 i2_1.toNat) < 24) ∧
        (0 ≤ i2_1 ∧ i2_1 < 60) ∧
        (0 ≤ (v43 12 i2_1.toNat) ∧ (v43 12 i2_1.toNat) < 24) ∧
        ∀ v72 : VT, v72 = upd2 v43 139 (v43 12 i2_1.toNat).toNat (i_or (v43 139 (v43 12 i2_1.toNat).toNat) (i_shl 1 (v43 13 i2_1.toNat))) →
        (0 ≤ i2_1 ∧ i2_1 < 60) ∧
        (0 ≤ (v72 13 i2_1.toNat) ∧ (v72 13 i2_1.toNat) < 24) ∧
        (0 ≤ i2_1 ∧ i2_1 < 60) ∧
        (0 ≤ (v72 13 i2_1.toNat) ∧ (v72 13 i2_1.toNat) < 24) ∧
        ∀ v94 : VT, v94 = upd2 v72 139 (v72 13 i2_1.toNat).toNat (i_or (v72 139 (v72 13 i2_1.toNat).toNat) (i_shl 1 (v72 12 i2_1.toNat))) →
        (-2147483648 ≤ i2_1 + 1 ∧ i2_1 + 1 ≤ 2147483647) ∧
        X43 (i2_1 + 1) v94)) → X43 i2_1 v43) →
    X43 0 v41) → K41 v41) →
  ∀ X20 : Int → VT → Prop, (∀ (i2_2 : Int) (v20 : VT), (
    (((v20 138 2) ≤ i2_2) →
      K41 v20) ∧
    ((i2_2 < (v20 138 2)) →
      (0 ≤ i2_2 ∧ i2_2 < 24) ∧
      ∀ v34 : VT, v34 = upd2 v20 139 i2_2.toNat 0 →
      (-2147483648 ≤ i2_2 + 1 ∧ i2_2 + 1 ≤ 2147483647) ∧
      X20 (i2_2 + 1) v34)) → X20 i2_2 v20) →
  X20 0 v15

def P_X2_countInto (x1 : Int) (x2 : Int) (v : VT) (q : Int → Prop) : Prop :=
  ∀ X5 : Int → Int → Prop, (∀ (i3 : Int) (i5 : Int), (
    (((v 138 2) ≤ i5) →
      q (min i3 1000000000)) ∧
    ((i5 < (v 138 2)) →
      (0 ≤ x2 ∧ x2 < 24) ∧
      P_X10_hasBit (v 139 x2.toNat) i5 v (fun r22 =>
        ((r22 = 0) →
          (-2147483648 ≤ i5 + 1 ∧ i5 + 1 ≤ 2147483647) ∧
          X5 i3 (i5 + 1)) ∧
        ((¬ r22 = 0) →
          (0 ≤ x1 ∧ x1 < 24) ∧
          (0 ≤ i5 ∧ i5 < 24) ∧
          (0 ≤ x1 ∧ x1 < 24) ∧
          (0 ≤ x2 ∧ x2 < 24) ∧
          (-2147483648 ≤ (v (141 + x1.toNat) x2.toNat) - 1 ∧ (v (141 + x1.toNat) x2.toNat) - 1 ≤ 2147483647) ∧
          ((¬ (v (141 + x1.toNat) i5.toNat) = ((v (141 + x1.toNat) x2.toNat) - 1)) →
            (-2147483648 ≤ i5 + 1 ∧ i5 + 1 ≤ 2147483647) ∧
            X5 i3 (i5 + 1)) ∧
          (((v (141 + x1.toNat) i5.toNat) = ((v (141 + x1.toNat) x2.toNat) - 1)) →
            (0 ≤ i5 ∧ i5 < 24) ∧
            (-9223372036854775808 ≤ i3 + (v 190 i5.toNat) ∧ i3 + (v 190 i5.toNat) ≤ 9223372036854775807) ∧
            ∀ l3 : Int, l3 = (i3 + (v 190 i5.toNat)) →
            (-2147483648 ≤ i5 + 1 ∧ i5 + 1 ≤ 2147483647) ∧
            X5 l3 (i5 + 1)))))) → X5 i3 i5) →
  X5 0 0

def P_X2_countWays (x1 : Int) (x2 : Int) (v : VT) (q : Int → VT → Prop) : Prop :=
  (0 ≤ x1 ∧ x1 < 24) ∧
  (0 ≤ x2 ∧ x2 < 24) ∧
  ((¬ (v (141 + x1.toNat) x2.toNat) = (-1)) →
    ∀ X16 : Int → VT → Prop, (∀ (i3 : Int) (v16 : VT), (
      (0 ≤ x1 ∧ x1 < 24) ∧
      (0 ≤ x2 ∧ x2 < 24) ∧
      (((v16 (141 + x1.toNat) x2.toNat) < i3) →
        (0 ≤ x2 ∧ x2 < 24) ∧
        (-2147483648 ≤ (v16 190 x2.toNat) ∧ (v16 190 x2.toNat) ≤ 2147483647) ∧
        q (v16 190 x2.toNat) v16) ∧
      ((i3 ≤ (v16 (141 + x1.toNat) x2.toNat)) →
        ∀ X31 : Int → VT → Prop, (∀ (i4 : Int) (v31 : VT), (
          (((v31 138 2) ≤ i4) →
            (-2147483648 ≤ i3 + 1 ∧ i3 + 1 ≤ 2147483647) ∧
            X16 (i3 + 1) v31) ∧
          ((i4 < (v31 138 2)) →
            (0 ≤ x1 ∧ x1 < 24) ∧
            (0 ≤ i4 ∧ i4 < 24) ∧
            ((¬ (v31 (141 + x1.toNat) i4.toNat) = i3) →
              (-2147483648 ≤ i4 + 1 ∧ i4 + 1 ≤ 2147483647) ∧
              X31 (i4 + 1) v31) ∧
            (((v31 (141 + x1.toNat) i4.toNat) = i3) →
              ((¬ i3 = 0) →
                P_X2_countInto x1 i4 v31 (fun r71 =>
                  (0 ≤ i4 ∧ i4 < 24) ∧
                  ∀ v74 : VT, v74 = upd2 v31 190 i4.toNat r71 →
                  (-2147483648 ≤ i4 + 1 ∧ i4 + 1 ≤ 2147483647) ∧
                  X31 (i4 + 1) v74)) ∧
              ((i3 = 0) →
                (0 ≤ i4 ∧ i4 < 24) ∧
                ∀ v74_1 : VT, v74_1 = upd2 v31 190 i4.toNat 1 →
                (-2147483648 ≤ i4 + 1 ∧ i4 + 1 ≤ 2147483647) ∧
                X31 (i4 + 1) v74_1)))) → X31 i4 v31) →
        X31 0 v16)) → X16 i3 v16) →
    X16 0 v) ∧
  (((v (141 + x1.toNat) x2.toNat) = (-1)) →
    q 0 v)

def P_X2_findAmid (x1 : Int) (x2 : Int) (v : VT) (q : Int → Prop) : Prop :=
  (0 ≤ x1 ∧ x1 < 24) ∧
  (0 ≤ x2 ∧ x2 < 24) ∧
  ∀ l3 : Int, l3 = (v (141 + x1.toNat) x2.toNat) →
  ∀ X15 : Int → Int → Prop, (∀ (i4 : Int) (i5 : Int), (
    ((l3 = (-1)) →
      q i4) ∧
    ((¬ l3 = (-1)) →
      (((v 138 2) ≤ i5) →
        q i4) ∧
      ((i5 < (v 138 2)) →
        (0 ≤ x1 ∧ x1 < 24) ∧
        (0 ≤ i5 ∧ i5 < 24) ∧
        (((v (141 + x1.toNat) i5.toNat) = (-1)) →
          (-2147483648 ≤ i5 + 1 ∧ i5 + 1 ≤ 2147483647) ∧
          X15 i4 (i5 + 1)) ∧
        ((¬ (v (141 + x1.toNat) i5.toNat) = (-1)) →
          (0 ≤ x1 ∧ x1 < 24) ∧
          (0 ≤ i5 ∧ i5 < 24) ∧
          (0 ≤ x2 ∧ x2 < 24) ∧
          (0 ≤ i5 ∧ i5 < 24) ∧
          (-2147483648 ≤ (v (141 + x1.toNat) i5.toNat) + (v (141 + x2.toNat) i5.toNat) ∧ (v (141 + x1.toNat) i5.toNat) + (v (141 + x2.toNat) i5.toNat) ≤ 2147483647) ∧
          ((¬ ((v (141 + x1.toNat) i5.toNat) + (v (141 + x2.toNat) i5.toNat)) = l3) →
            (-2147483648 ≤ i5 + 1 ∧ i5 + 1 ≤ 2147483647) ∧
            X15 i4 (i5 + 1)) ∧
          ((((v (141 + x1.toNat) i5.toNat) + (v (141 + x2.toNat) i5.toNat)) = l3) →
            ∀ l4 : Int, l4 = (i_or i4 (i_shl 1 i5)) →
            (-2147483648 ≤ i5 + 1 ∧ i5 + 1 ≤ 2147483647) ∧
            X15 l4 (i5 + 1)))))) → X15 i4 i5) →
  X15 0 0

def P_X2_amid (x1 : Int) (x2 : Int) (v : VT) (q : Int → VT → Prop) : Prop :=
  ((¬ (v 138 6) = 0) →
    (0 ≤ x1 ∧ x1 < 24) ∧
    (0 ≤ x2 ∧ x2 < 24) ∧
    q (v (166 + x1.toNat) x2.toNat) v) ∧
  (((v 138 6) = 0) →
    ∀ K75 : VT → Prop, (∀ (v75 : VT), (
      ∀ v77 : VT, v77 = upd2 v75 138 6 1 →
      (0 ≤ x1 ∧ x1 < 24) ∧
      (0 ≤ x2 ∧ x2 < 24) ∧
      q (v77 (166 + x1.toNat) x2.toNat) v77) → K75 v75) →
    ∀ X9 : Int → VT → Prop, (∀ (i3 : Int) (v9 : VT), (
      (((v9 138 2) ≤ i3) →
        K75 v9) ∧
      ((i3 < (v9 138 2)) →
        ∀ X20 : Int → VT → Prop, (∀ (i4 : Int) (v20 : VT), (
          (((v20 138 2) ≤ i4) →
            (-2147483648 ≤ i3 + 1 ∧ i3 + 1 ≤ 2147483647) ∧
            X9 (i3 + 1) v20) ∧
          ((i4 < (v20 138 2)) →
            (0 ≤ i3 ∧ i3 < 24) ∧
            P_X2_findAmid i3 i4 v20 (fun r41 =>
              (0 ≤ i4 ∧ i4 < 24) ∧
              ∀ v44 : VT, v44 = upd2 v20 (166 + i3.toNat) i4.toNat r41 →
              (0 ≤ i4 ∧ i4 < 24) ∧
              (0 ≤ i3 ∧ i3 < 24) ∧
              (0 ≤ i4 ∧ i4 < 24) ∧
              (0 ≤ i3 ∧ i3 < 24) ∧
              ∀ v62 : VT, v62 = upd2 v44 (166 + i4.toNat) i3.toNat (v44 (166 + i3.toNat) i4.toNat) →
              (-2147483648 ≤ i4 + 1 ∧ i4 + 1 ≤ 2147483647) ∧
              X20 (i4 + 1) v62))) → X20 i4 v20) →
        X20 i3 v9)) → X9 i3 v9) →
    X9 0 v)

def P_X2_mostFrom (x1 : Int) (v : VT) (q : Int → Prop) : Prop :=
  ∀ X4 : Int → Int → Prop, (∀ (i2 : Int) (i3 : Int), (
    (((v 138 2) ≤ i3) →
      q i2) ∧
    ((i3 < (v 138 2)) →
      (0 ≤ x1 ∧ x1 < 24) ∧
      (0 ≤ i3 ∧ i3 < 24) ∧
      ∀ l2 : Int, l2 = (max i2 (v (141 + x1.toNat) i3.toNat)) →
      (-2147483648 ≤ i3 + 1 ∧ i3 + 1 ≤ 2147483647) ∧
      X4 l2 (i3 + 1))) → X4 i2 i3) →
  X4 0 0

def P_X2_sumAll  (v : VT) (q : Int → Prop) : Prop :=
  ∀ X4 : Int → Int → Prop, (∀ (i1 : Int) (i2 : Int), (
    (((v 138 2) ≤ i2) →
      q i1) ∧
    ((i2 < (v 138 2)) →
      (-2147483648 ≤ i2 + 1 ∧ i2 + 1 ≤ 2147483647) ∧
      ∀ X16 : Int → Int → Prop, (∀ (i1_1 : Int) (i3 : Int), (
        (((v 138 2) ≤ i3) →
          (-2147483648 ≤ i2 + 1 ∧ i2 + 1 ≤ 2147483647) ∧
          X4 i1_1 (i2 + 1)) ∧
        ((i3 < (v 138 2)) →
          (0 ≤ i2 ∧ i2 < 24) ∧
          (0 ≤ i3 ∧ i3 < 24) ∧
          (-2147483648 ≤ i1_1 + (max 0 (v (141 + i2.toNat) i3.toNat)) ∧ i1_1 + (max 0 (v (141 + i2.toNat) i3.toNat)) ≤ 2147483647) ∧
          ∀ l1 : Int, l1 = (i1_1 + (max 0 (v (141 + i2.toNat) i3.toNat))) →
          (-2147483648 ≤ i3 + 1 ∧ i3 + 1 ≤ 2147483647) ∧
          X16 l1 (i3 + 1))) → X16 i1_1 i3) →
      X16 i1 (i2 + 1))) → X4 i1 i2) →
  X4 0 0

def P_X2_firstWithoutMedian  (v : VT) (q : Int → VT → Prop) : Prop :=
  ∀ K65 : Int → Int → Int → VT → Prop, (∀ (i1 : Int) (i2 : Int) (i3 : Int) (v65 : VT), (
    q (i_or (i_or (i_shl i1 16) (i_shl i2 8)) i3) v65) → K65 i1 i2 i3 v65) →
  ∀ X2 : Int → VT → Prop, (∀ (i1_1 : Int) (v2 : VT), (
    (((v2 138 2) ≤ i1_1) →
      q (-1) v2) ∧
    ((i1_1 < (v2 138 2)) →
      (-2147483648 ≤ i1_1 + 1 ∧ i1_1 + 1 ≤ 2147483647) ∧
      ∀ X14 : Int → VT → Prop, (∀ (i2_1 : Int) (v14 : VT), (
        (((v14 138 2) ≤ i2_1) →
          (-2147483648 ≤ i1_1 + 1 ∧ i1_1 + 1 ≤ 2147483647) ∧
          X2 (i1_1 + 1) v14) ∧
        ((i2_1 < (v14 138 2)) →
          (-2147483648 ≤ i2_1 + 1 ∧ i2_1 + 1 ≤ 2147483647) ∧
          ∀ X26 : Int → VT → Prop, (∀ (i3_1 : Int) (v26 : VT), (
            (((v26 138 2) ≤ i3_1) →
              (-2147483648 ≤ i2_1 + 1 ∧ i2_1 + 1 ≤ 2147483647) ∧
              X14 (i2_1 + 1) v26) ∧
            ((i3_1 < (v26 138 2)) →
              P_X2_amid i1_1 i2_1 v26 (fun r37 v37 =>
                P_X2_amid i2_1 i3_1 v37 (fun r43 v43 =>
                  P_X2_amid i1_1 i3_1 v43 (fun r50 v50 =>
                    ∀ l4 : Int, l4 = (i_and (i_and r37 r43) r50) →
                    P_J6_bitCount_0f7a4 l4 v50 (fun r58 =>
                      ((r58 = 1) →
                        (-2147483648 ≤ i3_1 + 1 ∧ i3_1 + 1 ≤ 2147483647) ∧
                        X26 (i3_1 + 1) v50) ∧
                      ((¬ r58 = 1) →
                        K65 i1_1 i2_1 i3_1 v50))))))) → X26 i3_1 v26) →
          X26 (i2_1 + 1) v14)) → X14 i2_1 v14) →
      X14 (i1_1 + 1) v2)) → X2 i1_1 v2) →
  X2 0 v

def P_X2_isTrueFrom (x1 : Int) (x2 : Int) (v : VT) (q : Int → Prop) : Prop :=
  ∀ X10 : Int → Int → Int → Prop, (∀ (i3 : Int) (i4 : Int) (i5 : Int), (
    (((v 138 2) ≤ i5) →
      ((¬ i3 = x1) →
        q 0) ∧
      ((i3 = x1) →
        q 1)) ∧
    ((i5 < (v 138 2)) →
      ((i4 = 0) →
        ((¬ i3 = x1) →
          q 0) ∧
        ((i3 = x1) →
          q 1)) ∧
      ((¬ i4 = 0) →
        ∀ K83 : Int → Prop, (∀ (i6 : Int), (
          ∀ l4 : Int, l4 = (i_and (i_and i6 x1) (i_xor i3 (-1))) →
          (-2147483648 ≤ i5 + 1 ∧ i5 + 1 ≤ 2147483647) ∧
          X10 (i_or i3 l4) l4 (i5 + 1)) → K83 i6) →
        ∀ X30 : Int → Int → Prop, (∀ (i6_1 : Int) (i7 : Int), (
          (((v 138 2) ≤ i7) →
            K83 i6_1) ∧
          ((i7 < (v 138 2)) →
            P_X10_hasBit i4 i7 v (fun r43 =>
              ((r43 = 0) →
                (-2147483648 ≤ i7 + 1 ∧ i7 + 1 ≤ 2147483647) ∧
                X30 i6_1 (i7 + 1)) ∧
              ((¬ r43 = 0) →
                (0 ≤ x2 ∧ x2 < 24) ∧
                (0 ≤ i7 ∧ i7 < 24) ∧
                (((v (141 + x2.toNat) i7.toNat) = i5) →
                  (0 ≤ i7 ∧ i7 < 24) ∧
                  ∀ l6 : Int, l6 = (i_or i6_1 (v 139 i7.toNat)) →
                  (-2147483648 ≤ i7 + 1 ∧ i7 + 1 ≤ 2147483647) ∧
                  X30 l6 (i7 + 1)) ∧
                ((¬ (v (141 + x2.toNat) i7.toNat) = i5) →
                  q 0))))) → X30 i6_1 i7) →
        X30 0 0))) → X10 i3 i4 i5) →
  X10 (i_shl 1 x2) (i_shl 1 x2) 0

def P_X2_isTrue (x1 : Int) (v : VT) (q : Int → Prop) : Prop :=
  ∀ X2 : Int → Prop, (∀ (i2 : Int), (
    (((v 138 2) ≤ i2) →
      q 1) ∧
    ((i2 < (v 138 2)) →
      P_X10_hasBit x1 i2 v (fun r12 =>
        ((r12 = 0) →
          (-2147483648 ≤ i2 + 1 ∧ i2 + 1 ≤ 2147483647) ∧
          X2 (i2 + 1)) ∧
        ((¬ r12 = 0) →
          P_X2_isTrueFrom x1 i2 v (fun r21 =>
            ((¬ r21 = 0) →
              (-2147483648 ≤ i2 + 1 ∧ i2 + 1 ≤ 2147483647) ∧
              X2 (i2 + 1)) ∧
            ((r21 = 0) →
              q 0)))))) → X2 i2) →
  X2 0

def P_X2_widen (x1 : Int) (v : VT) (q : Int → VT → Prop) : Prop :=
  ∀ X4 : Int → Int → VT → Prop, (∀ (i2 : Int) (i3 : Int) (v4 : VT), (
    (((v4 138 2) ≤ i3) →
      q i2 v4) ∧
    ((i3 < (v4 138 2)) →
      (-2147483648 ≤ i3 + 1 ∧ i3 + 1 ≤ 2147483647) ∧
      ∀ X17 : Int → Int → VT → Prop, (∀ (i2_1 : Int) (i4 : Int) (v17 : VT), (
        P_X10_hasBit x1 i3 v17 (fun r19 =>
          ((r19 = 0) →
            (-2147483648 ≤ i3 + 1 ∧ i3 + 1 ≤ 2147483647) ∧
            X4 i2_1 (i3 + 1) v17) ∧
          ((¬ r19 = 0) →
            (((v17 138 2) ≤ i4) →
              (-2147483648 ≤ i3 + 1 ∧ i3 + 1 ≤ 2147483647) ∧
              X4 i2_1 (i3 + 1) v17) ∧
            ((i4 < (v17 138 2)) →
              P_X10_hasBit x1 i4 v17 (fun r37 =>
                ((r37 = 0) →
                  (-2147483648 ≤ i4 + 1 ∧ i4 + 1 ≤ 2147483647) ∧
                  X17 i2_1 (i4 + 1) v17) ∧
                ((¬ r37 = 0) →
                  P_X2_amid i3 i4 v17 (fun r48 v48 =>
                    ∀ l2 : Int, l2 = (i_or i2_1 r48) →
                    (-2147483648 ≤ i4 + 1 ∧ i4 + 1 ≤ 2147483647) ∧
                    X17 l2 (i4 + 1) v48))))))) → X17 i2_1 i4 v17) →
      X17 i2 (i3 + 1) v4)) → X4 i2 i3 v4) →
  X4 x1 0 v

def P_X2_close (x1 : Int) (v : VT) (q : Int → VT → Prop) : Prop :=
  ∀ X4 : Int → Int → VT → Prop, (∀ (i2 : Int) (i3 : Int) (v4 : VT), (
    ((24 ≤ i3) →
      q i2 v4) ∧
    ((i3 < 24) →
      P_X2_widen i2 v4 (fun r12 v12 =>
        ((¬ r12 = i2) →
          (-2147483648 ≤ i3 + 1 ∧ i3 + 1 ≤ 2147483647) ∧
          X4 r12 (i3 + 1) v12) ∧
        ((r12 = i2) →
          q i2 v12)))) → X4 i2 i3 v4) →
  X4 x1 0 v

def P_X2_liesAhead (x1 : Int) (x2 : Int) (x3 : Int) (v : VT) (q : Int → Prop) : Prop :=
  ∀ X3 : Int → Prop, (∀ (i4 : Int), (
    (((v 138 2) ≤ i4) →
      q 1) ∧
    ((i4 < (v 138 2)) →
      P_X10_hasBit x3 i4 v (fun r15 =>
        ((r15 = 0) →
          (-2147483648 ≤ i4 + 1 ∧ i4 + 1 ≤ 2147483647) ∧
          X3 (i4 + 1)) ∧
        ((¬ r15 = 0) →
          (0 ≤ x1 ∧ x1 < 24) ∧
          (0 ≤ x2 ∧ x2 < 24) ∧
          (0 ≤ x2 ∧ x2 < 24) ∧
          (0 ≤ i4 ∧ i4 < 24) ∧
          (-2147483648 ≤ (v (141 + x1.toNat) x2.toNat) + (v (141 + x2.toNat) i4.toNat) ∧ (v (141 + x1.toNat) x2.toNat) + (v (141 + x2.toNat) i4.toNat) ≤ 2147483647) ∧
          (0 ≤ x1 ∧ x1 < 24) ∧
          (0 ≤ i4 ∧ i4 < 24) ∧
          ((((v (141 + x1.toNat) x2.toNat) + (v (141 + x2.toNat) i4.toNat)) = (v (141 + x1.toNat) i4.toNat)) →
            (-2147483648 ≤ i4 + 1 ∧ i4 + 1 ≤ 2147483647) ∧
            X3 (i4 + 1)) ∧
          ((¬ ((v (141 + x1.toNat) x2.toNat) + (v (141 + x2.toNat) i4.toNat)) = (v (141 + x1.toNat) i4.toNat)) →
            q 0))))) → X3 i4) →
  X3 0

def P_X2_findGate (x1 : Int) (x2 : Int) (v : VT) (q : Int → Prop) : Prop :=
  ∀ X2 : Int → Prop, (∀ (i3 : Int), (
    (((v 138 2) ≤ i3) →
      q (-1)) ∧
    ((i3 < (v 138 2)) →
      P_X10_hasBit x2 i3 v (fun r12 =>
        ((r12 = 0) →
          (-2147483648 ≤ i3 + 1 ∧ i3 + 1 ≤ 2147483647) ∧
          X2 (i3 + 1)) ∧
        ((¬ r12 = 0) →
          P_X2_liesAhead x1 i3 x2 v (fun r22 =>
            ((r22 = 0) →
              (-2147483648 ≤ i3 + 1 ∧ i3 + 1 ≤ 2147483647) ∧
              X2 (i3 + 1)) ∧
            ((¬ r22 = 0) →
              q i3)))))) → X2 i3) →
  X2 0

def P_X3_forget  (v : VT) (q : VT → Prop) : Prop :=
  ∀ v2 : VT, v2 = upd2 v 16 0 0 →
  q v2

def P_X3_keep  (v : VT) (q : VT → Prop) : Prop :=
  (0 ≤ (v 16 1) ∧ (v 16 1) < 20) ∧
  P_X0_takeFrom (18 + 6 * (v 16 1).toNat) 10 v (fun v10 =>
    (-2147483648 ≤ (v10 16 1) + 1 ∧ (v10 16 1) + 1 ≤ 2147483647) ∧
    ∀ v23 : VT, v23 = upd2 v10 16 1 (i_rem ((v10 16 1) + 1) 20) →
    (-2147483648 ≤ (v23 16 0) + 1 ∧ (v23 16 0) + 1 ≤ 2147483647) ∧
    ∀ v38 : VT, v38 = upd2 v23 16 0 (min ((v23 16 0) + 1) 20) →
    q v38)

def P_X3_bringBack  (v : VT) (q : VT → Prop) : Prop :=
  (((v 16 0) ≤ 0) →
    q v) ∧
  ((0 < (v 16 0)) →
    (-2147483648 ≤ (v 16 1) + 20 ∧ (v 16 1) + 20 ≤ 2147483647) ∧
    (-2147483648 ≤ ((v 16 1) + 20) - 1 ∧ ((v 16 1) + 20) - 1 ≤ 2147483647) ∧
    ∀ v20 : VT, v20 = upd2 v 16 1 (i_rem (((v 16 1) + 20) - 1) 20) →
    (-2147483648 ≤ (v20 16 0) - 1 ∧ (v20 16 0) - 1 ≤ 2147483647) ∧
    ∀ v30 : VT, v30 = upd2 v20 16 0 ((v20 16 0) - 1) →
    (0 ≤ (v30 16 1) ∧ (v30 16 1) < 20) ∧
    P_X0_takeFrom 10 (18 + 6 * (v30 16 1).toNat) v30 (fun v43 =>
      q v43))

def P_X4_add (x1 : Int) (v : VT) (q : VT → Prop) : Prop :=
  ((123 ≤ (v 205 1)) →
    q v) ∧
  (((v 205 1) < 123) →
    (0 ≤ (v 205 1) ∧ (v 205 1) < 123) ∧
    ∀ v21 : VT, v21 = upd2 v 206 (v 205 1).toNat x1 →
    (-2147483648 ≤ (v21 205 1) + 1 ∧ (v21 205 1) + 1 ≤ 2147483647) ∧
    ∀ v29 : VT, v29 = upd2 v21 205 1 ((v21 205 1) + 1) →
    q v29)

def P_X4_checkOf (a0 : Nat) (n0 : Nat) (x1 : Int) (v : VT) (q : Int → Prop) : Prop :=
  ∀ X6 : Int → Int → Prop, (∀ (i2 : Int) (i3 : Int), (
    ((x1 ≤ i3) →
      q i2) ∧
    ((i3 < x1) →
      (((n0 : Int) ≤ i3) →
        q i2) ∧
      ((i3 < (n0 : Int)) →
        (-2147483648 ≤ 3 * i2 ∧ 3 * i2 ≤ 2147483647) ∧
        (0 ≤ i3 ∧ i3 < n0) ∧
        (-2147483648 ≤ (3 * i2) + (v a0 i3.toNat) ∧ (3 * i2) + (v a0 i3.toNat) ≤ 2147483647) ∧
        ∀ l2 : Int, l2 = (i_rem ((3 * i2) + (v a0 i3.toNat)) 251) →
        (-2147483648 ≤ i3 + 1 ∧ i3 + 1 ≤ 2147483647) ∧
        X6 l2 (i3 + 1)))) → X6 i2 i3) →
  X6 167 0

def P_X4_write  (v : VT) (q : VT → Prop) : Prop :=
  ∀ v2 : VT, v2 = upd2 v 205 1 0 →
  P_X4_add (v2 10 0) v2 (fun v10 =>
    P_X4_add (v10 10 1) v10 (fun v18 =>
      ∀ X23 : Int → VT → Prop, (∀ (i2 : Int) (v23 : VT), (
        (((v23 10 1) ≤ i2) →
          P_X4_checkOf 206 123 (v23 205 1) v23 (fun r66 =>
            P_X4_add r66 v23 (fun v69 =>
              q v69))) ∧
        ((i2 < (v23 10 1)) →
          (0 ≤ i2 ∧ i2 < 60) ∧
          P_X4_add (v23 12 i2.toNat) v23 (fun v38 =>
            (0 ≤ i2 ∧ i2 < 60) ∧
            P_X4_add (v38 13 i2.toNat) v38 (fun v48 =>
              (-2147483648 ≤ i2 + 1 ∧ i2 + 1 ≤ 2147483647) ∧
              X23 (i2 + 1) v48)))) → X23 i2 v23) →
      X23 0 v18))

def P_X9_byteAt (x1 : Int) (v : VT) (q : Int → Prop) : Prop :=
  ((x1 < 0) →
    q (-1)) ∧
  ((0 ≤ x1) →
    (((v 1 1) ≤ x1) →
      q (-1)) ∧
    ((x1 < (v 1 1)) →
      (0 ≤ x1 ∧ x1 < 800) ∧
      q (v 2 x1.toNat)))

def P_X4_read  (v : VT) (q : Int → VT → Prop) : Prop :=
  P_X9_byteAt 0 v (fun r2 =>
    P_X9_byteAt 1 v (fun r8 =>
      ((r2 < 1) →
        q 0 v) ∧
      ((1 ≤ r2) →
        ((24 < r2) →
          q 0 v) ∧
        ((r2 ≤ 24) →
          ((r8 < 0) →
            q 0 v) ∧
          ((0 ≤ r8) →
            ((60 < r8) →
              q 0 v) ∧
            ((r8 ≤ 60) →
              (-2147483648 ≤ 2 * r8 ∧ 2 * r8 ≤ 2147483647) ∧
              (-2147483648 ≤ (2 * r8) + 3 ∧ (2 * r8) + 3 ≤ 2147483647) ∧
              (((v 1 1) = ((2 * r8) + 3)) →
                (-2147483648 ≤ (v 1 1) - 1 ∧ (v 1 1) - 1 ≤ 2147483647) ∧
                P_X9_byteAt ((v 1 1) - 1) v (fun r54 =>
                  (-2147483648 ≤ (v 1 1) - 1 ∧ (v 1 1) - 1 ≤ 2147483647) ∧
                  P_X4_checkOf 2 800 ((v 1 1) - 1) v (fun r67 =>
                    ((r54 = r67) →
                      P_X0_wipe 207 v (fun v79 =>
                        ∀ K105 : VT → Prop, (∀ (v105 : VT), (
                          ∀ X108 : Int → VT → Prop, (∀ (i4 : Int) (v108 : VT), (
                            ((r8 ≤ i4) →
                              q 1 v108) ∧
                            ((i4 < r8) →
                              (-2147483648 ≤ 2 * i4 ∧ 2 * i4 ≤ 2147483647) ∧
                              (-2147483648 ≤ (2 * i4) + 2 ∧ (2 * i4) + 2 ≤ 2147483647) ∧
                              P_X9_byteAt ((2 * i4) + 2) v108 (fun r121 =>
                                (-2147483648 ≤ 2 * i4 ∧ 2 * i4 ≤ 2147483647) ∧
                                (-2147483648 ≤ (2 * i4) + 3 ∧ (2 * i4) + 3 ≤ 2147483647) ∧
                                P_X9_byteAt ((2 * i4) + 3) v108 (fun r133 =>
                                  ((r133 ≤ r121) →
                                    q 0 v108) ∧
                                  ((r121 < r133) →
                                    P_X0_canJoin 207 r121 r133 v108 (fun r153 =>
                                      ((¬ r153 = 0) →
                                        P_X0_addLine 207 r121 r133 1 v108 (fun v170 =>
                                          (-2147483648 ≤ i4 + 1 ∧ i4 + 1 ≤ 2147483647) ∧
                                          X108 (i4 + 1) v170)) ∧
                                      ((r153 = 0) →
                                        q 0 v108))))))) → X108 i4 v108) →
                          X108 0 v105) → K105 v105) →
                        ∀ X85 : Int → VT → Prop, (∀ (i4_1 : Int) (v85 : VT), (
                          ((r2 ≤ i4_1) →
                            K105 v85) ∧
                          ((i4_1 < r2) →
                            P_X0_addNode 207 0 v85 (fun v96 =>
                              (-2147483648 ≤ i4_1 + 1 ∧ i4_1 + 1 ≤ 2147483647) ∧
                              X85 (i4_1 + 1) v96))) → X85 i4_1 v85) →
                        X85 0 v79)) ∧
                    ((¬ r54 = r67) →
                      q 0 v)))) ∧
              ((¬ (v 1 1) = ((2 * r8) + 3)) →
                q 0 v)))))))

def P_X5_skipBlanks  (v : VT) (q : VT → Prop) : Prop :=
  ∀ X0 : VT → Prop, (∀ (v0 : VT), (
    (((v0 1 1) ≤ (v0 3 4)) →
      q v0) ∧
    (((v0 3 4) < (v0 1 1)) →
      P_X9_byteAt (v0 3 4) v0 (fun r16 =>
        ((r16 = 32) →
          (-2147483648 ≤ (v0 3 4) + 1 ∧ (v0 3 4) + 1 ≤ 2147483647) ∧
          ∀ v44 : VT, v44 = upd2 v0 3 4 ((v0 3 4) + 1) →
          X0 v44) ∧
        ((¬ r16 = 32) →
          P_X9_byteAt (v0 3 4) v0 (fun r29 =>
            ((¬ r29 = 10) →
              q v0) ∧
            ((r29 = 10) →
              (-2147483648 ≤ (v0 3 4) + 1 ∧ (v0 3 4) + 1 ≤ 2147483647) ∧
              ∀ v44_1 : VT, v44_1 = upd2 v0 3 4 ((v0 3 4) + 1) →
              X0 v44_1)))))) → X0 v0) →
  X0 v

def P_X5_readWord  (v : VT) (q : VT → Prop) : Prop :=
  ∀ v5 : VT, v5 = upd2 v 3 5 (v 3 4) →
  ∀ v10 : VT, v10 = upd2 v5 3 6 0 →
  ∀ v15 : VT, v15 = upd2 v10 3 7 0 →
  ∀ X18 : VT → Prop, (∀ (v18 : VT), (
    (((v18 1 1) ≤ (v18 3 4)) →
      q v18) ∧
    (((v18 3 4) < (v18 1 1)) →
      P_X9_byteAt (v18 3 4) v18 (fun r34 =>
        ((r34 < 97) →
          q v18) ∧
        ((97 ≤ r34) →
          P_X9_byteAt (v18 3 4) v18 (fun r47 =>
            ((122 < r47) →
              q v18) ∧
            ((r47 ≤ 122) →
              ∀ K92 : VT → Prop, (∀ (v92 : VT), (
                (-2147483648 ≤ (v92 3 6) + 1 ∧ (v92 3 6) + 1 ≤ 2147483647) ∧
                ∀ v99 : VT, v99 = upd2 v92 3 6 ((v92 3 6) + 1) →
                (-2147483648 ≤ (v99 3 4) + 1 ∧ (v99 3 4) + 1 ≤ 2147483647) ∧
                ∀ v109 : VT, v109 = upd2 v99 3 4 ((v99 3 4) + 1) →
                X18 v109) → K92 v92) →
              ((4 ≤ (v18 3 6)) →
                K92 v18) ∧
              (((v18 3 6) < 4) →
                P_X9_byteAt (v18 3 4) v18 (fun r73 =>
                  (-2147483648 ≤ r73 - 97 ∧ r73 - 97 ≤ 2147483647) ∧
                  (-2147483648 ≤ (r73 - 97) + 1 ∧ (r73 - 97) + 1 ≤ 2147483647) ∧
                  (-2147483648 ≤ 5 * (v18 3 6) ∧ 5 * (v18 3 6) ≤ 2147483647) ∧
                  ∀ v89 : VT, v89 = upd2 v18 3 7 (i_or (v18 3 7) (i_shl ((r73 - 97) + 1) (5 * (v18 3 6)))) →
                  K92 v89)))))))) → X18 v18) →
  X18 v15

def P_X5_isWord (k2 : Nat) (v : VT) (q : Int → Prop) : Prop :=
  ∀ K16 : Int → Prop, (∀ (s0 : Int), (
    ∀ X20 : Int → Int → Prop, (∀ (i3 : Int) (i4 : Int), (
      ((i3 = 0) →
        (i3 = 0 ∨ i3 = 1) ∧
        q i3) ∧
      ((¬ i3 = 0) →
        (((sLen k2) ≤ i4) →
          (i3 = 0 ∨ i3 = 1) ∧
          q i3) ∧
        ((i4 < (sLen k2)) →
          (-2147483648 ≤ (v 3 5) + i4 ∧ (v 3 5) + i4 ≤ 2147483647) ∧
          P_X9_byteAt ((v 3 5) + i4) v (fun r41 =>
            (0 ≤ i4 ∧ i4 < sLen k2) ∧
            ((¬ r41 = (sAt k2 i4.toNat)) →
              (-2147483648 ≤ i4 + 1 ∧ i4 + 1 ≤ 2147483647) ∧
              X20 0 (i4 + 1)) ∧
            ((r41 = (sAt k2 i4.toNat)) →
              (-2147483648 ≤ i4 + 1 ∧ i4 + 1 ≤ 2147483647) ∧
              X20 1 (i4 + 1)))))) → X20 i3 i4) →
    X20 s0 0) → K16 s0) →
  ((¬ (v 3 6) = (sLen k2)) →
    K16 0) ∧
  (((v 3 6) = (sLen k2)) →
    K16 1)

def P_X5_fail (x1 : Int) (x2 : Int) (v : VT) (q : VT → Prop) : Prop :=
  ∀ v2 : VT, v2 = upd2 v 3 1 x1 →
  ∀ v7 : VT, v7 = upd2 v2 3 2 x2 →
  q v7

def P_X5_readNameHere  (v : VT) (q : VT → Prop) : Prop :=
  P_X5_skipBlanks  v (fun v2 =>
    P_X5_readWord  v2 (fun v7 =>
      (((v7 3 6) = 0) →
        P_X5_fail 1 (v7 3 5) v7 (fun v43 =>
          q v43)) ∧
      ((¬ (v7 3 6) = 0) →
        P_X5_isWord 1 v7 (fun r21 =>
          ((¬ r21 = 0) →
            P_X5_fail 1 (v7 3 5) v7 (fun v43_1 =>
              q v43_1)) ∧
          ((r21 = 0) →
            P_X5_isWord 2 v7 (fun r31 =>
              ((r31 = 0) →
                (((v7 3 6) ≤ 4) →
                  q v7) ∧
                ((4 < (v7 3 6)) →
                  (-2147483648 ≤ (v7 3 5) + 4 ∧ (v7 3 5) + 4 ≤ 2147483647) ∧
                  P_X5_fail 1 ((v7 3 5) + 4) v7 (fun v65 =>
                    q v65))) ∧
              ((¬ r31 = 0) →
                P_X5_fail 1 (v7 3 5) v7 (fun v43_2 =>
                  q v43_2))))))))

def P_X5_readStop (x2 : Int) (v : VT) (q : Int → VT → Prop) : Prop :=
  P_X5_readNameHere  v (fun v2 =>
    ∀ K27 : Int → Prop, (∀ (s0 : Int), (
      ∀ K49 : VT → Prop, (∀ (v49 : VT), (
        ((¬ (v49 3 1) = 0) →
          q s0 v49) ∧
        (((v49 3 1) = 0) →
          ((x2 = (-1)) →
            q s0 v49) ∧
          ((¬ x2 = (-1)) →
            ((s0 = x2) →
              P_X5_fail 4 (v49 3 5) v49 (fun v85 =>
                q s0 v85)) ∧
            ((¬ s0 = x2) →
              P_X0_findLine 4 x2 s0 v49 (fun r72 =>
                ((r72 = (-1)) →
                  (((v49 4 1) < 60) →
                    P_X0_addLine 4 x2 s0 1 v49 (fun v122 =>
                      q s0 v122)) ∧
                  ((60 ≤ (v49 4 1)) →
                    P_X5_fail 5 (v49 3 5) v49 (fun v109 =>
                      q s0 v109))) ∧
                ((¬ r72 = (-1)) →
                  P_X5_fail 4 (v49 3 5) v49 (fun v85_1 =>
                    q s0 v85_1))))))) → K49 v49) →
      ((¬ (v2 3 1) = 0) →
        K49 v2) ∧
      (((v2 3 1) = 0) →
        ((¬ s0 = (-1)) →
          K49 v2) ∧
        ((s0 = (-1)) →
          P_X5_fail 3 (v2 3 5) v2 (fun v46 =>
            K49 v46)))) → K27 s0) →
    ((¬ (v2 3 1) = 0) →
      K27 (-1)) ∧
    (((v2 3 1) = 0) →
      P_X0_findName 4 (v2 3 7) v2 (fun r20 =>
        K27 r20)))

def P_X5_readNode  (v : VT) (q : Int → VT → Prop) : Prop :=
  P_X5_readNameHere  v (fun v2 =>
    ∀ K36 : VT → Prop, (∀ (v36 : VT), (
      ((¬ (v36 3 1) = 0) →
        q (-1) v36) ∧
      (((v36 3 1) = 0) →
        P_X0_addNode 4 (v36 3 7) v36 (fun v51 =>
          q (-1) v51))) → K36 v36) →
    ((¬ (v2 3 1) = 0) →
      K36 v2) ∧
    (((v2 3 1) = 0) →
      P_X0_findName 4 (v2 3 7) v2 (fun r20 =>
        ((r20 = (-1)) →
          K36 v2) ∧
        ((¬ r20 = (-1)) →
          P_X5_fail 3 (v2 3 5) v2 (fun v33 =>
            K36 v33)))))

def P_X5_readComma (x2 : Int) (v : VT) (q : Int → VT → Prop) : Prop :=
  P_X5_skipBlanks  v (fun v2 =>
    P_X9_byteAt (v2 3 4) v2 (fun r10 =>
      ((¬ r10 = 44) →
        ((¬ r10 = 59) →
          P_X5_fail 1 (v2 3 4) v2 (fun v71 =>
            q 0 v71)) ∧
        ((r10 = 59) →
          ((x2 = 0) →
            P_X5_fail 1 (v2 3 4) v2 (fun v71_1 =>
              q 0 v71_1)) ∧
          ((¬ x2 = 0) →
            (-2147483648 ≤ (v2 3 4) + 1 ∧ (v2 3 4) + 1 ≤ 2147483647) ∧
            ∀ v49 : VT, v49 = upd2 v2 3 4 ((v2 3 4) + 1) →
            (-2147483648 ≤ (v49 3 3) + 1 ∧ (v49 3 3) + 1 ≤ 2147483647) ∧
            ∀ v59 : VT, v59 = upd2 v49 3 3 ((v49 3 3) + 1) →
            q 0 v59))) ∧
      ((r10 = 44) →
        (-2147483648 ≤ (v2 3 4) + 1 ∧ (v2 3 4) + 1 ≤ 2147483647) ∧
        ∀ v27 : VT, v27 = upd2 v2 3 4 ((v2 3 4) + 1) →
        q 1 v27)))

def P_X5_readRow (x2 : Int) (v : VT) (q : VT → Prop) : Prop :=
  P_X5_skipBlanks  v (fun v2 =>
    P_X5_readWord  v2 (fun v7 =>
      ∀ K23 : Nat → Prop, (∀ (s0 : Nat), (
        (s0 = 1 ∨ s0 = 2) ∧
        P_X5_isWord s0 v7 (fun r23 =>
          ∀ K38 : VT → Prop, (∀ (v38 : VT), (
            ∀ K47 : Int → Prop, (∀ (s0_1 : Int), (
              ∀ K63 : Int → Prop, (∀ (s0_2 : Int), (
                ∀ K140 : Int → VT → Prop, (∀ (i5 : Int) (v140 : VT), (
                  ((i5 = 0) →
                    q v140) ∧
                  ((¬ i5 = 0) →
                    P_X5_skipBlanks  v140 (fun v147 =>
                      (((v147 1 1) ≤ (v147 3 4)) →
                        P_X5_fail 1 (v147 3 4) v147 (fun v171 =>
                          q v171)) ∧
                      (((v147 3 4) < (v147 1 1)) →
                        P_X5_fail 5 (v147 3 4) v147 (fun v171_1 =>
                          q v171_1))))) → K140 i5 v140) →
                ∀ X68 : Int → Int → Int → VT → Prop, (∀ (i4 : Int) (i5_1 : Int) (i6 : Int) (v68 : VT), (
                  ((i5_1 = 0) →
                    K140 i5_1 v68) ∧
                  ((¬ i5_1 = 0) →
                    ((24 < i6) →
                      K140 i5_1 v68) ∧
                    ((i6 ≤ 24) →
                      ∀ K99 : Int → VT → Prop, (∀ (s0_3 : Int) (v99 : VT), (
                        ((¬ (v99 3 1) = 0) →
                          (-2147483648 ≤ i6 + 1 ∧ i6 + 1 ≤ 2147483647) ∧
                          X68 s0_3 0 (i6 + 1) v99) ∧
                        (((v99 3 1) = 0) →
                          ((i6 < s0_1) →
                            P_X5_readComma 0 v99 (fun r121 v121 =>
                              ((r121 = 0) →
                                (-2147483648 ≤ i6 + 1 ∧ i6 + 1 ≤ 2147483647) ∧
                                X68 s0_3 0 (i6 + 1) v121) ∧
                              ((¬ r121 = 0) →
                                (-2147483648 ≤ i6 + 1 ∧ i6 + 1 ≤ 2147483647) ∧
                                X68 s0_3 1 (i6 + 1) v121))) ∧
                          ((s0_1 ≤ i6) →
                            P_X5_readComma 1 v99 (fun r121_1 v121_1 =>
                              ((r121_1 = 0) →
                                (-2147483648 ≤ i6 + 1 ∧ i6 + 1 ≤ 2147483647) ∧
                                X68 s0_3 0 (i6 + 1) v121_1) ∧
                              ((¬ r121_1 = 0) →
                                (-2147483648 ≤ i6 + 1 ∧ i6 + 1 ≤ 2147483647) ∧
                                X68 s0_3 1 (i6 + 1) v121_1))))) → K99 s0_3 v99) →
                      ((x2 = 0) →
                        P_X5_readNode  v68 (fun r96 v96 =>
                          K99 r96 v96)) ∧
                      ((¬ x2 = 0) →
                        P_X5_readStop i4 v68 (fun r88 v88 =>
                          K99 r88 v88))))) → X68 i4 i5_1 i6 v68) →
                X68 (-1) s0_2 1 v38) → K63 s0_2) →
              ((¬ (v38 3 1) = 0) →
                K63 0) ∧
              (((v38 3 1) = 0) →
                K63 1)) → K47 s0_1) →
            ((x2 = 0) →
              K47 1) ∧
            ((¬ x2 = 0) →
              K47 2)) → K38 v38) →
          ((¬ r23 = 0) →
            K38 v7) ∧
          ((r23 = 0) →
            P_X5_fail 1 (v7 3 5) v7 (fun v35 =>
              K38 v35)))) → K23 s0) →
      ((x2 = 0) →
        K23 1) ∧
      ((¬ x2 = 0) →
        K23 2)))

def P_X5_readNet  (v : VT) (q : VT → Prop) : Prop :=
  P_X0_wipe 4 v (fun v4 =>
    ∀ v9 : VT, v9 = upd2 v4 3 1 0 →
    ∀ v14 : VT, v14 = upd2 v9 3 2 (-1) →
    ∀ v19 : VT, v19 = upd2 v14 3 3 0 →
    ∀ v24 : VT, v24 = upd2 v19 3 4 0 →
    P_X5_readRow 0 v24 (fun v30 =>
      P_X5_skipBlanks  v30 (fun v35 =>
        ∀ X40 : Int → VT → Prop, (∀ (i2 : Int) (v40 : VT), (
          ((800 ≤ i2) →
            q v40) ∧
          ((i2 < 800) →
            ((¬ (v40 3 1) = 0) →
              q v40) ∧
            (((v40 3 1) = 0) →
              (((v40 1 1) ≤ (v40 3 4)) →
                q v40) ∧
              (((v40 3 4) < (v40 1 1)) →
                P_X5_readRow 1 v40 (fun v68 =>
                  P_X5_skipBlanks  v68 (fun v73 =>
                    (-2147483648 ≤ i2 + 1 ∧ i2 + 1 ≤ 2147483647) ∧
                    X40 (i2 + 1) v73)))))) → X40 i2 v40) →
        X40 0 v35)))

def P_X5_readName  (v : VT) (q : Int → VT → Prop) : Prop :=
  ∀ v2 : VT, v2 = upd2 v 3 4 0 →
  P_X5_readWord  v2 (fun v7 =>
    ((¬ (v7 3 6) = (v7 1 1)) →
      q 0 v7) ∧
    (((v7 3 6) = (v7 1 1)) →
      ((4 < (v7 3 6)) →
        q 0 v7) ∧
      (((v7 3 6) ≤ 4) →
        q (v7 3 7) v7)))

def P_X6_lower (x1 : Int) (x2 : Int) (x3 : Int) (x4 : Int) (v : VT) (q : Int → VT → Prop) : Prop :=
  (0 ≤ x2 ∧ x2 < 24) ∧
  (((v 201 x2.toNat) < 1000000) →
    ∀ K39 : Int → Prop, (∀ (s0 : Int), (
      (0 ≤ x1 ∧ x1 < 24) ∧
      ((s0 < (v 201 x1.toNat)) →
        (0 ≤ x1 ∧ x1 < 24) ∧
        ∀ v61 : VT, v61 = upd2 v 201 x1.toNat s0 →
        q 1 v61) ∧
      (((v 201 x1.toNat) ≤ s0) →
        q 0 v)) → K39 s0) →
    ((x4 = 0) →
      (0 ≤ x2 ∧ x2 < 24) ∧
      (-2147483648 ≤ (v 201 x2.toNat) + x3 ∧ (v 201 x2.toNat) + x3 ≤ 2147483647) ∧
      K39 ((v 201 x2.toNat) + x3)) ∧
    ((¬ x4 = 0) →
      (0 ≤ x2 ∧ x2 < 24) ∧
      K39 (max (v 201 x2.toNat) x3))) ∧
  ((1000000 ≤ (v 201 x2.toNat)) →
    q 0 v)

def P_X6_weigh (x2 : Int) (x3 : Int) (v : VT) (q : VT → Prop) : Prop :=
  ∀ K37 : VT → Prop, (∀ (v37 : VT), (
    ∀ X43 : Int → Int → VT → Prop, (∀ (i4 : Int) (i5 : Int) (v43 : VT), (
      ((i4 = 0) →
        q v43) ∧
      ((¬ i4 = 0) →
        (((v43 10 0) ≤ i5) →
          q v43) ∧
        ((i5 < (v43 10 0)) →
          ∀ X63 : Int → Int → VT → Prop, (∀ (i4_1 : Int) (i6 : Int) (v63 : VT), (
            (((v63 10 1) ≤ i6) →
              (-2147483648 ≤ i5 + 1 ∧ i5 + 1 ≤ 2147483647) ∧
              X43 i4_1 (i5 + 1) v63) ∧
            ((i6 < (v63 10 1)) →
              (0 ≤ i6 ∧ i6 < 60) ∧
              (0 ≤ i6 ∧ i6 < 60) ∧
              (0 ≤ i6 ∧ i6 < 60) ∧
              P_X6_lower (v63 12 i6.toNat) (v63 13 i6.toNat) (v63 14 i6.toNat) x3 v63 (fun r95 v95 =>
                (0 ≤ i6 ∧ i6 < 60) ∧
                (0 ≤ i6 ∧ i6 < 60) ∧
                (0 ≤ i6 ∧ i6 < 60) ∧
                P_X6_lower (v95 13 i6.toNat) (v95 12 i6.toNat) (v95 14 i6.toNat) x3 v95 (fun r123 v123 =>
                  ((¬ i4_1 = 0) →
                    (-2147483648 ≤ i6 + 1 ∧ i6 + 1 ≤ 2147483647) ∧
                    X63 1 (i6 + 1) v123) ∧
                  ((i4_1 = 0) →
                    ((¬ r95 = 0) →
                      (-2147483648 ≤ i6 + 1 ∧ i6 + 1 ≤ 2147483647) ∧
                      X63 1 (i6 + 1) v123) ∧
                    ((r95 = 0) →
                      ((r123 = 0) →
                        (-2147483648 ≤ i6 + 1 ∧ i6 + 1 ≤ 2147483647) ∧
                        X63 0 (i6 + 1) v123) ∧
                      ((¬ r123 = 0) →
                        (-2147483648 ≤ i6 + 1 ∧ i6 + 1 ≤ 2147483647) ∧
                        X63 1 (i6 + 1) v123))))))) → X63 i4_1 i6 v63) →
          X63 0 0 v43))) → X43 i4 i5 v43) →
    X43 1 0 v37) → K37 v37) →
  ∀ X3 : Int → VT → Prop, (∀ (i4_2 : Int) (v3 : VT), (
    (((v3 10 0) ≤ i4_2) →
      K37 v3) ∧
    ((i4_2 < (v3 10 0)) →
      ((¬ i4_2 = x2) →
        (0 ≤ i4_2 ∧ i4_2 < 24) ∧
        ∀ v30 : VT, v30 = upd2 v3 201 i4_2.toNat 1000000 →
        (-2147483648 ≤ i4_2 + 1 ∧ i4_2 + 1 ≤ 2147483647) ∧
        X3 (i4_2 + 1) v30) ∧
      ((i4_2 = x2) →
        (0 ≤ i4_2 ∧ i4_2 < 24) ∧
        ∀ v30_1 : VT, v30_1 = upd2 v3 201 i4_2.toNat 0 →
        (-2147483648 ≤ i4_2 + 1 ∧ i4_2 + 1 ≤ 2147483647) ∧
        X3 (i4_2 + 1) v30_1))) → X3 i4_2 v3) →
  X3 0 v

def P_X6_nextStop (x2 : Int) (v : VT) (q : Int → Prop) : Prop :=
  ∀ X5 : Int → Int → Prop, (∀ (i3 : Int) (i4 : Int), (
    (((v 10 1) ≤ i4) →
      q i3) ∧
    ((i4 < (v 10 1)) →
      (0 ≤ i4 ∧ i4 < 60) ∧
      ∀ K60 : Int → Prop, (∀ (i5 : Int), (
        ((i5 = (-1)) →
          (-2147483648 ≤ i4 + 1 ∧ i4 + 1 ≤ 2147483647) ∧
          X5 i3 (i4 + 1)) ∧
        ((¬ i5 = (-1)) →
          (0 ≤ i5 ∧ i5 < 24) ∧
          (0 ≤ i4 ∧ i4 < 60) ∧
          (-2147483648 ≤ (v 201 i5.toNat) + (v 14 i4.toNat) ∧ (v 201 i5.toNat) + (v 14 i4.toNat) ≤ 2147483647) ∧
          (0 ≤ x2 ∧ x2 < 24) ∧
          ((¬ ((v 201 i5.toNat) + (v 14 i4.toNat)) = (v 201 x2.toNat)) →
            (-2147483648 ≤ i4 + 1 ∧ i4 + 1 ≤ 2147483647) ∧
            X5 i3 (i4 + 1)) ∧
          ((((v 201 i5.toNat) + (v 14 i4.toNat)) = (v 201 x2.toNat)) →
            ((i3 = (-1)) →
              (-2147483648 ≤ i4 + 1 ∧ i4 + 1 ≤ 2147483647) ∧
              X5 i5 (i4 + 1)) ∧
            ((¬ i3 = (-1)) →
              ((i3 ≤ i5) →
                (-2147483648 ≤ i4 + 1 ∧ i4 + 1 ≤ 2147483647) ∧
                X5 i3 (i4 + 1)) ∧
              ((i5 < i3) →
                (-2147483648 ≤ i4 + 1 ∧ i4 + 1 ≤ 2147483647) ∧
                X5 i5 (i4 + 1)))))) → K60 i5) →
      ((¬ (v 12 i4.toNat) = x2) →
        (0 ≤ i4 ∧ i4 < 60) ∧
        ((¬ (v 13 i4.toNat) = x2) →
          K60 (-1)) ∧
        (((v 13 i4.toNat) = x2) →
          (0 ≤ i4 ∧ i4 < 60) ∧
          ∀ l5 : Int, l5 = (v 12 i4.toNat) →
          K60 l5)) ∧
      (((v 12 i4.toNat) = x2) →
        (0 ≤ i4 ∧ i4 < 60) ∧
        ∀ l5_1 : Int, l5_1 = (v 13 i4.toNat) →
        K60 l5_1))) → X5 i3 i4) →
  X5 (-1) 0

def P_X6_walk (x2 : Int) (x3 : Int) (v : VT) (q : VT → Prop) : Prop :=
  ∀ v9 : VT, v9 = upd2 v 202 0 x2 →
  ∀ v12 : VT, v12 = upd2 v9 200 2 1 →
  ∀ X15 : Int → VT → Prop, (∀ (i4 : Int) (v15 : VT), (
    ((24 ≤ (v15 200 2)) →
      q v15) ∧
    (((v15 200 2) < 24) →
      ((i4 = x3) →
        q v15) ∧
      ((¬ i4 = x3) →
        P_X6_nextStop i4 v15 (fun r34 =>
          ((¬ r34 = (-1)) →
            (0 ≤ (v15 200 2) ∧ (v15 200 2) < 24) ∧
            ∀ v56 : VT, v56 = upd2 v15 202 (v15 200 2).toNat r34 →
            (-2147483648 ≤ (v56 200 2) + 1 ∧ (v56 200 2) + 1 ≤ 2147483647) ∧
            ∀ v64 : VT, v64 = upd2 v56 200 2 ((v56 200 2) + 1) →
            X15 r34 v64) ∧
          ((r34 = (-1)) →
            q v15))))) → X15 i4 v15) →
  X15 x2 v12

def P_X8_halfOf (x1 : Int) (v : VT) (q : Int → Prop) : Prop :=
  ((¬ (i_rem x1 2) = 1) →
    P_X10_allBits (v 197 5) v (fun r24 =>
      (0 ≤ (i_div x1 2) ∧ (i_div x1 2) < 60) ∧
      q (i_and r24 (i_xor (v 199 (i_div x1 2).toNat) (-1))))) ∧
  (((i_rem x1 2) = 1) →
    (0 ≤ (i_div x1 2) ∧ (i_div x1 2) < 60) ∧
    q (v 199 (i_div x1 2).toNat))

def P_X8_countPairs (x1 : Int) (x2 : Int) (v : VT) (q : Int → Prop) : Prop :=
  ∀ X5 : Int → Int → Prop, (∀ (i3 : Int) (i4 : Int), (
    ((4 ≤ i4) →
      q i3) ∧
    ((i4 < 4) →
      (-2147483648 ≤ 2 * x1 ∧ 2 * x1 ≤ 2147483647) ∧
      (-2147483648 ≤ (2 * x1) + (i_div i4 2) ∧ (2 * x1) + (i_div i4 2) ≤ 2147483647) ∧
      P_X8_halfOf ((2 * x1) + (i_div i4 2)) v (fun r20 =>
        (-2147483648 ≤ 2 * x2 ∧ 2 * x2 ≤ 2147483647) ∧
        (-2147483648 ≤ (2 * x2) + (i_rem i4 2) ∧ (2 * x2) + (i_rem i4 2) ≤ 2147483647) ∧
        P_X8_halfOf ((2 * x2) + (i_rem i4 2)) v (fun r32 =>
          (((i_and r20 r32) = 0) →
            (-2147483648 ≤ i4 + 1 ∧ i4 + 1 ≤ 2147483647) ∧
            X5 i3 (i4 + 1)) ∧
          ((¬ (i_and r20 r32) = 0) →
            (-2147483648 ≤ i3 + 1 ∧ i3 + 1 ≤ 2147483647) ∧
            (-2147483648 ≤ i4 + 1 ∧ i4 + 1 ≤ 2147483647) ∧
            X5 (i3 + 1) (i4 + 1)))))) → X5 i3 i4) →
  X5 0 0

def P_X7_highestOf (x0 : Int) (v : VT) (q : Int → Prop) : Prop :=
  ∀ X4 : Int → Int → Prop, (∀ (i1 : Int) (i2 : Int), (
    ((24 ≤ i2) →
      q i1) ∧
    ((i2 < 24) →
      P_X10_hasBit x0 i2 v (fun r12 =>
        ((r12 = 0) →
          (-2147483648 ≤ i2 + 1 ∧ i2 + 1 ≤ 2147483647) ∧
          X4 i1 (i2 + 1)) ∧
        ((¬ r12 = 0) →
          (-2147483648 ≤ i2 + 1 ∧ i2 + 1 ≤ 2147483647) ∧
          X4 i2 (i2 + 1))))) → X4 i1 i2) →
  X4 0 0

def P_X7_addCrossing : Nat → Int → Int → Int → VT → (VT → Prop) → Prop
  | 0, _, _, _, _, _ => False
  | n + 1, x1, x2, x3, v, q =>
    P_J6_bitCount_0f7a4 x1 v (fun r1 =>
      P_J6_bitCount_0f7a4 x2 v (fun r9 =>
        (-2147483648 ≤ r1 + r9 ∧ r1 + r9 ≤ 2147483647) ∧
        (((v 203 0) < (r1 + r9)) →
          ((x2 = 0) →
            ∀ v32 : VT, v32 = upd2 v 203 0 r1 →
            ∀ v37 : VT, v37 = upd2 v32 203 1 x1 →
            q v37) ∧
          ((¬ x2 = 0) →
            ((0 < x3) →
              P_X7_highestOf x2 v (fun r42 =>
                ∀ l6 : Int, l6 = (i_and x2 (i_xor (i_shl 1 r42) (-1))) →
                (-2147483648 ≤ x3 - 1 ∧ x3 - 1 ≤ 2147483647) ∧
                P_X7_addCrossing n x1 l6 (x3 - 1) v (fun v64 =>
                  (0 ≤ r42 ∧ r42 < 60) ∧
                  (-2147483648 ≤ x3 - 1 ∧ x3 - 1 ≤ 2147483647) ∧
                  P_X7_addCrossing n (i_or x1 (i_shl 1 r42)) (i_and l6 (v64 204 r42.toNat)) (x3 - 1) v64 (fun v87 =>
                    q v87)))) ∧
            ((x3 ≤ 0) →
              ∀ v32_1 : VT, v32_1 = upd2 v 203 0 r1 →
              ∀ v37_1 : VT, v37_1 = upd2 v32_1 203 1 x1 →
              q v37_1))) ∧
        (((r1 + r9) ≤ (v 203 0)) →
          q v)))

def P_X7_findCrossing  (v : VT) (q : VT → Prop) : Prop :=
  ∀ K66 : VT → Prop, (∀ (v66 : VT), (
    ∀ v68 : VT, v68 = upd2 v66 203 0 (-1) →
    ∀ v73 : VT, v73 = upd2 v68 203 1 0 →
    P_X10_allBits (v73 197 6) v73 (fun r82 =>
      P_X7_addCrossing 64 0 r82 (v73 197 6) v73 (fun v89 =>
        q v89))) → K66 v66) →
  ∀ X2 : Int → VT → Prop, (∀ (i2 : Int) (v2 : VT), (
    (((v2 197 6) ≤ i2) →
      K66 v2) ∧
    ((i2 < (v2 197 6)) →
      (0 ≤ i2 ∧ i2 < 60) ∧
      ∀ v16 : VT, v16 = upd2 v2 204 i2.toNat 0 →
      ∀ X19 : Int → VT → Prop, (∀ (i3 : Int) (v19 : VT), (
        (((v19 197 6) ≤ i3) →
          (-2147483648 ≤ i2 + 1 ∧ i2 + 1 ≤ 2147483647) ∧
          X2 (i2 + 1) v19) ∧
        ((i3 < (v19 197 6)) →
          ((i3 = i2) →
            (-2147483648 ≤ i3 + 1 ∧ i3 + 1 ≤ 2147483647) ∧
            X19 (i3 + 1) v19) ∧
          ((¬ i3 = i2) →
            P_X8_countPairs i2 i3 v19 (fun r35 =>
              ((¬ r35 = 4) →
                (-2147483648 ≤ i3 + 1 ∧ i3 + 1 ≤ 2147483647) ∧
                X19 (i3 + 1) v19) ∧
              ((r35 = 4) →
                (0 ≤ i2 ∧ i2 < 60) ∧
                (0 ≤ i2 ∧ i2 < 60) ∧
                ∀ v53 : VT, v53 = upd2 v19 204 i2.toNat (i_or (v19 204 i2.toNat) (i_shl 1 i3)) →
                (-2147483648 ≤ i3 + 1 ∧ i3 + 1 ≤ 2147483647) ∧
                X19 (i3 + 1) v53))))) → X19 i3 v19) →
      X19 0 v16)) → X2 i2 v2) →
  X2 0 v

def P_X8_doFit (x1 : Int) (x2 : Int) (v : VT) (q : Int → Prop) : Prop :=
  P_X8_halfOf x1 v (fun r2 =>
    P_X8_halfOf x2 v (fun r8 =>
      P_X10_allBits (v 197 5) v (fun r21 =>
        ((¬ (i_or r2 r8) = r21) →
          q 0) ∧
        (((i_or r2 r8) = r21) →
          (((i_and r2 r8) = 0) →
            q 0) ∧
          ((¬ (i_and r2 r8) = 0) →
            q 1)))))

def P_X7_addPair : Nat → Int → Int → Int → VT → (VT → Prop) → Prop
  | 0, _, _, _, _, _ => False
  | n + 1, x1, x2, x3, v, q =>
    ∀ v9 : VT, v9 = upd2 v 203 0 (max (v 203 0) x2) →
    ∀ K86 : Int → Int → Prop, (∀ (i4 : Int) (i6 : Int), (
      ((i4 = (-1)) →
        q v9) ∧
      ((¬ i4 = (-1)) →
        ((x2 ≤ 8) →
          ∀ X102 : Int → VT → Prop, (∀ (i7 : Int) (v102 : VT), (
            ((x3 ≤ i7) →
              q v102) ∧
            ((i7 < x3) →
              (-2147483648 ≤ x2 + (i_div i6 2) ∧ x2 + (i_div i6 2) ≤ 2147483647) ∧
              (((x2 + (i_div i6 2)) ≤ (v102 203 0)) →
                q v102) ∧
              (((v102 203 0) < (x2 + (i_div i6 2))) →
                (0 ≤ i4 ∧ i4 < 60) ∧
                P_X10_hasBit (i_and (v102 204 i4.toNat) x1) i7 v102 (fun r132 =>
                  ((r132 = 0) →
                    (-2147483648 ≤ i7 + 1 ∧ i7 + 1 ≤ 2147483647) ∧
                    X102 (i7 + 1) v102) ∧
                  ((¬ r132 = 0) →
                    (-2147483648 ≤ x2 + 1 ∧ x2 + 1 ≤ 2147483647) ∧
                    P_X7_addPair n (i_and (i_and x1 (i_xor (i_shl 1 i4) (-1))) (i_xor (i_shl 1 i7) (-1))) (x2 + 1) x3 v102 (fun v158 =>
                      (-2147483648 ≤ i7 + 1 ∧ i7 + 1 ≤ 2147483647) ∧
                      X102 (i7 + 1) v158)))))) → X102 i7 v102) →
          X102 0 v9) ∧
        ((8 < x2) →
          q v9))) → K86 i4 i6) →
    ∀ X24 : Int → Int → Int → Int → Prop, (∀ (i4_1 : Int) (i5 : Int) (i6_1 : Int) (i7_1 : Int), (
      ((x3 ≤ i7_1) →
        K86 i4_1 i6_1) ∧
      ((i7_1 < x3) →
        P_X10_hasBit x1 i7_1 v9 (fun r33 =>
          ∀ K55 : Int → Prop, (∀ (s0 : Int), (
            ((s0 ≤ 0) →
              (-2147483648 ≤ i7_1 + 1 ∧ i7_1 + 1 ≤ 2147483647) ∧
              X24 i4_1 i5 i6_1 (i7_1 + 1)) ∧
            ((0 < s0) →
              (-2147483648 ≤ i6_1 + 1 ∧ i6_1 + 1 ≤ 2147483647) ∧
              ((i5 ≤ s0) →
                (-2147483648 ≤ i7_1 + 1 ∧ i7_1 + 1 ≤ 2147483647) ∧
                X24 i4_1 i5 (i6_1 + 1) (i7_1 + 1)) ∧
              ((s0 < i5) →
                (-2147483648 ≤ i7_1 + 1 ∧ i7_1 + 1 ≤ 2147483647) ∧
                X24 i7_1 s0 (i6_1 + 1) (i7_1 + 1)))) → K55 s0) →
          ((r33 = 0) →
            K55 0) ∧
          ((¬ r33 = 0) →
            (0 ≤ i7_1 ∧ i7_1 < 60) ∧
            P_J6_bitCount_0f7a4 (i_and (v9 204 i7_1.toNat) x1) v9 (fun r48 =>
              K55 r48))))) → X24 i4_1 i5 i6_1 i7_1) →
    X24 (-1) x3 0 0

def P_X7_findPairs  (v : VT) (q : VT → Prop) : Prop :=
  (-2147483648 ≤ 2 * (v 197 6) ∧ 2 * (v 197 6) ≤ 2147483647) ∧
  ∀ l2 : Int, l2 = (2 * (v 197 6)) →
  ∀ K71 : VT → Prop, (∀ (v71 : VT), (
    ∀ v73 : VT, v73 = upd2 v71 203 0 0 →
    P_X10_allBits l2 v73 (fun r78 =>
      P_X7_addPair 12 r78 0 l2 v73 (fun v83 =>
        q v83))) → K71 v71) →
  ∀ X9 : Int → VT → Prop, (∀ (i3 : Int) (v9 : VT), (
    ((l2 ≤ i3) →
      K71 v9) ∧
    ((i3 < l2) →
      (0 ≤ i3 ∧ i3 < 60) ∧
      ∀ v20 : VT, v20 = upd2 v9 204 i3.toNat 0 →
      ∀ X24 : Int → VT → Prop, (∀ (i4 : Int) (v24 : VT), (
        ((l2 ≤ i4) →
          (-2147483648 ≤ i3 + 1 ∧ i3 + 1 ≤ 2147483647) ∧
          X9 (i3 + 1) v24) ∧
        ((i4 < l2) →
          ((i4 = i3) →
            (-2147483648 ≤ i4 + 1 ∧ i4 + 1 ≤ 2147483647) ∧
            X24 (i4 + 1) v24) ∧
          ((¬ i4 = i3) →
            P_X8_doFit i3 i4 v24 (fun r40 =>
              ((r40 = 0) →
                (-2147483648 ≤ i4 + 1 ∧ i4 + 1 ≤ 2147483647) ∧
                X24 (i4 + 1) v24) ∧
              ((¬ r40 = 0) →
                (0 ≤ i3 ∧ i3 < 60) ∧
                (0 ≤ i3 ∧ i3 < 60) ∧
                ∀ v58 : VT, v58 = upd2 v24 204 i3.toNat (i_or (v24 204 i3.toNat) (i_shl 1 i4)) →
                (-2147483648 ≤ i4 + 1 ∧ i4 + 1 ≤ 2147483647) ∧
                X24 (i4 + 1) v58))))) → X24 i4 v24) →
      X24 0 v20)) → X9 i3 v9) →
  X9 0 v

def P_X8_tell (x1 : Int) (x2 : Int) (x3 : Int) (v : VT) (q : VT → Prop) : Prop :=
  ∀ v2 : VT, v2 = upd2 v 197 2 x1 →
  ∀ v7 : VT, v7 = upd2 v2 197 3 x2 →
  ∀ v12 : VT, v12 = upd2 v7 197 4 x3 →
  q v12

def P_X8_findApart  (v : VT) (q : VT → Prop) : Prop :=
  ∀ X2 : Int → VT → Prop, (∀ (i2 : Int) (v2 : VT), (
    ((¬ (v2 197 2) = 0) →
      q v2) ∧
    (((v2 197 2) = 0) →
      (((v2 197 5) ≤ i2) →
        q v2) ∧
      ((i2 < (v2 197 5)) →
        (-2147483648 ≤ i2 + 1 ∧ i2 + 1 ≤ 2147483647) ∧
        ∀ X21 : Int → VT → Prop, (∀ (i3 : Int) (v21 : VT), (
          ((¬ (v21 197 2) = 0) →
            (-2147483648 ≤ i2 + 1 ∧ i2 + 1 ≤ 2147483647) ∧
            X2 (i2 + 1) v21) ∧
          (((v21 197 2) = 0) →
            (((v21 197 5) ≤ i3) →
              (-2147483648 ≤ i2 + 1 ∧ i2 + 1 ≤ 2147483647) ∧
              X2 (i2 + 1) v21) ∧
            ((i3 < (v21 197 5)) →
              (0 ≤ i2 ∧ i2 < 24) ∧
              (0 ≤ i3 ∧ i3 < 24) ∧
              ((¬ (v21 (141 + i2.toNat) i3.toNat) = (-1)) →
                (-2147483648 ≤ i3 + 1 ∧ i3 + 1 ≤ 2147483647) ∧
                X21 (i3 + 1) v21) ∧
              (((v21 (141 + i2.toNat) i3.toNat) = (-1)) →
                P_X8_tell 1 i2 i3 v21 (fun v52 =>
                  (-2147483648 ≤ i3 + 1 ∧ i3 + 1 ≤ 2147483647) ∧
                  X21 (i3 + 1) v52))))) → X21 i3 v21) →
        X21 (i2 + 1) v2))) → X2 i2 v2) →
  X2 0 v

def P_X8_findEquallyFar  (v : VT) (q : VT → Prop) : Prop :=
  ∀ X2 : Int → VT → Prop, (∀ (i3 : Int) (v2 : VT), (
    ((¬ (v2 197 2) = 0) →
      q v2) ∧
    (((v2 197 2) = 0) →
      (((v2 10 1) ≤ i3) →
        q v2) ∧
      ((i3 < (v2 10 1)) →
        (0 ≤ i3 ∧ i3 < 60) ∧
        (0 ≤ (v2 12 i3.toNat) ∧ (v2 12 i3.toNat) < 24) ∧
        (0 ≤ i3 ∧ i3 < 60) ∧
        (0 ≤ (v2 13 i3.toNat) ∧ (v2 13 i3.toNat) < 24) ∧
        ∀ X46 : Int → VT → Prop, (∀ (i6 : Int) (v46 : VT), (
          ((¬ (v46 197 2) = 0) →
            (-2147483648 ≤ i3 + 1 ∧ i3 + 1 ≤ 2147483647) ∧
            X2 (i3 + 1) v46) ∧
          (((v46 197 2) = 0) →
            (((v46 197 5) ≤ i6) →
              (-2147483648 ≤ i3 + 1 ∧ i3 + 1 ≤ 2147483647) ∧
              X2 (i3 + 1) v46) ∧
            ((i6 < (v46 197 5)) →
              (0 ≤ i6 ∧ i6 < 24) ∧
              (0 ≤ i6 ∧ i6 < 24) ∧
              ((¬ (v46 (141 + (v2 12 i3.toNat).toNat) i6.toNat) = (v46 (141 + (v2 13 i3.toNat).toNat) i6.toNat)) →
                (-2147483648 ≤ i6 + 1 ∧ i6 + 1 ≤ 2147483647) ∧
                X46 (i6 + 1) v46) ∧
              (((v46 (141 + (v2 12 i3.toNat).toNat) i6.toNat) = (v46 (141 + (v2 13 i3.toNat).toNat) i6.toNat)) →
                P_X8_tell 2 i3 i6 v46 (fun v80 =>
                  (-2147483648 ≤ i6 + 1 ∧ i6 + 1 ≤ 2147483647) ∧
                  X46 (i6 + 1) v80))))) → X46 i6 v46) →
        X46 0 v2))) → X2 i3 v2) →
  X2 0 v

def P_X8_findNotAlike  (v : VT) (q : VT → Prop) : Prop :=
  ∀ X3 : Int → VT → Prop, (∀ (i4 : Int) (v3 : VT), (
    ((¬ (v3 197 2) = 0) →
      q v3) ∧
    (((v3 197 2) = 0) →
      (((v3 10 1) ≤ i4) →
        q v3) ∧
      ((i4 < (v3 10 1)) →
        (-2147483648 ≤ i4 + 1 ∧ i4 + 1 ≤ 2147483647) ∧
        ∀ X25 : Int → VT → Prop, (∀ (i5 : Int) (v25 : VT), (
          ((¬ (v25 197 2) = 0) →
            (-2147483648 ≤ i4 + 1 ∧ i4 + 1 ≤ 2147483647) ∧
            X3 (i4 + 1) v25) ∧
          (((v25 197 2) = 0) →
            (((v25 10 1) ≤ i5) →
              (-2147483648 ≤ i4 + 1 ∧ i4 + 1 ≤ 2147483647) ∧
              X3 (i4 + 1) v25) ∧
            ((i5 < (v25 10 1)) →
              (0 ≤ i4 ∧ i4 < 60) ∧
              (0 ≤ i5 ∧ i5 < 60) ∧
              ((¬ (v25 192 i4.toNat) = (v25 192 i5.toNat)) →
                (-2147483648 ≤ i5 + 1 ∧ i5 + 1 ≤ 2147483647) ∧
                X25 (i5 + 1) v25) ∧
              (((v25 192 i4.toNat) = (v25 192 i5.toNat)) →
                P_X2_areAlike i4 i5 v25 (fun r64 =>
                  ((¬ r64 = 0) →
                    (-2147483648 ≤ i5 + 1 ∧ i5 + 1 ≤ 2147483647) ∧
                    X25 (i5 + 1) v25) ∧
                  ((r64 = 0) →
                    P_X8_tell 3 i4 i5 v25 (fun v76 =>
                      (-2147483648 ≤ i5 + 1 ∧ i5 + 1 ≤ 2147483647) ∧
                      X25 (i5 + 1) v76))))))) → X25 i5 v25) →
        X25 (i4 + 1) v3))) → X3 i4 v3) →
  X3 0 v

def P_X8_findReason  (v : VT) (q : VT → Prop) : Prop :=
  ∀ v2 : VT, v2 = upd2 v 197 2 0 →
  ∀ v7 : VT, v7 = upd2 v2 197 3 (-1) →
  ∀ v12 : VT, v12 = upd2 v7 197 4 (-1) →
  P_X8_findApart  v12 (fun v17 =>
    ((¬ (v17 197 2) = 0) →
      ((¬ (v17 197 2) = 0) →
        q v17) ∧
      (((v17 197 2) = 0) →
        P_X8_findNotAlike  v17 (fun v44 =>
          q v44))) ∧
    (((v17 197 2) = 0) →
      P_X8_findEquallyFar  v17 (fun v30 =>
        ((¬ (v30 197 2) = 0) →
          q v30) ∧
        (((v30 197 2) = 0) →
          P_X8_findNotAlike  v30 (fun v44_1 =>
            q v44_1)))))

def P_X8_part (x1 : Int) (a2 : Nat) (a3 : Nat) (v : VT) (q : VT → Prop) : Prop :=
  (0 ≤ x1 ∧ x1 < 60) ∧
  ∀ v6 : VT, v6 = upd2 v 199 x1.toNat 0 →
  ∀ X10 : Int → VT → Prop, (∀ (i4 : Int) (v10 : VT), (
    (((v10 197 5) ≤ i4) →
      q v10) ∧
    ((i4 < (v10 197 5)) →
      (0 ≤ i4 ∧ i4 < 24) ∧
      (0 ≤ i4 ∧ i4 < 24) ∧
      (((v10 a2 i4.toNat) < (v10 a3 i4.toNat)) →
        (-2147483648 ≤ i4 + 1 ∧ i4 + 1 ≤ 2147483647) ∧
        X10 (i4 + 1) v10) ∧
      (((v10 a3 i4.toNat) ≤ (v10 a2 i4.toNat)) →
        (0 ≤ x1 ∧ x1 < 60) ∧
        (0 ≤ x1 ∧ x1 < 60) ∧
        ∀ v42 : VT, v42 = upd2 v10 199 x1.toNat (i_or (v10 199 x1.toNat) (i_shl 1 i4)) →
        (0 ≤ i4 ∧ i4 < 24) ∧
        (0 ≤ i4 ∧ i4 < 24) ∧
        ∀ v55 : VT, v55 = upd2 v42 198 i4.toNat (i_or (v42 198 i4.toNat) (i_shl 1 x1)) →
        (-2147483648 ≤ i4 + 1 ∧ i4 + 1 ≤ 2147483647) ∧
        X10 (i4 + 1) v55))) → X10 i4 v10) →
  X10 0 v6

def P_X8_settle  (v : VT) (q : VT → Prop) : Prop :=
  ∀ v5 : VT, v5 = upd2 v 197 5 (v 10 0) →
  P_X8_findReason  v5 (fun v12 =>
    ∀ K35 : Int → Prop, (∀ (s0 : Int), (
      (s0 = 0 ∨ s0 = 1) ∧
      ∀ v35 : VT, v35 = upd2 v12 197 1 s0 →
      ∀ K54 : Int → Prop, (∀ (s0_1 : Int), (
        ∀ v54 : VT, v54 = upd2 v35 197 6 s0_1 →
        ∀ K83 : VT → Prop, (∀ (v83 : VT), (
          ∀ X86 : Int → VT → Prop, (∀ (i4 : Int) (v86 : VT), (
            (((v86 197 6) ≤ i4) →
              ∀ v143 : VT, v143 = upd2 v86 197 0 1 →
              q v143) ∧
            ((i4 < (v86 197 6)) →
              (0 ≤ i4 ∧ i4 < 60) ∧
              (0 ≤ (v86 194 i4.toNat) ∧ (v86 194 i4.toNat) < 60) ∧
              (0 ≤ (v86 12 (v86 194 i4.toNat).toNat) ∧ (v86 12 (v86 194 i4.toNat).toNat) < 24) ∧
              (0 ≤ i4 ∧ i4 < 60) ∧
              (0 ≤ (v86 194 i4.toNat) ∧ (v86 194 i4.toNat) < 60) ∧
              (0 ≤ (v86 13 (v86 194 i4.toNat).toNat) ∧ (v86 13 (v86 194 i4.toNat).toNat) < 24) ∧
              P_X8_part i4 (141 + (v86 12 (v86 194 i4.toNat).toNat).toNat) (141 + (v86 13 (v86 194 i4.toNat).toNat).toNat) v86 (fun v132 =>
                (-2147483648 ≤ i4 + 1 ∧ i4 + 1 ≤ 2147483647) ∧
                X86 (i4 + 1) v132))) → X86 i4 v86) →
          X86 0 v83) → K83 v83) →
        ∀ X60 : Int → VT → Prop, (∀ (i4_1 : Int) (v60 : VT), (
          (((v60 197 5) ≤ i4_1) →
            K83 v60) ∧
          ((i4_1 < (v60 197 5)) →
            (0 ≤ i4_1 ∧ i4_1 < 24) ∧
            ∀ v76 : VT, v76 = upd2 v60 198 i4_1.toNat 0 →
            (-2147483648 ≤ i4_1 + 1 ∧ i4_1 + 1 ≤ 2147483647) ∧
            X60 (i4_1 + 1) v76)) → X60 i4_1 v60) →
        X60 0 v54) → K54 s0_1) →
      (((v35 197 1) = 0) →
        K54 0) ∧
      ((¬ (v35 197 1) = 0) →
        K54 (v35 191 1))) → K35 s0) →
    ∀ K34 : Prop, ((
      K35 0) → K34) →
    ((¬ (v12 197 2) = 0) →
      K34) ∧
    (((v12 197 2) = 0) →
      (((v12 197 5) ≤ 0) →
        K34) ∧
      ((0 < (v12 197 5)) →
        K35 1)))

def P_X8_nodeAt (x1 : Int) (v : VT) (q : Int → Prop) : Prop :=
  ∀ X2 : Int → Prop, (∀ (i2 : Int), (
    (((v 197 5) ≤ i2) →
      q (-1)) ∧
    ((i2 < (v 197 5)) →
      (0 ≤ i2 ∧ i2 < 24) ∧
      ((¬ (v 198 i2.toNat) = x1) →
        (-2147483648 ≤ i2 + 1 ∧ i2 + 1 ≤ 2147483647) ∧
        X2 (i2 + 1)) ∧
      (((v 198 i2.toNat) = x1) →
        q i2))) → X2 i2) →
  X2 0

def P_X8_costOf (x1 : Int) (v : VT) (q : Int → Prop) : Prop :=
  (0 ≤ x1 ∧ x1 < 60) ∧
  P_J6_bitCount_0f7a4 (v 199 x1.toNat) v (fun r6 =>
    (-2147483648 ≤ (v 197 5) - r6 ∧ (v 197 5) - r6 ≤ 2147483647) ∧
    (-2147483648 ≤ r6 * ((v 197 5) - r6) ∧ r6 * ((v 197 5) - r6) ≤ 2147483647) ∧
    q (r6 * ((v 197 5) - r6)))

def P_X8_acrossFrom (x1 : Int) (x2 : Int) (v : VT) (q : Int → Prop) : Prop :=
  (0 ≤ x2 ∧ x2 < 60) ∧
  (((i_and x1 (v 199 x2.toNat)) = 0) →
    ∀ X18 : Int → Int → Prop, (∀ (i3 : Int) (i4 : Int), (
      (((v 197 5) ≤ i4) →
        q i3) ∧
      ((i4 < (v 197 5)) →
        P_X10_hasBit x1 i4 v (fun r30 =>
          ((r30 = 0) →
            (-2147483648 ≤ i4 + 1 ∧ i4 + 1 ≤ 2147483647) ∧
            X18 i3 (i4 + 1)) ∧
          ((¬ r30 = 0) →
            (0 ≤ i4 ∧ i4 < 24) ∧
            P_X8_nodeAt (i_or (v 198 i4.toNat) (i_shl 1 x2)) v (fun r48 =>
              ((¬ r48 = (-1)) →
                ∀ l3 : Int, l3 = (i_or i3 (i_shl 1 r48)) →
                (-2147483648 ≤ i4 + 1 ∧ i4 + 1 ≤ 2147483647) ∧
                X18 l3 (i4 + 1)) ∧
              ((r48 = (-1)) →
                q 0)))))) → X18 i3 i4) →
    X18 0 0) ∧
  ((¬ (i_and x1 (v 199 x2.toNat)) = 0) →
    q 0)

def P_X8_cubesOn : Nat → Int → Int → Int → VT → (Int → Prop) → Prop
  | 0, _, _, _, _, _ => False
  | n + 1, x1, x2, x3, v, q =>
    ((0 < x3) →
      ∀ X12 : Int → Int → Prop, (∀ (i4 : Int) (i5 : Int), (
        (((v 197 6) ≤ i5) →
          q i4) ∧
        ((i5 < (v 197 6)) →
          P_X8_acrossFrom x1 i5 v (fun r25 =>
            ((r25 = 0) →
              (-2147483648 ≤ i5 + 1 ∧ i5 + 1 ≤ 2147483647) ∧
              X12 i4 (i5 + 1)) ∧
            ((¬ r25 = 0) →
              (-2147483648 ≤ i5 + 1 ∧ i5 + 1 ≤ 2147483647) ∧
              (-2147483648 ≤ x3 - 1 ∧ x3 - 1 ≤ 2147483647) ∧
              P_X8_cubesOn n (i_or x1 r25) (i5 + 1) (x3 - 1) v (fun r49 =>
                (-2147483648 ≤ i4 + r49 ∧ i4 + r49 ≤ 2147483647) ∧
                (-2147483648 ≤ i5 + 1 ∧ i5 + 1 ≤ 2147483647) ∧
                X12 (i4 + r49) (i5 + 1)))))) → X12 i4 i5) →
      X12 0 x2) ∧
    ((x3 ≤ 0) →
      q 1)

def P_X8_countCubes (x1 : Int) (v : VT) (q : Int → Prop) : Prop :=
  ∀ X4 : Int → Int → Prop, (∀ (i2 : Int) (i3 : Int), (
    ((4 < x1) →
      q i2) ∧
    ((x1 ≤ 4) →
      (((v 197 5) ≤ i3) →
        q i2) ∧
      ((i3 < (v 197 5)) →
        P_X8_cubesOn 6 (i_shl 1 i3) 0 x1 v (fun r24 =>
          (-2147483648 ≤ i2 + r24 ∧ i2 + r24 ≤ 2147483647) ∧
          (-2147483648 ≤ i3 + 1 ∧ i3 + 1 ≤ 2147483647) ∧
          X4 (i2 + r24) (i3 + 1))))) → X4 i2 i3) →
  X4 0 0

def P_X9_put (x1 : Int) (v : VT) (q : VT → Prop) : Prop :=
  ∀ X3 : Int → VT → Prop, (∀ (i2 : Int) (v3 : VT), (
    ((i2 < 0) →
      q v3) ∧
    ((0 ≤ i2) →
      ((800 ≤ (v3 1 1)) →
        q v3) ∧
      (((v3 1 1) < 800) →
        (0 ≤ (v3 1 1) ∧ (v3 1 1) < 800) ∧
        ∀ v32 : VT, v32 = upd2 v3 2 (v3 1 1).toNat (i_and (i_shr x1 i2) 255) →
        (-2147483648 ≤ (v32 1 1) + 1 ∧ (v32 1 1) + 1 ≤ 2147483647) ∧
        ∀ v40 : VT, v40 = upd2 v32 1 1 ((v32 1 1) + 1) →
        (-2147483648 ≤ i2 + (-8) ∧ i2 + (-8) ≤ 2147483647) ∧
        X3 (i2 + (-8)) v40))) → X3 i2 v3) →
  X3 24 v

def P_X10_refuse (x1 : Int) (v : VT) (q : Int → VT → Prop) : Prop :=
  (0 ≤ x1 ∧ x1 < 6) ∧
  (-2147483648 ≤ (v 217 x1.toNat) + 1 ∧ (v 217 x1.toNat) + 1 ≤ 2147483647) ∧
  (0 ≤ x1 ∧ x1 < 6) ∧
  ∀ v9 : VT, v9 = upd2 v 217 x1.toNat ((v 217 x1.toNat) + 1) →
  q (-1) v9

def P_X10_feed (x1 : Int) (x2 : Int) (x3 : Int) (x4 : Int) (x5 : Int) (v : VT) (q : Int → VT → Prop) : Prop :=
  (-2147483648 ≤ (v 1 1) + 20 ∧ (v 1 1) + 20 ≤ 2147483647) ∧
  ((((v 1 1) + 20) ≤ 800) →
    P_X9_put x1 v (fun v27 =>
      P_X9_put x2 v27 (fun v35 =>
        P_X9_put x3 v35 (fun v43 =>
          P_X9_put x4 v43 (fun v52 =>
            P_X9_put x5 v52 (fun v61 =>
              q (v61 1 1) v61)))))) ∧
  ((800 < ((v 1 1) + 20)) →
    P_X10_refuse 0 v (fun r18 v18 =>
      q r18 v18))

def P_X10_deny (x1 : Int) (v : VT) (q : Int → VT → Prop) : Prop :=
  (0 ≤ x1 ∧ x1 < 6) ∧
  (-2147483648 ≤ (v 217 x1.toNat) + 1 ∧ (v 217 x1.toNat) + 1 ≤ 2147483647) ∧
  (0 ≤ x1 ∧ x1 < 6) ∧
  ∀ v9 : VT, v9 = upd2 v 217 x1.toNat ((v 217 x1.toNat) + 1) →
  q 0 v9

def P_X10_end (x1 : Int) (v : VT) (q : Int → VT → Prop) : Prop :=
  ((x1 < 0) →
    P_X10_deny 0 v (fun r17 v17 =>
      (r17 = 0 ∨ r17 = 1) ∧
      q r17 v17)) ∧
  ((0 ≤ x1) →
    ((x1 ≤ (v 1 1)) →
      ∀ v26 : VT, v26 = upd2 v 1 1 x1 →
      q 1 v26) ∧
    (((v 1 1) < x1) →
      P_X10_deny 0 v (fun r17_1 v17_1 =>
        (r17_1 = 0 ∨ r17_1 = 1) ∧
        q r17_1 v17_1)))

def P_X10_changed  (v : VT) (q : VT → Prop) : Prop :=
  ∀ v5 : VT, v5 = upd2 v 138 0 0 →
  ∀ v13 : VT, v13 = upd2 v5 191 0 0 →
  ∀ v21 : VT, v21 = upd2 v13 197 0 0 →
  q v21

def P_X10_net  (v : VT) (q : Int → VT → Prop) : Prop :=
  P_X5_readNet  v (fun v8 =>
    ∀ v16 : VT, v16 = upd2 v8 1 1 0 →
    (((v16 3 1) = 0) →
      P_X0_takeFrom 10 4 v16 (fun v46 =>
        P_X3_forget  v46 (fun v53 =>
          ∀ v58 : VT, v58 = upd2 v53 0 15 0 →
          ∀ v63 : VT, v63 = upd2 v58 0 16 0 →
          P_X10_changed  v63 (fun v67 =>
            q (v67 3 3) v67)))) ∧
    ((¬ (v16 3 1) = 0) →
      P_X10_refuse 1 v16 (fun r31 v31 =>
        q r31 v31)))

def P_X10_fault (x1 : Int) (v : VT) (q : Int → Prop) : Prop :=
  ((¬ x1 = 0) →
    ((¬ x1 = 1) →
      q (-1)) ∧
    ((x1 = 1) →
      q (v 3 2))) ∧
  ((x1 = 0) →
    q (v 3 1))

def P_X10_measured  (v : VT) (q : VT → Prop) : Prop :=
  ((¬ (v 138 0) = 0) →
    q v) ∧
  (((v 138 0) = 0) →
    P_X2_measure  v (fun v18 =>
      q v18))

def P_X10_sorted  (v : VT) (q : VT → Prop) : Prop :=
  P_X10_measured  v (fun v1 =>
    ((¬ (v1 191 0) = 0) →
      q v1) ∧
    (((v1 191 0) = 0) →
      P_X1_collect  v1 (fun v27 =>
        q v27)))

def P_X10_seated  (v : VT) (q : VT → Prop) : Prop :=
  P_X10_measured  v (fun v1 =>
    ∀ K30 : VT → Prop, (∀ (v30 : VT), (
      ((¬ (v30 197 0) = 0) →
        q v30) ∧
      (((v30 197 0) = 0) →
        P_X8_settle  v30 (fun v56 =>
          q v56))) → K30 v30) →
    ((¬ (v1 191 0) = 0) →
      K30 v1) ∧
    (((v1 191 0) = 0) →
      P_X1_collect  v1 (fun v27 =>
        K30 v27)))

def P_X10_has (x1 : Int) (v : VT) (q : Int → VT → Prop) : Prop :=
  ((x1 = 0) →
    q (v 10 0) v) ∧
  ((x1 = 1) →
    q (v 10 1) v) ∧
  ((x1 = 2) →
    P_X10_sorted  v (fun v65 =>
      q (v65 191 1) v65)) ∧
  ((x1 = 3) →
    q (v 0 15) v) ∧
  ((x1 = 4) →
    q (v 0 16) v) ∧
  ((x1 = 5) →
    q (v 16 0) v) ∧
  ((x1 = 6) →
    P_X10_seated  v (fun v91 =>
      q (v91 197 2) v91)) ∧
  ((x1 = 7) →
    P_X10_sorted  v (fun v99 =>
      P_X1_isFair  v99 (fun r106 =>
        ((r106 = 0) →
          q 0 v99) ∧
        ((¬ r106 = 0) →
          q 1 v99)))) ∧
  ((x1 < 0 ∨ 7 < x1) →
    q (-1) v)

def P_X10_letterOf (x0 : Int) (x1 : Int) (v : VT) (q : Int → Prop) : Prop :=
  (-2147483648 ≤ 5 * x1 ∧ 5 * x1 ≤ 2147483647) ∧
  q (i_and (i_shr x0 (5 * x1)) 31)

def P_X10_letter (x1 : Int) (x2 : Int) (v : VT) (q : Int → Prop) : Prop :=
  P_X0_isNode 10 x1 v (fun r5 =>
    ((r5 = 0) →
      q (-1)) ∧
    ((¬ r5 = 0) →
      ((x2 < 0) →
        q (-1)) ∧
      ((0 ≤ x2) →
        ((x2 < 4) →
          (0 ≤ x1 ∧ x1 < 24) ∧
          P_X10_letterOf (v 11 x1.toNat) x2 v (fun r32 =>
            q r32)) ∧
        ((4 ≤ x2) →
          q (-1)))))

def P_X10_named  (v : VT) (q : Int → VT → Prop) : Prop :=
  P_X5_readName  v (fun r8 v8 =>
    ∀ v17 : VT, v17 = upd2 v8 1 1 0 →
    P_X0_findName 10 r8 v17 (fun r25 =>
      q r25 v17))

def P_X10_line (x1 : Int) (x2 : Int) (v : VT) (q : Int → VT → Prop) : Prop :=
  P_X0_isLine 10 x1 v (fun r5 =>
    ((¬ r5 = 0) →
      ((x2 = 0) →
        (0 ≤ x1 ∧ x1 < 60) ∧
        q (v 12 x1.toNat) v) ∧
      ((x2 = 1) →
        (0 ≤ x1 ∧ x1 < 60) ∧
        q (v 13 x1.toNat) v) ∧
      ((x2 = 2) →
        P_X10_sorted  v (fun v65 =>
          (0 ≤ x1 ∧ x1 < 60) ∧
          q (v65 192 x1.toNat) v65)) ∧
      ((x2 = 3) →
        (0 ≤ x1 ∧ x1 < 60) ∧
        q (v 14 x1.toNat) v) ∧
      ((x2 < 0 ∨ 3 < x2) →
        q (-1) v)) ∧
    ((r5 = 0) →
      q (-1) v))

def P_X10_degree (x1 : Int) (v : VT) (q : Int → VT → Prop) : Prop :=
  P_X0_isNode 10 x1 v (fun r5 =>
    ((¬ r5 = 0) →
      P_X10_measured  v (fun v14 =>
        (0 ≤ x1 ∧ x1 < 24) ∧
        P_J6_bitCount_0f7a4 (v14 139 x1.toNat) v14 (fun r22 =>
          q r22 v14))) ∧
    ((r5 = 0) →
      q (-1) v))

def P_X10_areNodes (x1 : Int) (x2 : Int) (v : VT) (q : Int → Prop) : Prop :=
  P_X0_isNode 10 x1 v (fun r5 =>
    ((r5 = 0) →
      q 0) ∧
    ((¬ r5 = 0) →
      P_X0_isNode 10 x2 v (fun r16 =>
        ((r16 = 0) →
          q 0) ∧
        ((¬ r16 = 0) →
          q 1))))

def P_X10_far (x1 : Int) (x2 : Int) (v : VT) (q : Int → VT → Prop) : Prop :=
  P_X10_areNodes x1 x2 v (fun r3 =>
    ((¬ r3 = 0) →
      P_X10_measured  v (fun v12 =>
        (0 ≤ x1 ∧ x1 < 24) ∧
        (0 ≤ x2 ∧ x2 < 24) ∧
        q (v12 (141 + x1.toNat) x2.toNat) v12)) ∧
    ((r3 = 0) →
      q (-1) v))

def P_X10_ways (x1 : Int) (x2 : Int) (v : VT) (q : Int → VT → Prop) : Prop :=
  P_X10_areNodes x1 x2 v (fun r3 =>
    ((¬ r3 = 0) →
      P_X10_measured  v (fun v12 =>
        P_X2_countWays x1 x2 v12 (fun r17 v17 =>
          q r17 v17))) ∧
    ((r3 = 0) →
      q (-1) v))

def P_X10_between (x1 : Int) (x2 : Int) (v : VT) (q : Int → VT → Prop) : Prop :=
  P_X10_areNodes x1 x2 v (fun r3 =>
    ((¬ r3 = 0) →
      P_X10_measured  v (fun v12 =>
        P_X2_amid x1 x2 v12 (fun r17 v17 =>
          q r17 v17))) ∧
    ((r3 = 0) →
      q (-1) v))

def P_X10_reach (x1 : Int) (v : VT) (q : Int → VT → Prop) : Prop :=
  P_X0_isNode 10 x1 v (fun r5 =>
    ((¬ r5 = 0) →
      P_X10_measured  v (fun v14 =>
        P_X2_mostFrom x1 v14 (fun r18 =>
          q r18 v14))) ∧
    ((r5 = 0) →
      q (-1) v))

def P_X10_price (x1 : Int) (x2 : Int) (x3 : Int) (v : VT) (q : Int → VT → Prop) : Prop :=
  ((x3 < 0) →
    q (-1) v) ∧
  ((0 ≤ x3) →
    ((1 < x3) →
      q (-1) v) ∧
    ((x3 ≤ 1) →
      P_X10_areNodes x1 x2 v (fun r12 =>
        ((r12 = 0) →
          q (-1) v) ∧
        ((¬ r12 = 0) →
          P_X10_measured  v (fun v19 =>
            (0 ≤ x1 ∧ x1 < 24) ∧
            (0 ≤ x2 ∧ x2 < 24) ∧
            ((¬ (v19 (141 + x1.toNat) x2.toNat) = (-1)) →
              ((¬ x3 = 1) →
                P_X6_weigh x2 0 v19 (fun v54 =>
                  (0 ≤ x1 ∧ x1 < 24) ∧
                  q (v54 201 x1.toNat) v54)) ∧
              ((x3 = 1) →
                P_X6_weigh x2 1 v19 (fun v54_1 =>
                  (0 ≤ x1 ∧ x1 < 24) ∧
                  q (v54_1 201 x1.toNat) v54_1))) ∧
            (((v19 (141 + x1.toNat) x2.toNat) = (-1)) →
              q (-1) v19))))))

def P_X10_road (x1 : Int) (x2 : Int) (x3 : Int) (v : VT) (q : Int → VT → Prop) : Prop :=
  ((x3 < (-1)) →
    q (-1) v) ∧
  (((-1) ≤ x3) →
    ((24 ≤ x3) →
      q (-1) v) ∧
    ((x3 < 24) →
      P_X10_areNodes x1 x2 v (fun r14 =>
        ((r14 = 0) →
          q (-1) v) ∧
        ((¬ r14 = 0) →
          P_X10_measured  v (fun v21 =>
            (0 ≤ x1 ∧ x1 < 24) ∧
            (0 ≤ x2 ∧ x2 < 24) ∧
            ((¬ (v21 (141 + x1.toNat) x2.toNat) = (-1)) →
              P_X6_weigh x2 0 v21 (fun v47 =>
                P_X6_walk x1 x2 v47 (fun v60 =>
                  ((¬ x3 = (-1)) →
                    (((v60 200 2) ≤ x3) →
                      q (-1) v60) ∧
                    ((x3 < (v60 200 2)) →
                      (0 ≤ x3 ∧ x3 < 24) ∧
                      q (v60 202 x3.toNat) v60)) ∧
                  ((x3 = (-1)) →
                    q (v60 200 2) v60)))) ∧
            (((v21 (141 + x1.toNat) x2.toNat) = (-1)) →
              q (-1) v21))))))

def P_X10_spread  (v : VT) (q : Int → VT → Prop) : Prop :=
  P_X10_measured  v (fun v1 =>
    P_X2_sumAll  v1 (fun r4 =>
      q r4 v1))

def P_X10_alike (x1 : Int) (x2 : Int) (v : VT) (q : Int → VT → Prop) : Prop :=
  P_X0_isLine 10 x1 v (fun r5 =>
    ((r5 = 0) →
      q (-1) v) ∧
    ((¬ r5 = 0) →
      P_X0_isLine 10 x2 v (fun r16 =>
        ((¬ r16 = 0) →
          P_X10_measured  v (fun v25 =>
            P_X2_areAlike x1 x2 v25 (fun r34 =>
              ((r34 = 0) →
                q 0 v25) ∧
              ((¬ r34 = 0) →
                q 1 v25)))) ∧
        ((r16 = 0) →
          q (-1) v))))

def P_X10_isKind (x1 : Int) (v : VT) (q : Int → VT → Prop) : Prop :=
  ((x1 < 0) →
    q 0 v) ∧
  ((0 ≤ x1) →
    P_X10_sorted  v (fun v6 =>
      (((v6 191 1) ≤ x1) →
        q 0 v6) ∧
      ((x1 < (v6 191 1)) →
        q 1 v6)))

def P_X10_isDirection (x1 : Int) (v : VT) (q : Int → VT → Prop) : Prop :=
  P_X10_seated  v (fun v1 =>
    (((v1 197 1) = 0) →
      q 0 v1) ∧
    ((¬ (v1 197 1) = 0) →
      ((x1 < 0) →
        q 0 v1) ∧
      ((0 ≤ x1) →
        (((v1 197 6) ≤ x1) →
          q 0 v1) ∧
        ((x1 < (v1 197 6)) →
          q 1 v1))))

def P_X10_sort (x1 : Int) (x2 : Int) (v : VT) (q : Int → VT → Prop) : Prop :=
  P_X10_isKind x1 v (fun r2 v2 =>
    ((¬ r2 = 0) →
      ((x2 = 0) →
        (0 ≤ x1 ∧ x1 < 60) ∧
        q (v2 193 x1.toNat) v2) ∧
      ((x2 = 1) →
        (0 ≤ x1 ∧ x1 < 60) ∧
        q (v2 194 x1.toNat) v2) ∧
      ((x2 = 2) →
        P_X10_isDirection x1 v2 (fun r62 v62 =>
          ((r62 = 0) →
            q (-1) v62) ∧
          ((¬ r62 = 0) →
            P_X8_costOf x1 v62 (fun r73 =>
              q r73 v62)))) ∧
      ((x2 = 3) →
        P_X10_isDirection x1 v2 (fun r83 v83 =>
          ((r83 = 0) →
            q (-1) v83) ∧
          ((¬ r83 = 0) →
            (0 ≤ x1 ∧ x1 < 60) ∧
            q (v83 199 x1.toNat) v83))) ∧
      ((x2 < 0 ∨ 3 < x2) →
        q (-1) v2)) ∧
    ((r2 = 0) →
      q (-1) v2))

def P_X10_shows (x1 : Int) (v : VT) (q : Int → VT → Prop) : Prop :=
  P_X10_seated  v (fun v1 =>
    ((¬ (v1 197 2) = 0) →
      ((¬ x1 = 0) →
        ((¬ x1 = 1) →
          q (-1) v1) ∧
        ((x1 = 1) →
          q (v1 197 4) v1)) ∧
      ((x1 = 0) →
        q (v1 197 3) v1)) ∧
    (((v1 197 2) = 0) →
      q (-1) v1))

def P_X10_sides (x1 : Int) (v : VT) (q : Int → VT → Prop) : Prop :=
  P_X10_seated  v (fun v1 =>
    (((v1 197 1) = 0) →
      q (-1) v1) ∧
    ((¬ (v1 197 1) = 0) →
      P_X0_isNode 10 x1 v1 (fun r15 =>
        ((¬ r15 = 0) →
          (0 ≤ x1 ∧ x1 < 24) ∧
          q (v1 198 x1.toNat) v1) ∧
        ((r15 = 0) →
          q (-1) v1))))

def P_X10_at (x1 : Int) (v : VT) (q : Int → VT → Prop) : Prop :=
  P_X10_seated  v (fun v1 =>
    (((v1 197 1) = 0) →
      q (-1) v1) ∧
    ((¬ (v1 197 1) = 0) →
      P_X8_nodeAt x1 v1 (fun r15 =>
        q r15 v1)))

def P_X10_cross (x1 : Int) (x2 : Int) (v : VT) (q : Int → VT → Prop) : Prop :=
  ((x1 = x2) →
    q (-1) v) ∧
  ((¬ x1 = x2) →
    P_X10_isDirection x1 v (fun r7 v7 =>
      ((r7 = 0) →
        q (-1) v7) ∧
      ((¬ r7 = 0) →
        P_X10_isDirection x2 v7 (fun r15 v15 =>
          ((¬ r15 = 0) →
            P_X8_countPairs x1 x2 v15 (fun r29 =>
              q r29 v15)) ∧
          ((r15 = 0) →
            q (-1) v15)))))

def P_X10_isHalf (x1 : Int) (v : VT) (q : Int → VT → Prop) : Prop :=
  P_X10_seated  v (fun v1 =>
    (((v1 197 1) = 0) →
      q 0 v1) ∧
    ((¬ (v1 197 1) = 0) →
      ((x1 < 0) →
        q 0 v1) ∧
      ((0 ≤ x1) →
        (-2147483648 ≤ 2 * (v1 197 6) ∧ 2 * (v1 197 6) ≤ 2147483647) ∧
        (((2 * (v1 197 6)) ≤ x1) →
          q 0 v1) ∧
        ((x1 < (2 * (v1 197 6))) →
          q 1 v1))))

def P_X10_fit (x1 : Int) (x2 : Int) (v : VT) (q : Int → VT → Prop) : Prop :=
  ((x1 = x2) →
    q (-1) v) ∧
  ((¬ x1 = x2) →
    P_X10_isHalf x1 v (fun r7 v7 =>
      ((r7 = 0) →
        q (-1) v7) ∧
      ((¬ r7 = 0) →
        P_X10_isHalf x2 v7 (fun r15 v15 =>
          ((¬ r15 = 0) →
            P_X8_doFit x1 x2 v15 (fun r29 =>
              ((r29 = 0) →
                q 0 v15) ∧
              ((¬ r29 = 0) →
                q 1 v15))) ∧
          ((r15 = 0) →
            q (-1) v15)))))

def P_X10_cubes (x1 : Int) (v : VT) (q : Int → VT → Prop) : Prop :=
  ((x1 < 0) →
    q (-1) v) ∧
  ((0 ≤ x1) →
    P_X10_seated  v (fun v5 =>
      ((¬ (v5 197 1) = 0) →
        P_X8_countCubes x1 v5 (fun r21 =>
          q r21 v5)) ∧
      (((v5 197 1) = 0) →
        q (-1) v5)))

def P_X10_most (x1 : Int) (v : VT) (q : Int → VT → Prop) : Prop :=
  ((x1 < 0) →
    q (-1) v) ∧
  ((0 ≤ x1) →
    ((1 < x1) →
      q (-1) v) ∧
    ((x1 ≤ 1) →
      P_X10_seated  v (fun v10 =>
        ((¬ (v10 197 1) = 0) →
          P_X7_findCrossing  v10 (fun v29 =>
            ((¬ x1 = 0) →
              q (v29 203 1) v29) ∧
            ((x1 = 0) →
              q (v29 203 0) v29))) ∧
        (((v10 197 1) = 0) →
          q (-1) v10))))

def P_X10_opposite (x1 : Int) (v : VT) (q : Int → VT → Prop) : Prop :=
  P_X10_seated  v (fun v1 =>
    (((v1 197 1) = 0) →
      q (-1) v1) ∧
    ((¬ (v1 197 1) = 0) →
      P_X0_isNode 10 x1 v1 (fun r15 =>
        ((¬ r15 = 0) →
          (0 ≤ x1 ∧ x1 < 24) ∧
          P_X10_allBits (v1 197 6) v1 (fun r43 =>
            P_X8_nodeAt (i_xor (v1 198 x1.toNat) r43) v1 (fun r47 =>
              q r47 v1))) ∧
        ((r15 = 0) →
          q (-1) v1))))

def P_X10_even (x1 : Int) (v : VT) (q : Int → VT → Prop) : Prop :=
  ((x1 < 0) →
    q (-1) v) ∧
  ((0 ≤ x1) →
    ((1 < x1) →
      q (-1) v) ∧
    ((x1 ≤ 1) →
      P_X10_seated  v (fun v10 =>
        (((v10 197 1) = 0) →
          q (-1) v10) ∧
        ((¬ (v10 197 1) = 0) →
          ((¬ (v10 197 6) = 0) →
            ∀ X35 : Int → Int → Prop, (∀ (i2 : Int) (i3 : Int), (
              (((v10 197 6) ≤ i3) →
                ((¬ x1 = 0) →
                  P_X8_costOf i2 v10 (fun r86 =>
                    q r86 v10)) ∧
                ((x1 = 0) →
                  q i2 v10)) ∧
              ((i3 < (v10 197 6)) →
                P_X8_costOf i3 v10 (fun r51 =>
                  P_X8_costOf i2 v10 (fun r59 =>
                    ((r51 ≤ r59) →
                      (-2147483648 ≤ i3 + 1 ∧ i3 + 1 ≤ 2147483647) ∧
                      X35 i2 (i3 + 1)) ∧
                    ((r59 < r51) →
                      (-2147483648 ≤ i3 + 1 ∧ i3 + 1 ≤ 2147483647) ∧
                      X35 i3 (i3 + 1)))))) → X35 i2 i3) →
            X35 0 1) ∧
          (((v10 197 6) = 0) →
            q (-1) v10)))))

def P_X10_few  (v : VT) (q : Int → VT → Prop) : Prop :=
  P_X10_seated  v (fun v1 =>
    (((v1 197 1) = 0) →
      q (-1) v1) ∧
    ((¬ (v1 197 1) = 0) →
      (((v1 197 6) ≤ 8) →
        P_X7_findPairs  v1 (fun v32 =>
          (-2147483648 ≤ (v32 197 6) - (v32 203 0) ∧ (v32 197 6) - (v32 203 0) ≤ 2147483647) ∧
          q ((v32 197 6) - (v32 203 0)) v32)) ∧
      ((8 < (v1 197 6)) →
        q (-1) v1)))

def P_X10_median (x1 : Int) (x2 : Int) (x3 : Int) (v : VT) (q : Int → VT → Prop) : Prop :=
  P_X10_areNodes x1 x2 v (fun r3 =>
    ((r3 = 0) →
      q (-1) v) ∧
    ((¬ r3 = 0) →
      P_X0_isNode 10 x3 v (fun r14 =>
        ((¬ r14 = 0) →
          P_X10_measured  v (fun v23 =>
            P_X2_amid x1 x2 v23 (fun r28 v28 =>
              P_X2_amid x2 x3 v28 (fun r37 v37 =>
                P_X2_amid x1 x3 v37 (fun r47 v47 =>
                  q (i_and (i_and r28 r37) r47) v47))))) ∧
        ((r14 = 0) →
          q (-1) v))))

def P_X10_medians (x1 : Int) (v : VT) (q : Int → VT → Prop) : Prop :=
  ((x1 < 0) →
    q (-1) v) ∧
  ((0 ≤ x1) →
    ((x1 ≤ 3) →
      P_X10_measured  v (fun v12 =>
        P_X2_firstWithoutMedian  v12 (fun r15 v15 =>
          ((¬ x1 = 0) →
            ((¬ r15 = (-1)) →
              (-2147483648 ≤ 3 - x1 ∧ 3 - x1 ≤ 2147483647) ∧
              (-2147483648 ≤ 8 * (3 - x1) ∧ 8 * (3 - x1) ≤ 2147483647) ∧
              q (i_and (i_shr r15 (8 * (3 - x1))) 255) v15) ∧
            ((r15 = (-1)) →
              q (-1) v15)) ∧
          ((x1 = 0) →
            ((¬ r15 = (-1)) →
              q 0 v15) ∧
            ((r15 = (-1)) →
              q 1 v15))))) ∧
    ((3 < x1) →
      q (-1) v))

def P_X10_vote  (v : VT) (q : Int → VT → Prop) : Prop :=
  ∀ v13 : VT, v13 = upd2 v 1 1 0 →
  ∀ K32 : Int → Prop, (∀ (s0 : Int), (
    ∀ K67 : Int → Prop, (∀ (i2 : Int), (
      ((¬ i2 = 0) →
        ∀ X79 : Int → VT → Prop, (∀ (i3 : Int) (v79 : VT), (
          (((v 1 1) ≤ i3) →
            ∀ v107 : VT, v107 = upd2 v79 0 15 (v 1 1) →
            q (v107 0 15) v107) ∧
          ((i3 < (v 1 1)) →
            (0 ≤ i3 ∧ i3 < 800) ∧
            (0 ≤ i3 ∧ i3 < 15) ∧
            ∀ v98 : VT, v98 = upd2 v79 213 i3.toNat (v79 2 i3.toNat) →
            (-2147483648 ≤ i3 + 1 ∧ i3 + 1 ≤ 2147483647) ∧
            X79 (i3 + 1) v98)) → X79 i3 v79) →
        X79 0 v13) ∧
      ((i2 = 0) →
        P_X10_refuse 1 v13 (fun r73 v73 =>
          q r73 v73))) → K67 i2) →
    ∀ X35 : Int → Int → Prop, (∀ (i2_1 : Int) (i3_1 : Int), (
      ((i2_1 = 0) →
        K67 i2_1) ∧
      ((¬ i2_1 = 0) →
        (((v 1 1) ≤ i3_1) →
          K67 i2_1) ∧
        ((i3_1 < (v 1 1)) →
          (0 ≤ i3_1 ∧ i3_1 < 800) ∧
          P_X0_isNode 10 (v13 2 i3_1.toNat) v13 (fun r57 =>
            (-2147483648 ≤ i3_1 + 1 ∧ i3_1 + 1 ≤ 2147483647) ∧
            X35 r57 (i3_1 + 1))))) → X35 i2_1 i3_1) →
    X35 s0 0) → K32 s0) →
  ∀ K31 : Prop, ((
    K32 0) → K31) →
  (((v 1 1) < 1) →
    K31) ∧
  ((1 ≤ (v 1 1)) →
    ((15 < (v 1 1)) →
      K31) ∧
    (((v 1 1) ≤ 15) →
      K32 1))

def P_X10_areNodesStill (a1 : Nat) (n1 : Nat) (x2 : Int) (v : VT) (q : Int → Prop) : Prop :=
  ∀ X2 : Int → Prop, (∀ (i3 : Int), (
    ((x2 ≤ i3) →
      q 1) ∧
    ((i3 < x2) →
      (((n1 : Int) ≤ i3) →
        q 1) ∧
      ((i3 < (n1 : Int)) →
        (0 ≤ i3 ∧ i3 < n1) ∧
        P_X0_isNode 10 (v a1 i3.toNat) v (fun r20 =>
          ((¬ r20 = 0) →
            (-2147483648 ≤ i3 + 1 ∧ i3 + 1 ≤ 2147483647) ∧
            X2 (i3 + 1)) ∧
          ((r20 = 0) →
            q 0))))) → X2 i3) →
  X2 0

def P_X10_majority  (v : VT) (q : Int → Prop) : Prop :=
  ∀ X4 : Int → Int → Prop, (∀ (i1 : Int) (i2 : Int), (
    (((v 197 6) ≤ i2) →
      q i1) ∧
    ((i2 < (v 197 6)) →
      ∀ K57 : Int → Prop, (∀ (i3 : Int), (
        (-2147483648 ≤ 2 * i3 ∧ 2 * i3 ≤ 2147483647) ∧
        (((2 * i3) ≤ (v 0 15)) →
          (-2147483648 ≤ i2 + 1 ∧ i2 + 1 ≤ 2147483647) ∧
          X4 i1 (i2 + 1)) ∧
        (((v 0 15) < (2 * i3)) →
          ∀ l1 : Int, l1 = (i_or i1 (i_shl 1 i2)) →
          (-2147483648 ≤ i2 + 1 ∧ i2 + 1 ≤ 2147483647) ∧
          X4 l1 (i2 + 1))) → K57 i3) →
      ∀ X20 : Int → Int → Prop, (∀ (i3_1 : Int) (i4 : Int), (
        (((v 0 15) ≤ i4) →
          K57 i3_1) ∧
        ((i4 < (v 0 15)) →
          (0 ≤ i4 ∧ i4 < 15) ∧
          (0 ≤ (v 213 i4.toNat) ∧ (v 213 i4.toNat) < 24) ∧
          (-2147483648 ≤ i3_1 + (i_and (i_shr (v 198 (v 213 i4.toNat).toNat) i2) 1) ∧ i3_1 + (i_and (i_shr (v 198 (v 213 i4.toNat).toNat) i2) 1) ≤ 2147483647) ∧
          ∀ l3 : Int, l3 = (i3_1 + (i_and (i_shr (v 198 (v 213 i4.toNat).toNat) i2) 1)) →
          (-2147483648 ≤ i4 + 1 ∧ i4 + 1 ≤ 2147483647) ∧
          X20 l3 (i4 + 1))) → X20 i3_1 i4) →
      X20 0 0)) → X4 i1 i2) →
  X4 0 0

def P_X10_farFromVotes (x1 : Int) (v : VT) (q : Int → Prop) : Prop :=
  ∀ X4 : Int → Int → Prop, (∀ (i2 : Int) (i3 : Int), (
    (((v 0 15) ≤ i3) →
      q i2) ∧
    ((i3 < (v 0 15)) →
      (0 ≤ x1 ∧ x1 < 24) ∧
      (0 ≤ i3 ∧ i3 < 15) ∧
      (0 ≤ (v 213 i3.toNat) ∧ (v 213 i3.toNat) < 24) ∧
      (-2147483648 ≤ i2 + (v (141 + x1.toNat) (v 213 i3.toNat).toNat) ∧ i2 + (v (141 + x1.toNat) (v 213 i3.toNat).toNat) ≤ 2147483647) ∧
      ∀ l2 : Int, l2 = (i2 + (v (141 + x1.toNat) (v 213 i3.toNat).toNat)) →
      (-2147483648 ≤ i3 + 1 ∧ i3 + 1 ≤ 2147483647) ∧
      X4 l2 (i3 + 1))) → X4 i2 i3) →
  X4 0 0

def P_X10_winner (x1 : Int) (v : VT) (q : Int → VT → Prop) : Prop :=
  ((x1 < 0) →
    q (-1) v) ∧
  ((0 ≤ x1) →
    ((2 < x1) →
      q (-1) v) ∧
    ((x1 ≤ 2) →
      (((v 0 15) = 0) →
        q (-1) v) ∧
      ((¬ (v 0 15) = 0) →
        P_X10_measured  v (fun v17 =>
          (((v17 138 1) = 0) →
            q (-1) v17) ∧
          ((¬ (v17 138 1) = 0) →
            P_X10_areNodesStill 213 15 (v17 0 15) v17 (fun r35 =>
              ((¬ r35 = 0) →
                ((¬ x1 = 2) →
                  ∀ X78 : Int → Int → Prop, (∀ (i2 : Int) (i3 : Int), (
                    (((v17 10 0) ≤ i3) →
                      ((¬ x1 = 0) →
                        P_X10_farFromVotes i2 v17 (fun r120 =>
                          q r120 v17)) ∧
                      ((x1 = 0) →
                        q i2 v17)) ∧
                    ((i3 < (v17 10 0)) →
                      P_X10_farFromVotes i3 v17 (fun r91 =>
                        P_X10_farFromVotes i2 v17 (fun r96 =>
                          ((r96 ≤ r91) →
                            (-2147483648 ≤ i3 + 1 ∧ i3 + 1 ≤ 2147483647) ∧
                            X78 i2 (i3 + 1)) ∧
                          ((r91 < r96) →
                            (-2147483648 ≤ i3 + 1 ∧ i3 + 1 ≤ 2147483647) ∧
                            X78 i3 (i3 + 1)))))) → X78 i2 i3) →
                  X78 0 1) ∧
                ((x1 = 2) →
                  P_X10_seated  v17 (fun v49 =>
                    (((v49 197 1) = 0) →
                      q (-1) v49) ∧
                    ((¬ (v49 197 1) = 0) →
                      P_X10_majority  v49 (fun r63 =>
                        P_X8_nodeAt r63 v49 (fun r66 =>
                          q r66 v49)))))) ∧
              ((r35 = 0) →
                q (-1) v17)))))))

def P_X10_isSet (x1 : Int) (v : VT) (q : Int → VT → Prop) : Prop :=
  (((v 10 0) ≤ 0) →
    q 0 v) ∧
  ((0 < (v 10 0)) →
    P_X10_measured  v (fun v11 =>
      (((v11 138 1) = 0) →
        q 0 v11) ∧
      ((¬ (v11 138 1) = 0) →
        P_X10_allBits (v11 10 0) v11 (fun r28 =>
          ((¬ (i_and x1 (i_xor r28 (-1))) = 0) →
            q 0 v11) ∧
          (((i_and x1 (i_xor r28 (-1))) = 0) →
            q 1 v11)))))

def P_X10_set (x1 : Int) (x2 : Int) (v : VT) (q : Int → VT → Prop) : Prop :=
  ((x2 < 0) →
    q (-1) v) ∧
  ((0 ≤ x2) →
    ((1 < x2) →
      q (-1) v) ∧
    ((x2 ≤ 1) →
      P_X10_isSet x1 v (fun r11 v11 =>
        ((¬ r11 = 0) →
          ((¬ x2 = 0) →
            P_X2_widen x1 v11 (fun r39 v39 =>
              ((¬ r39 = x1) →
                q 0 v39) ∧
              ((r39 = x1) →
                q 1 v39))) ∧
          ((x2 = 0) →
            P_X2_isTrue x1 v11 (fun r28 =>
              ((r28 = 0) →
                q 0 v11) ∧
              ((¬ r28 = 0) →
                q 1 v11)))) ∧
        ((r11 = 0) →
          q (-1) v11))))

def P_X10_hull (x1 : Int) (v : VT) (q : Int → VT → Prop) : Prop :=
  P_X10_isSet x1 v (fun r2 v2 =>
    ((r2 = 0) →
      q (-1) v2) ∧
    ((¬ r2 = 0) →
      P_X2_close x1 v2 (fun r13 v13 =>
        q r13 v13)))

def P_X10_gate (x1 : Int) (x2 : Int) (v : VT) (q : Int → VT → Prop) : Prop :=
  P_X0_isNode 10 x1 v (fun r5 =>
    ((r5 = 0) →
      q (-1) v) ∧
    ((¬ r5 = 0) →
      P_X10_isSet x2 v (fun r13 v13 =>
        ((¬ r13 = 0) →
          P_X2_findGate x1 x2 v13 (fun r27 =>
            q r27 v13)) ∧
        ((r13 = 0) →
          q (-1) v13))))

def P_X10_see  (v : VT) (q : Int → VT → Prop) : Prop :=
  ∀ v13 : VT, v13 = upd2 v 1 1 0 →
  ∀ K38 : Int → Prop, (∀ (s0 : Int), (
    ∀ K99 : Int → Prop, (∀ (i2 : Int), (
      ((¬ i2 = 0) →
        ∀ v113 : VT, v113 = upd2 v13 0 16 (i_div (v 1 1) 2) →
        ∀ X118 : Int → VT → Prop, (∀ (i3 : Int) (v118 : VT), (
          (((v118 0 16) ≤ i3) →
            q (v118 0 16) v118) ∧
          ((i3 < (v118 0 16)) →
            (-2147483648 ≤ 2 * i3 ∧ 2 * i3 ≤ 2147483647) ∧
            (0 ≤ (2 * i3) ∧ (2 * i3) < 800) ∧
            (0 ≤ i3 ∧ i3 < 12) ∧
            ∀ v142 : VT, v142 = upd2 v118 214 i3.toNat (v118 2 (2 * i3).toNat) →
            (-2147483648 ≤ 2 * i3 ∧ 2 * i3 ≤ 2147483647) ∧
            (-2147483648 ≤ (2 * i3) + 1 ∧ (2 * i3) + 1 ≤ 2147483647) ∧
            (0 ≤ ((2 * i3) + 1) ∧ ((2 * i3) + 1) < 800) ∧
            (0 ≤ i3 ∧ i3 < 12) ∧
            ∀ v161 : VT, v161 = upd2 v142 215 i3.toNat (v142 2 ((2 * i3) + 1).toNat) →
            (-2147483648 ≤ i3 + 1 ∧ i3 + 1 ≤ 2147483647) ∧
            X118 (i3 + 1) v161)) → X118 i3 v118) →
        X118 0 v113) ∧
      ((i2 = 0) →
        P_X10_refuse 1 v13 (fun r105 v105 =>
          q r105 v105))) → K99 i2) →
    ∀ X41 : Int → Int → Prop, (∀ (i2_1 : Int) (i3_1 : Int), (
      ((i2_1 = 0) →
        K99 i2_1) ∧
      ((¬ i2_1 = 0) →
        (-2147483648 ≤ i3_1 + 1 ∧ i3_1 + 1 ≤ 2147483647) ∧
        (((v 1 1) ≤ (i3_1 + 1)) →
          K99 i2_1) ∧
        (((i3_1 + 1) < (v 1 1)) →
          (0 ≤ i3_1 ∧ i3_1 < 800) ∧
          P_X0_isNode 10 (v13 2 i3_1.toNat) v13 (fun r65 =>
            ((r65 = 0) →
              (-2147483648 ≤ i3_1 + 2 ∧ i3_1 + 2 ≤ 2147483647) ∧
              X41 0 (i3_1 + 2)) ∧
            ((¬ r65 = 0) →
              (-2147483648 ≤ i3_1 + 1 ∧ i3_1 + 1 ≤ 2147483647) ∧
              (0 ≤ (i3_1 + 1) ∧ (i3_1 + 1) < 800) ∧
              ((23 < (v13 2 (i3_1 + 1).toNat)) →
                (-2147483648 ≤ i3_1 + 2 ∧ i3_1 + 2 ≤ 2147483647) ∧
                X41 0 (i3_1 + 2)) ∧
              (((v13 2 (i3_1 + 1).toNat) ≤ 23) →
                (-2147483648 ≤ i3_1 + 2 ∧ i3_1 + 2 ≤ 2147483647) ∧
                X41 1 (i3_1 + 2))))))) → X41 i2_1 i3_1) →
    X41 s0 0) → K38 s0) →
  ∀ K37 : Prop, ((
    K38 0) → K37) →
  (((v 1 1) < 2) →
    K37) ∧
  ((2 ≤ (v 1 1)) →
    ((24 < (v 1 1)) →
      K37) ∧
    (((v 1 1) ≤ 24) →
      ((¬ (i_rem (v 1 1) 2) = 0) →
        K37) ∧
      (((i_rem (v 1 1) 2) = 0) →
        K38 1)))

def P_X10_isAsSeen (x1 : Int) (v : VT) (q : Int → Prop) : Prop :=
  ∀ X2 : Int → Prop, (∀ (i2 : Int), (
    (((v 0 16) ≤ i2) →
      q 1) ∧
    ((i2 < (v 0 16)) →
      (0 ≤ x1 ∧ x1 < 24) ∧
      (0 ≤ i2 ∧ i2 < 12) ∧
      (0 ≤ (v 214 i2.toNat) ∧ (v 214 i2.toNat) < 24) ∧
      (0 ≤ i2 ∧ i2 < 12) ∧
      (((v (141 + x1.toNat) (v 214 i2.toNat).toNat) = (v 215 i2.toNat)) →
        (-2147483648 ≤ i2 + 1 ∧ i2 + 1 ≤ 2147483647) ∧
        X2 (i2 + 1)) ∧
      ((¬ (v (141 + x1.toNat) (v 214 i2.toNat).toNat) = (v 215 i2.toNat)) →
        q 0))) → X2 i2) →
  X2 0

def P_X10_fits  (v : VT) (q : Int → VT → Prop) : Prop :=
  (((v 0 16) = 0) →
    q (-1) v) ∧
  ((¬ (v 0 16) = 0) →
    P_X10_areNodesStill 214 12 (v 0 16) v (fun r16 =>
      ((¬ r16 = 0) →
        P_X10_measured  v (fun v25 =>
          ∀ X33 : Int → Int → Prop, (∀ (i1 : Int) (i2 : Int), (
            (((v25 10 0) ≤ i2) →
              q i1 v25) ∧
            ((i2 < (v25 10 0)) →
              P_X10_isAsSeen i2 v25 (fun r46 =>
                ((r46 = 0) →
                  (-2147483648 ≤ i2 + 1 ∧ i2 + 1 ≤ 2147483647) ∧
                  X33 i1 (i2 + 1)) ∧
                ((¬ r46 = 0) →
                  ∀ l1 : Int, l1 = (i_or i1 (i_shl 1 i2)) →
                  (-2147483648 ≤ i2 + 1 ∧ i2 + 1 ≤ 2147483647) ∧
                  X33 l1 (i2 + 1))))) → X33 i1 i2) →
          X33 0 0)) ∧
      ((r16 = 0) →
        q (-1) v)))

def P_X10_mostLeft (x1 : Int) (x2 : Int) (v : VT) (q : Int → VT → Prop) : Prop :=
  ∀ K24 : VT → Prop, (∀ (v24 : VT), (
    ∀ X29 : Int → Int → VT → Prop, (∀ (i3 : Int) (i4 : Int) (v29 : VT), (
      (((v29 10 0) ≤ i4) →
        q i3 v29) ∧
      ((i4 < (v29 10 0)) →
        P_X10_hasBit x2 i4 v29 (fun r44 =>
          ((r44 = 0) →
            (-2147483648 ≤ i4 + 1 ∧ i4 + 1 ≤ 2147483647) ∧
            X29 i3 (i4 + 1) v29) ∧
          ((¬ r44 = 0) →
            (0 ≤ x1 ∧ x1 < 24) ∧
            (0 ≤ i4 ∧ i4 < 24) ∧
            ∀ l5 : Int, l5 = (v29 (141 + x1.toNat) i4.toNat) →
            ∀ K77 : Int → Prop, (∀ (s0 : Int), (
              (0 ≤ s0 ∧ s0 < 25) ∧
              (-2147483648 ≤ (v29 216 s0.toNat) + 1 ∧ (v29 216 s0.toNat) + 1 ≤ 2147483647) ∧
              (0 ≤ s0 ∧ s0 < 25) ∧
              ∀ v89 : VT, v89 = upd2 v29 216 s0.toNat ((v29 216 s0.toNat) + 1) →
              (0 ≤ s0 ∧ s0 < 25) ∧
              ∀ l3 : Int, l3 = (max i3 (v89 216 s0.toNat)) →
              (-2147483648 ≤ i4 + 1 ∧ i4 + 1 ≤ 2147483647) ∧
              X29 l3 (i4 + 1) v89) → K77 s0) →
            ((¬ l5 = (-1)) →
              K77 l5) ∧
            ((l5 = (-1)) →
              K77 24))))) → X29 i3 i4 v29) →
    X29 0 0 v24) → K24 v24) →
  ∀ X2 : Int → VT → Prop, (∀ (i3_1 : Int) (v2 : VT), (
    ((25 ≤ i3_1) →
      K24 v2) ∧
    ((i3_1 < 25) →
      (0 ≤ i3_1 ∧ i3_1 < 25) ∧
      ∀ v17 : VT, v17 = upd2 v2 216 i3_1.toNat 0 →
      (-2147483648 ≤ i3_1 + 1 ∧ i3_1 + 1 ≤ 2147483647) ∧
      X2 (i3_1 + 1) v17)) → X2 i3_1 v2) →
  X2 0 v

def P_X10_tells (x1 : Int) (v : VT) (q : Int → VT → Prop) : Prop :=
  ∀ K17 : Int → VT → Prop, (∀ (s0 : Int) (v17 : VT), (
    ((s0 = (-1)) →
      q (-1) v17) ∧
    ((¬ s0 = (-1)) →
      ((¬ s0 = 0) →
        P_X10_mostLeft 0 s0 v17 (fun r34 v34 =>
          ∀ X42 : Int → Int → Int → VT → Prop, (∀ (i3 : Int) (i4 : Int) (i5 : Int) (v42 : VT), (
            (((v42 10 0) ≤ i5) →
              ((¬ x1 = 0) →
                q i4 v42) ∧
              ((x1 = 0) →
                q i3 v42)) ∧
            ((i5 < (v42 10 0)) →
              P_X10_mostLeft i5 s0 v42 (fun r58 v58 =>
                ((i4 ≤ r58) →
                  (-2147483648 ≤ i5 + 1 ∧ i5 + 1 ≤ 2147483647) ∧
                  X42 i3 i4 (i5 + 1) v58) ∧
                ((r58 < i4) →
                  (-2147483648 ≤ i5 + 1 ∧ i5 + 1 ≤ 2147483647) ∧
                  X42 i5 r58 (i5 + 1) v58)))) → X42 i3 i4 i5 v42) →
          X42 0 r34 1 v34)) ∧
      ((s0 = 0) →
        q (-1) v17))) → K17 s0 v17) →
  ∀ K9 : Prop, ((
    K17 (-1) v) → K9) →
  ((x1 < 0) →
    K9) ∧
  ((0 ≤ x1) →
    ((x1 ≤ 1) →
      P_X10_fits  v (fun r14 v14 =>
        K17 r14 v14)) ∧
    ((1 < x1) →
      K9))

def P_X10_join (x1 : Int) (x2 : Int) (v : VT) (q : Int → VT → Prop) : Prop :=
  P_X0_canJoin 10 x1 x2 v (fun r6 =>
    ((¬ r6 = 0) →
      P_X3_keep  v (fun v26 =>
        P_X0_addLine 10 x1 x2 1 v26 (fun v36 =>
          P_X10_changed  v36 (fun v40 =>
            (-2147483648 ≤ (v40 10 1) - 1 ∧ (v40 10 1) - 1 ≤ 2147483647) ∧
            q ((v40 10 1) - 1) v40)))) ∧
    ((r6 = 0) →
      P_X10_refuse 2 v (fun r14 v14 =>
        q r14 v14)))

def P_X10_cut (x1 : Int) (v : VT) (q : Int → VT → Prop) : Prop :=
  P_X0_isLine 10 x1 v (fun r5 =>
    ((¬ r5 = 0) →
      P_X3_keep  v (fun v25 =>
        P_X0_removeLine 10 x1 v25 (fun v33 =>
          P_X10_changed  v33 (fun v37 =>
            q 1 v37)))) ∧
    ((r5 = 0) →
      P_X10_deny 2 v (fun r13 v13 =>
        (r13 = 0 ∨ r13 = 1) ∧
        q r13 v13)))

def P_X10_toll (x1 : Int) (x2 : Int) (v : VT) (q : Int → VT → Prop) : Prop :=
  P_X0_isLine 10 x1 v (fun r5 =>
    ((r5 = 0) →
      P_X10_deny 2 v (fun r37 v37 =>
        (r37 = 0 ∨ r37 = 1) ∧
        q r37 v37)) ∧
    ((¬ r5 = 0) →
      ((x2 < 1) →
        P_X10_deny 2 v (fun r37_1 v37_1 =>
          (r37_1 = 0 ∨ r37_1 = 1) ∧
          q r37_1 v37_1)) ∧
      ((1 ≤ x2) →
        ((9 < x2) →
          P_X10_deny 2 v (fun r37_2 v37_2 =>
            (r37_2 = 0 ∨ r37_2 = 1) ∧
            q r37_2 v37_2)) ∧
        ((x2 ≤ 9) →
          (0 ≤ x1 ∧ x1 < 60) ∧
          ((¬ (v 14 x1.toNat) = x2) →
            P_X3_keep  v (fun v49 =>
              (0 ≤ x1 ∧ x1 < 60) ∧
              ∀ v61 : VT, v61 = upd2 v49 14 x1.toNat x2 →
              q 1 v61)) ∧
          (((v 14 x1.toNat) = x2) →
            P_X10_deny 2 v (fun r37_3 v37_3 =>
              (r37_3 = 0 ∨ r37_3 = 1) ∧
              q r37_3 v37_3))))))

def P_X10_grow (x1 : Int) (v : VT) (q : Int → VT → Prop) : Prop :=
  P_X0_canGrow 10 x1 v (fun r5 =>
    ((¬ r5 = 0) →
      P_X3_keep  v (fun v25 =>
        P_X0_addLeaf 10 x1 v25 (fun v33 =>
          P_X10_changed  v33 (fun v37 =>
            (-2147483648 ≤ (v37 10 0) - 1 ∧ (v37 10 0) - 1 ≤ 2147483647) ∧
            q ((v37 10 0) - 1) v37)))) ∧
    ((r5 = 0) →
      P_X10_refuse 2 v (fun r13 v13 =>
        q r13 v13)))

def P_X10_drop (x1 : Int) (v : VT) (q : Int → VT → Prop) : Prop :=
  P_X0_isNode 10 x1 v (fun r5 =>
    ((r5 = 0) →
      P_X10_deny 2 v (fun r24 v24 =>
        (r24 = 0 ∨ r24 = 1) ∧
        q r24 v24)) ∧
    ((¬ r5 = 0) →
      ((¬ (v 10 0) = 1) →
        P_X3_keep  v (fun v36 =>
          P_X0_removeNode 10 x1 v36 (fun v44 =>
            P_X10_changed  v44 (fun v48 =>
              q 1 v48)))) ∧
      (((v 10 0) = 1) →
        P_X10_deny 2 v (fun r24_1 v24_1 =>
          (r24_1 = 0 ∨ r24_1 = 1) ∧
          q r24_1 v24_1))))

def P_X10_pressKind (x1 : Int) (v : VT) (q : VT → Prop) : Prop :=
  P_X1_gather x1 v (fun v9 =>
    P_X0_merge 10 v9 (fun v23 =>
      P_X10_changed  v23 (fun v27 =>
        q v27)))

def P_X10_press (x1 : Int) (v : VT) (q : Int → VT → Prop) : Prop :=
  P_X10_isKind x1 v (fun r2 v2 =>
    ((¬ r2 = 0) →
      P_X3_keep  v2 (fun v22 =>
        P_X10_pressKind x1 v22 (fun v27 =>
          q (v27 10 0) v27))) ∧
    ((r2 = 0) →
      P_X10_refuse 3 v2 (fun r10 v10 =>
        q r10 v10)))

def P_X10_open (x1 : Int) (x2 : Int) (v : VT) (q : Int → VT → Prop) : Prop :=
  P_X0_canOpen 10 x1 x2 v (fun r6 =>
    ((¬ r6 = 0) →
      P_X3_keep  v (fun v26 =>
        P_X0_doubleAlong 10 x1 x2 v26 (fun v35 =>
          P_X10_changed  v35 (fun v39 =>
            q (v39 10 0) v39)))) ∧
    ((r6 = 0) →
      P_X10_refuse 3 v (fun r14 v14 =>
        q r14 v14)))

def P_X10_draw (x1 : Int) (v : VT) (q : Int → VT → Prop) : Prop :=
  ∀ v17 : VT, v17 = upd2 v 0 17 (i_and (w32 ((w32 (1103515245 * (v 0 17))) + 12345)) 2147483647) →
  ((x1 ≤ 0) →
    q 0 v17) ∧
  ((0 < x1) →
    (x1 ≠ 0) ∧
    q (i_rem (i_div (v17 0 17) 64) x1) v17)

def P_X10_switchLine (x1 : Int) (x2 : Int) (v : VT) (q : VT → Prop) : Prop :=
  P_X0_findLine 10 x1 x2 v (fun r6 =>
    ((r6 = (-1)) →
      P_X0_canJoin 10 x1 x2 v (fun r36 =>
        ((r36 = 0) →
          q v) ∧
        ((¬ r36 = 0) →
          P_X0_addLine 10 x1 x2 1 v (fun v49 =>
            P_X10_changed  v49 (fun v53 =>
              q v53))))) ∧
    ((¬ r6 = (-1)) →
      P_X0_removeLine 10 r6 v (fun v20 =>
        P_X10_changed  v20 (fun v24 =>
          q v24))))

def P_X10_actBySeed  (v : VT) (q : VT → Prop) : Prop :=
  P_X10_draw 4 v (fun r2 v2 =>
    ((2 ≤ r2) →
      ((¬ r2 = 2) →
        P_X10_sorted  v2 (fun v88 =>
          P_X10_draw (max 1 (v88 191 1)) v88 (fun r101 v101 =>
            (((v88 191 1) ≤ r101) →
              q v101) ∧
            ((r101 < (v88 191 1)) →
              P_X10_pressKind r101 v101 (fun v112 =>
                q v112))))) ∧
      ((r2 = 2) →
        P_X10_draw (v2 10 0) v2 (fun r62 v62 =>
          P_X10_draw (v62 10 0) v62 (fun r74 v74 =>
            P_X10_switchLine r62 r74 v74 (fun v81 =>
              q v81))))) ∧
    ((r2 < 2) →
      P_X10_draw (v2 10 0) v2 (fun r19 v19 =>
        P_X0_canGrow 10 r19 v19 (fun r28 =>
          ((r28 = 0) →
            q v19) ∧
          ((¬ r28 = 0) →
            P_X0_addLeaf 10 r19 v19 (fun v39 =>
              P_X10_changed  v39 (fun v43 =>
                q v43)))))))

def P_X10_chance (x1 : Int) (v : VT) (q : Int → VT → Prop) : Prop :=
  ((x1 < 1) →
    P_X10_refuse 3 v (fun r23 v23 =>
      q r23 v23)) ∧
  ((1 ≤ x1) →
    ((40 < x1) →
      P_X10_refuse 3 v (fun r23_1 v23_1 =>
        q r23_1 v23_1)) ∧
    ((x1 ≤ 40) →
      ((¬ (v 10 0) = 0) →
        P_X3_keep  v (fun v35 =>
          ∀ X40 : Int → VT → Prop, (∀ (i2 : Int) (v40 : VT), (
            ((x1 ≤ i2) →
              q (v40 10 0) v40) ∧
            ((i2 < x1) →
              P_X10_actBySeed  v40 (fun v46 =>
                (-2147483648 ≤ i2 + 1 ∧ i2 + 1 ≤ 2147483647) ∧
                X40 (i2 + 1) v46))) → X40 i2 v40) →
          X40 0 v35)) ∧
      (((v 10 0) = 0) →
        P_X10_refuse 3 v (fun r23_2 v23_2 =>
          q r23_2 v23_2))))

def P_X10_undo  (v : VT) (q : Int → VT → Prop) : Prop :=
  ((¬ (v 16 0) = 0) →
    P_X3_bringBack  v (fun v24 =>
      P_X10_changed  v24 (fun v28 =>
        q 1 v28))) ∧
  (((v 16 0) = 0) →
    P_X10_deny 4 v (fun r12 v12 =>
      (r12 = 0 ∨ r12 = 1) ∧
      q r12 v12))

def P_X10_seed (x1 : Int) (v : VT) (q : Int → VT → Prop) : Prop :=
  ((0 ≤ x1) →
    ∀ v12 : VT, v12 = upd2 v 0 17 x1 →
    q 1 v12) ∧
  ((x1 < 0) →
    P_X10_deny 5 v (fun r6 v6 =>
      (r6 = 0 ∨ r6 = 1) ∧
      q r6 v6))

def P_X10_image  (v : VT) (q : Int → VT → Prop) : Prop :=
  P_X4_write  v (fun v8 =>
    q (v8 205 1) v8)

def P_X10_octet (x1 : Int) (v : VT) (q : Int → Prop) : Prop :=
  ((x1 < 0) →
    q (-1)) ∧
  ((0 ≤ x1) →
    (((v 205 1) ≤ x1) →
      q (-1)) ∧
    ((x1 < (v 205 1)) →
      (0 ≤ x1 ∧ x1 < 123) ∧
      q (v 206 x1.toNat)))

def P_X10_on  (v : VT) (q : Int → VT → Prop) : Prop :=
  P_X4_read  v (fun r8 v8 =>
    ∀ v17 : VT, v17 = upd2 v8 1 1 0 →
    ((¬ r8 = 0) →
      P_X0_takeFrom 10 207 v17 (fun v41 =>
        P_X3_forget  v41 (fun v48 =>
          P_X10_changed  v48 (fun v52 =>
            q 1 v52)))) ∧
    ((r8 = 0) →
      P_X10_deny 5 v17 (fun r26 v26 =>
        (r26 = 0 ∨ r26 = 1) ∧
        q r26 v26)))

def P_X10_status (x1 : Int) (v : VT) (q : Int → Prop) : Prop :=
  ((x1 < 0) →
    q (-1)) ∧
  ((0 ≤ x1) →
    ((6 ≤ x1) →
      q (-1)) ∧
    ((x1 < 6) →
      (0 ≤ x1 ∧ x1 < 6) ∧
      q (v 217 x1.toNat)))

def P_X11_isIn (x0 : Int) (x2 : Int) (x4 : Int) (v : VT) (q : Int → Prop) : Prop :=
  ((x0 < x2) →
    q 0) ∧
  ((x2 ≤ x0) →
    ((x4 < x0) →
      q 0) ∧
    ((x0 ≤ x4) →
      q 1))

def P_X11_flag (x0 : Int) (v : VT) (q : Int → Prop) : Prop :=
  ((x0 = 0) →
    q 0) ∧
  ((¬ x0 = 0) →
    q 1)

def P_X11_isOf (x0 : Int) (x1 : Int) (v : VT) (q : Int → Prop) : Prop :=
  ((¬ (i_and (i_shr x0 x1) 1) = 1) →
    q 0) ∧
  (((i_and (i_shr x0 x1) 1) = 1) →
    q 1)

def P_X11_count (x0 : Int) (v : VT) (q : Int → Prop) : Prop :=
  ∀ X4 : Int → Int → Prop, (∀ (i1 : Int) (i2 : Int), (
    ((24 ≤ i2) →
      q i1) ∧
    ((i2 < 24) →
      (-2147483648 ≤ i1 + (i_and (i_shr x0 i2) 1) ∧ i1 + (i_and (i_shr x0 i2) 1) ≤ 2147483647) ∧
      ∀ l1 : Int, l1 = (i1 + (i_and (i_shr x0 i2) 1)) →
      (-2147483648 ≤ i2 + 1 ∧ i2 + 1 ≤ 2147483647) ∧
      X4 l1 (i2 + 1))) → X4 i1 i2) →
  X4 0 0

def P_X11_refuses (x1 : Int) (v : VT) (q : Int → VT → Prop) : Prop :=
  (0 ≤ x1 ∧ x1 < 6) ∧
  (-2147483648 ≤ (v 220 x1.toNat) + 1 ∧ (v 220 x1.toNat) + 1 ≤ 2147483647) ∧
  (0 ≤ x1 ∧ x1 < 6) ∧
  ∀ v9 : VT, v9 = upd2 v 220 x1.toNat ((v 220 x1.toNat) + 1) →
  q (-1) v9

def P_X11_isRefused (x1 : Int) (v : VT) (q : Int → VT → Prop) : Prop :=
  (0 ≤ x1 ∧ x1 < 6) ∧
  (-2147483648 ≤ (v 220 x1.toNat) + 1 ∧ (v 220 x1.toNat) + 1 ≤ 2147483647) ∧
  (0 ≤ x1 ∧ x1 < 6) ∧
  ∀ v9 : VT, v9 = upd2 v 220 x1.toNat ((v 220 x1.toNat) + 1) →
  q 0 v9

def P_X11_feed (x1 : Int) (x2 : Int) (x3 : Int) (x4 : Int) (x5 : Int) (v : VT) (q : Int → VT → Prop) : Prop :=
  (-2147483648 ≤ (v 218 1) + 20 ∧ (v 218 1) + 20 ≤ 2147483647) ∧
  ((((v 218 1) + 20) ≤ 800) →
    ∀ X22 : Int → VT → Prop, (∀ (i6 : Int) (v22 : VT), (
      ((20 ≤ i6) →
        q (v22 218 1) v22) ∧
      ((i6 < 20) →
        ∀ K75 : Int → Prop, (∀ (s0 : Int), (
          (-2147483648 ≤ 3 - (i_rem i6 4) ∧ 3 - (i_rem i6 4) ≤ 2147483647) ∧
          (-2147483648 ≤ 8 * (3 - (i_rem i6 4)) ∧ 8 * (3 - (i_rem i6 4)) ≤ 2147483647) ∧
          (0 ≤ (v22 218 1) ∧ (v22 218 1) < 800) ∧
          ∀ v101 : VT, v101 = upd2 v22 219 (v22 218 1).toNat (i_and (i_shr s0 (8 * (3 - (i_rem i6 4)))) 255) →
          (-2147483648 ≤ (v101 218 1) + 1 ∧ (v101 218 1) + 1 ≤ 2147483647) ∧
          ∀ v109 : VT, v109 = upd2 v101 218 1 ((v101 218 1) + 1) →
          (-2147483648 ≤ i6 + 1 ∧ i6 + 1 ≤ 2147483647) ∧
          X22 (i6 + 1) v109) → K75 s0) →
        ((4 ≤ i6) →
          ((8 ≤ i6) →
            ((12 ≤ i6) →
              ((16 ≤ i6) →
                K75 x5) ∧
              ((i6 < 16) →
                K75 x4)) ∧
            ((i6 < 12) →
              K75 x3)) ∧
          ((i6 < 8) →
            K75 x2)) ∧
        ((i6 < 4) →
          K75 x1))) → X22 i6 v22) →
    X22 0 v) ∧
  ((800 < ((v 218 1) + 20)) →
    P_X11_refuses 0 v (fun r15 v15 =>
      q r15 v15))

def P_X11_end (x1 : Int) (v : VT) (q : Int → VT → Prop) : Prop :=
  ((x1 < 0) →
    P_X11_isRefused 0 v (fun r14 v14 =>
      (r14 = 0 ∨ r14 = 1) ∧
      q r14 v14)) ∧
  ((0 ≤ x1) →
    ((x1 ≤ (v 218 1)) →
      ∀ v20 : VT, v20 = upd2 v 218 1 x1 →
      q 1 v20) ∧
    (((v 218 1) < x1) →
      P_X11_isRefused 0 v (fun r14_1 v14_1 =>
        (r14_1 = 0 ∨ r14_1 = 1) ∧
        q r14_1 v14_1)))

def P_X11_status (x1 : Int) (v : VT) (q : Int → Prop) : Prop :=
  P_X11_isIn x1 0 5 v (fun r6 =>
    ((r6 = 0) →
      q (-1)) ∧
    ((¬ r6 = 0) →
      (0 ≤ x1 ∧ x1 < 6) ∧
      q (v 220 x1.toNat)))

def P_X11_fault (x1 : Int) (v : VT) (q : Int → Prop) : Prop :=
  ((¬ x1 = 0) →
    ((¬ x1 = 1) →
      q (-1)) ∧
    ((x1 = 1) →
      q (v 218 8))) ∧
  ((x1 = 0) →
    q (v 218 7))

def P_X11_fail (x1 : Int) (x2 : Int) (v : VT) (q : VT → Prop) : Prop :=
  (((v 218 5) = 0) →
    ∀ v10 : VT, v10 = upd2 v 218 5 x1 →
    ∀ v15 : VT, v15 = upd2 v10 218 6 x2 →
    q v15) ∧
  ((¬ (v 218 5) = 0) →
    q v)

def P_X11_isLetter (x0 : Int) (v : VT) (q : Int → Prop) : Prop :=
  ((x0 < 97) →
    q 0) ∧
  ((97 ≤ x0) →
    ((122 < x0) →
      q 0) ∧
    ((x0 ≤ 122) →
      q 1))

def P_X11_look  (v : VT) (q : Int → VT → Prop) : Prop :=
  ∀ K52 : VT → Prop, (∀ (v52 : VT), (
    (((v52 218 3) ≤ (v52 218 2)) →
      q (-1) v52) ∧
    (((v52 218 2) < (v52 218 3)) →
      (0 ≤ (v52 218 2) ∧ (v52 218 2) < 800) ∧
      q (v52 219 (v52 218 2).toNat) v52)) → K52 v52) →
  ∀ X0 : VT → Prop, (∀ (v0 : VT), (
    (((v0 218 3) ≤ (v0 218 2)) →
      K52 v0) ∧
    (((v0 218 2) < (v0 218 3)) →
      (0 ≤ (v0 218 2) ∧ (v0 218 2) < 800) ∧
      (((v0 219 (v0 218 2).toNat) = 10) →
        (-2147483648 ≤ (v0 218 2) + 1 ∧ (v0 218 2) + 1 ≤ 2147483647) ∧
        ∀ v46 : VT, v46 = upd2 v0 218 2 ((v0 218 2) + 1) →
        X0 v46) ∧
      ((¬ (v0 219 (v0 218 2).toNat) = 10) →
        (0 ≤ (v0 218 2) ∧ (v0 218 2) < 800) ∧
        ((¬ (v0 219 (v0 218 2).toNat) = 32) →
          K52 v0) ∧
        (((v0 219 (v0 218 2).toNat) = 32) →
          (-2147483648 ≤ (v0 218 2) + 1 ∧ (v0 218 2) + 1 ≤ 2147483647) ∧
          ∀ v46_1 : VT, v46_1 = upd2 v0 218 2 ((v0 218 2) + 1) →
          X0 v46_1)))) → X0 v0) →
  X0 v

def P_X11_takesSign (x1 : Int) (v : VT) (q : Int → VT → Prop) : Prop :=
  ((¬ (v 218 5) = 0) →
    q 0 v) ∧
  (((v 218 5) = 0) →
    P_X11_look  v (fun r8 v8 =>
      ((r8 = x1) →
        (-2147483648 ≤ (v8 218 2) + 1 ∧ (v8 218 2) + 1 ≤ 2147483647) ∧
        ∀ v24 : VT, v24 = upd2 v8 218 2 ((v8 218 2) + 1) →
        q 1 v24) ∧
      ((¬ r8 = x1) →
        q 0 v8)))

def P_X11_asksSign (x1 : Int) (v : VT) (q : VT → Prop) : Prop :=
  ((¬ (v 218 5) = 0) →
    q v) ∧
  (((v 218 5) = 0) →
    P_X11_takesSign x1 v (fun r9 v9 =>
      ((¬ r9 = 0) →
        q v9) ∧
      ((r9 = 0) →
        P_X11_fail 1 (v9 218 2) v9 (fun v21 =>
          q v21))))

def P_X11_isWordHere  (v : VT) (q : Int → VT → Prop) : Prop :=
  ((¬ (v 218 5) = 0) →
    q 0 v) ∧
  (((v 218 5) = 0) →
    P_X11_look  v (fun r8 v8 =>
      P_X11_isLetter r8 v8 (fun r11 =>
        ((r11 = 0) →
          q 0 v8) ∧
        ((¬ r11 = 0) →
          (((v8 218 2) = (v8 218 4)) →
            q 0 v8) ∧
          ((¬ (v8 218 2) = (v8 218 4)) →
            q 1 v8)))))

def P_X11_longHere  (v : VT) (q : Int → Prop) : Prop :=
  ∀ X2 : Int → Prop, (∀ (i1 : Int), (
    (-2147483648 ≤ (v 218 2) + i1 ∧ (v 218 2) + i1 ≤ 2147483647) ∧
    (((v 218 3) ≤ ((v 218 2) + i1)) →
      q i1) ∧
    ((((v 218 2) + i1) < (v 218 3)) →
      (-2147483648 ≤ (v 218 2) + i1 ∧ (v 218 2) + i1 ≤ 2147483647) ∧
      (0 ≤ ((v 218 2) + i1) ∧ ((v 218 2) + i1) < 800) ∧
      P_X11_isLetter (v 219 ((v 218 2) + i1).toNat) v (fun r26 =>
        ((r26 = 0) →
          q i1) ∧
        ((¬ r26 = 0) →
          (-2147483648 ≤ i1 + 1 ∧ i1 + 1 ≤ 2147483647) ∧
          X2 (i1 + 1))))) → X2 i1) →
  X2 0

def P_X11_ownHere  (v : VT) (q : Int → VT → Prop) : Prop :=
  P_X11_isWordHere  v (fun r1 v1 =>
    ((¬ r1 = 0) →
      P_X11_longHere  v1 (fun r10 =>
        ∀ K99 : Prop, ((
          ((¬ r10 = 3) →
            q (-1) v1) ∧
          ((r10 = 3) →
            (0 ≤ (v1 218 2) ∧ (v1 218 2) < 800) ∧
            ((¬ (v1 219 (v1 218 2).toNat) = 119) →
              q (-1) v1) ∧
            (((v1 219 (v1 218 2).toNat) = 119) →
              (-2147483648 ≤ (v1 218 2) + 1 ∧ (v1 218 2) + 1 ≤ 2147483647) ∧
              (0 ≤ ((v1 218 2) + 1) ∧ ((v1 218 2) + 1) < 800) ∧
              ((¬ (v1 219 ((v1 218 2) + 1).toNat) = 97) →
                q (-1) v1) ∧
              (((v1 219 ((v1 218 2) + 1).toNat) = 97) →
                (-2147483648 ≤ (v1 218 2) + 2 ∧ (v1 218 2) + 2 ≤ 2147483647) ∧
                (0 ≤ ((v1 218 2) + 2) ∧ ((v1 218 2) + 2) < 800) ∧
                ((¬ (v1 219 ((v1 218 2) + 2).toNat) = 121) →
                  q (-1) v1) ∧
                (((v1 219 ((v1 218 2) + 2).toNat) = 121) →
                  q 1 v1))))) → K99) →
        ((¬ r10 = 5) →
          K99) ∧
        ((r10 = 5) →
          (0 ≤ (v1 218 2) ∧ (v1 218 2) < 800) ∧
          ((¬ (v1 219 (v1 218 2).toNat) = 110) →
            K99) ∧
          (((v1 219 (v1 218 2).toNat) = 110) →
            (-2147483648 ≤ (v1 218 2) + 1 ∧ (v1 218 2) + 1 ≤ 2147483647) ∧
            (0 ≤ ((v1 218 2) + 1) ∧ ((v1 218 2) + 1) < 800) ∧
            ((¬ (v1 219 ((v1 218 2) + 1).toNat) = 111) →
              K99) ∧
            (((v1 219 ((v1 218 2) + 1).toNat) = 111) →
              (-2147483648 ≤ (v1 218 2) + 2 ∧ (v1 218 2) + 2 ≤ 2147483647) ∧
              (0 ≤ ((v1 218 2) + 2) ∧ ((v1 218 2) + 2) < 800) ∧
              ((¬ (v1 219 ((v1 218 2) + 2).toNat) = 100) →
                K99) ∧
              (((v1 219 ((v1 218 2) + 2).toNat) = 100) →
                (-2147483648 ≤ (v1 218 2) + 3 ∧ (v1 218 2) + 3 ≤ 2147483647) ∧
                (0 ≤ ((v1 218 2) + 3) ∧ ((v1 218 2) + 3) < 800) ∧
                ((¬ (v1 219 ((v1 218 2) + 3).toNat) = 101) →
                  K99) ∧
                (((v1 219 ((v1 218 2) + 3).toNat) = 101) →
                  (-2147483648 ≤ (v1 218 2) + 4 ∧ (v1 218 2) + 4 ≤ 2147483647) ∧
                  (0 ≤ ((v1 218 2) + 4) ∧ ((v1 218 2) + 4) < 800) ∧
                  ((¬ (v1 219 ((v1 218 2) + 4).toNat) = 115) →
                    K99) ∧
                  (((v1 219 ((v1 218 2) + 4).toNat) = 115) →
                    q 0 v1)))))))) ∧
    ((r1 = 0) →
      q (-1) v1))

def P_X11_takes (x1 : Int) (v : VT) (q : Int → VT → Prop) : Prop :=
  P_X11_ownHere  v (fun r1 v1 =>
    ((r1 = x1) →
      P_X11_longHere  v1 (fun r16 =>
        (-2147483648 ≤ (v1 218 2) + r16 ∧ (v1 218 2) + r16 ≤ 2147483647) ∧
        ∀ v20 : VT, v20 = upd2 v1 218 2 ((v1 218 2) + r16) →
        ∀ v28 : VT, v28 = upd2 v20 218 4 (v20 218 2) →
        q 1 v28)) ∧
    ((¬ r1 = x1) →
      q 0 v1))

def P_X11_name  (v : VT) (q : Int → VT → Prop) : Prop :=
  (((v 218 5) = 0) →
    P_X11_isWordHere  v (fun r10 v10 =>
      ∀ K24 : VT → Prop, (∀ (v24 : VT), (
        P_X11_look  v24 (fun r27 v27 =>
          ((¬ r27 = (-1)) →
            P_X11_fail 1 (v27 218 2) v27 (fun v45 =>
              q 0 v45)) ∧
          ((r27 = (-1)) →
            P_X11_fail 1 (v27 218 3) v27 (fun v45_1 =>
              q 0 v45_1)))) → K24 v24) →
      ((r10 = 0) →
        K24 v10) ∧
      ((¬ r10 = 0) →
        P_X11_ownHere  v10 (fun r17 v17 =>
          ((r17 = (-1)) →
            ∀ v55 : VT, v55 = upd2 v17 218 10 (v17 218 2) →
            ∀ X60 : Int → VT → Prop, (∀ (i1 : Int) (v60 : VT), (
              (((v60 218 3) ≤ (v60 218 2)) →
                ∀ v148 : VT, v148 = upd2 v60 218 4 (v60 218 2) →
                q i1 v148) ∧
              (((v60 218 2) < (v60 218 3)) →
                (0 ≤ (v60 218 2) ∧ (v60 218 2) < 800) ∧
                P_X11_isLetter (v60 219 (v60 218 2).toNat) v60 (fun r80 =>
                  ((r80 = 0) →
                    ∀ v148_1 : VT, v148_1 = upd2 v60 218 4 (v60 218 2) →
                    q i1 v148_1) ∧
                  ((¬ r80 = 0) →
                    (-2147483648 ≤ (v60 218 2) - (v60 218 10) ∧ (v60 218 2) - (v60 218 10) ≤ 2147483647) ∧
                    ((¬ ((v60 218 2) - (v60 218 10)) = 4) →
                      (-2147483648 ≤ 27 * i1 ∧ 27 * i1 ≤ 2147483647) ∧
                      (0 ≤ (v60 218 2) ∧ (v60 218 2) < 800) ∧
                      (-2147483648 ≤ (27 * i1) + (v60 219 (v60 218 2).toNat) ∧ (27 * i1) + (v60 219 (v60 218 2).toNat) ≤ 2147483647) ∧
                      (-2147483648 ≤ ((27 * i1) + (v60 219 (v60 218 2).toNat)) - 97 ∧ ((27 * i1) + (v60 219 (v60 218 2).toNat)) - 97 ≤ 2147483647) ∧
                      (-2147483648 ≤ (((27 * i1) + (v60 219 (v60 218 2).toNat)) - 97) + 1 ∧ (((27 * i1) + (v60 219 (v60 218 2).toNat)) - 97) + 1 ≤ 2147483647) ∧
                      ∀ l1 : Int, l1 = ((((27 * i1) + (v60 219 (v60 218 2).toNat)) - 97) + 1) →
                      (-2147483648 ≤ (v60 218 2) + 1 ∧ (v60 218 2) + 1 ≤ 2147483647) ∧
                      ∀ v137 : VT, v137 = upd2 v60 218 2 ((v60 218 2) + 1) →
                      X60 l1 v137) ∧
                    ((((v60 218 2) - (v60 218 10)) = 4) →
                      P_X11_fail 1 (v60 218 2) v60 (fun v105 =>
                        q 0 v105)))))) → X60 i1 v60) →
            X60 0 v55) ∧
          ((¬ r17 = (-1)) →
            K24 v17))))) ∧
  ((¬ (v 218 5) = 0) →
    q 0 v)

def P_X11_lineOf (a0 : Nat) (x1 : Int) (x2 : Int) (v : VT) (q : Int → Prop) : Prop :=
  ∀ K10 : Int → Prop, (∀ (s0 : Int), (
    ∀ K21 : Int → Prop, (∀ (s0_1 : Int), (
      ∀ X26 : Int → Prop, (∀ (i5 : Int), (
        (((v a0 1) ≤ i5) →
          q (-1)) ∧
        ((i5 < (v a0 1)) →
          (-2147483648 ≤ 2 * i5 ∧ 2 * i5 ≤ 2147483647) ∧
          (-2147483648 ≤ 26 + (2 * i5) ∧ 26 + (2 * i5) ≤ 2147483647) ∧
          (0 ≤ (26 + (2 * i5)) ∧ (26 + (2 * i5)) < 206) ∧
          ((¬ (v a0 (26 + (2 * i5)).toNat) = s0) →
            (-2147483648 ≤ i5 + 1 ∧ i5 + 1 ≤ 2147483647) ∧
            X26 (i5 + 1)) ∧
          (((v a0 (26 + (2 * i5)).toNat) = s0) →
            (-2147483648 ≤ 2 * i5 ∧ 2 * i5 ≤ 2147483647) ∧
            (-2147483648 ≤ 26 + (2 * i5) ∧ 26 + (2 * i5) ≤ 2147483647) ∧
            (-2147483648 ≤ (26 + (2 * i5)) + 1 ∧ (26 + (2 * i5)) + 1 ≤ 2147483647) ∧
            (0 ≤ ((26 + (2 * i5)) + 1) ∧ ((26 + (2 * i5)) + 1) < 206) ∧
            ((¬ (v a0 ((26 + (2 * i5)) + 1).toNat) = s0_1) →
              (-2147483648 ≤ i5 + 1 ∧ i5 + 1 ≤ 2147483647) ∧
              X26 (i5 + 1)) ∧
            (((v a0 ((26 + (2 * i5)) + 1).toNat) = s0_1) →
              q i5)))) → X26 i5) →
      X26 0) → K21 s0_1) →
    ((x2 ≤ x1) →
      K21 x1) ∧
    ((x1 < x2) →
      K21 x2)) → K10 s0) →
  ((x2 ≤ x1) →
    K10 x2) ∧
  ((x1 < x2) →
    K10 x1)

def P_X11_adds (a0 : Nat) (x1 : Int) (x2 : Int) (x3 : Int) (v : VT) (q : VT → Prop) : Prop :=
  (-2147483648 ≤ 2 * (v a0 1) ∧ 2 * (v a0 1) ≤ 2147483647) ∧
  (-2147483648 ≤ 26 + (2 * (v a0 1)) ∧ 26 + (2 * (v a0 1)) ≤ 2147483647) ∧
  ∀ l4 : Int, l4 = (26 + (2 * (v a0 1))) →
  (-2147483648 ≤ 146 + (v a0 1) ∧ 146 + (v a0 1) ≤ 2147483647) ∧
  (0 ≤ (146 + (v a0 1)) ∧ (146 + (v a0 1)) < 206) ∧
  ∀ v19 : VT, v19 = upd2 v a0 (146 + (v a0 1)).toNat x3 →
  ∀ K33 : Int → Prop, (∀ (s0 : Int), (
    (0 ≤ l4 ∧ l4 < 206) ∧
    ∀ v33 : VT, v33 = upd2 v19 a0 l4.toNat s0 →
    (-2147483648 ≤ l4 + 1 ∧ l4 + 1 ≤ 2147483647) ∧
    ((x2 ≤ x1) →
      (0 ≤ (l4 + 1) ∧ (l4 + 1) < 206) ∧
      ∀ v49 : VT, v49 = upd2 v33 a0 (l4 + 1).toNat x1 →
      (-2147483648 ≤ (v49 a0 1) + 1 ∧ (v49 a0 1) + 1 ≤ 2147483647) ∧
      ∀ v56 : VT, v56 = upd2 v49 a0 1 ((v49 a0 1) + 1) →
      q v56) ∧
    ((x1 < x2) →
      (0 ≤ (l4 + 1) ∧ (l4 + 1) < 206) ∧
      ∀ v49_1 : VT, v49_1 = upd2 v33 a0 (l4 + 1).toNat x2 →
      (-2147483648 ≤ (v49_1 a0 1) + 1 ∧ (v49_1 a0 1) + 1 ≤ 2147483647) ∧
      ∀ v56_1 : VT, v56_1 = upd2 v49_1 a0 1 ((v49_1 a0 1) + 1) →
      q v56_1)) → K33 s0) →
  ((x2 ≤ x1) →
    K33 x2) ∧
  ((x1 < x2) →
    K33 x1)

def P_X11_nodeNamed (a0 : Nat) (x1 : Int) (v : VT) (q : Int → Prop) : Prop :=
  ∀ X2 : Int → Prop, (∀ (i2 : Int), (
    (((v a0 0) ≤ i2) →
      q (-1)) ∧
    ((i2 < (v a0 0)) →
      (-2147483648 ≤ 2 + i2 ∧ 2 + i2 ≤ 2147483647) ∧
      (0 ≤ (2 + i2) ∧ (2 + i2) < 206) ∧
      ((¬ (v a0 (2 + i2).toNat) = x1) →
        (-2147483648 ≤ i2 + 1 ∧ i2 + 1 ≤ 2147483647) ∧
        X2 (i2 + 1)) ∧
      (((v a0 (2 + i2).toNat) = x1) →
        q i2))) → X2 i2) →
  X2 0

def P_X11_room (x1 : Int) (v : VT) (q : VT → Prop) : Prop :=
  P_X11_look  v (fun r1 v1 =>
    ((¬ x1 = 24) →
      q v1) ∧
    ((x1 = 24) →
      ((¬ (v1 218 2) = (v1 218 3)) →
        P_X11_fail 5 (v1 218 2) v1 (fun v32 =>
          q v32)) ∧
      (((v1 218 2) = (v1 218 3)) →
        P_X11_fail 1 (v1 218 2) v1 (fun v32_1 =>
          q v32_1))))

def P_X11_nodesTold  (v : VT) (q : VT → Prop) : Prop :=
  ∀ K12 : Int → Prop, (∀ (s0 : Int), (
    ∀ X13 : Int → VT → Prop, (∀ (i1 : Int) (v13 : VT), (
      ((i1 = 0) →
        q v13) ∧
      ((¬ i1 = 0) →
        P_X11_room (v13 221 0) v13 (fun v24 =>
          P_X11_name  v24 (fun r28 v28 =>
            ∀ K60 : VT → Prop, (∀ (v60 : VT), (
              ((¬ (v60 218 5) = 0) →
                P_X11_takesSign 44 v60 (fun r94 v94 =>
                  X13 r94 v94)) ∧
              (((v60 218 5) = 0) →
                (-2147483648 ≤ 2 + (v60 221 0) ∧ 2 + (v60 221 0) ≤ 2147483647) ∧
                (0 ≤ (2 + (v60 221 0)) ∧ (2 + (v60 221 0)) < 206) ∧
                ∀ v80 : VT, v80 = upd2 v60 221 (2 + (v60 221 0)).toNat r28 →
                (-2147483648 ≤ (v80 221 0) + 1 ∧ (v80 221 0) + 1 ≤ 2147483647) ∧
                ∀ v90 : VT, v90 = upd2 v80 221 0 ((v80 221 0) + 1) →
                P_X11_takesSign 44 v90 (fun r94_1 v94_1 =>
                  X13 r94_1 v94_1))) → K60 v60) →
            ((¬ (v28 218 5) = 0) →
              K60 v28) ∧
            (((v28 218 5) = 0) →
              P_X11_nodeNamed 221 r28 v28 (fun r44 =>
                ((r44 = (-1)) →
                  K60 v28) ∧
                ((¬ r44 = (-1)) →
                  P_X11_fail 3 (v28 218 10) v28 (fun v57 =>
                    K60 v57)))))))) → X13 i1 v13) →
    X13 s0 v) → K12 s0) →
  ((¬ (v 218 5) = 0) →
    K12 0) ∧
  (((v 218 5) = 0) →
    K12 1)

def P_X11_wayTold  (v : VT) (q : VT → Prop) : Prop :=
  ∀ K16 : Int → Prop, (∀ (s0 : Int), (
    ∀ X17 : Int → Int → Int → VT → Prop, (∀ (i1 : Int) (i2 : Int) (i3 : Int) (v17 : VT), (
      ((i3 = 0) →
        q v17) ∧
      ((¬ i3 = 0) →
        P_X11_room i1 v17 (fun v23 =>
          P_X11_name  v23 (fun r27 v27 =>
            ∀ K52 : Int → Prop, (∀ (s0_1 : Int), (
              ∀ K76 : VT → Prop, (∀ (v76 : VT), (
                ∀ K116 : VT → Prop, (∀ (v116 : VT), (
                  ∀ K147 : VT → Prop, (∀ (v147 : VT), (
                    ∀ K169 : VT → Prop, (∀ (v169 : VT), (
                      (-2147483648 ≤ i1 + 1 ∧ i1 + 1 ≤ 2147483647) ∧
                      ∀ K186 : VT → Prop, (∀ (v186 : VT), (
                        ((¬ (v186 218 5) = 0) →
                          X17 (i1 + 1) s0_1 0 v186) ∧
                        (((v186 218 5) = 0) →
                          (((i1 + 1) = 1) →
                            X17 (i1 + 1) s0_1 1 v186) ∧
                          ((¬ (i1 + 1) = 1) →
                            P_X11_takesSign 44 v186 (fun r201 v201 =>
                              ((r201 = 0) →
                                X17 (i1 + 1) s0_1 0 v201) ∧
                              ((¬ r201 = 0) →
                                X17 (i1 + 1) s0_1 1 v201))))) → K186 v186) →
                      ((¬ (i1 + 1) = 1) →
                        K186 v169) ∧
                      (((i1 + 1) = 1) →
                        P_X11_asksSign 44 v169 (fun v183 =>
                          K186 v183))) → K169 v169) →
                    ((¬ (v147 218 5) = 0) →
                      K169 v147) ∧
                    (((v147 218 5) = 0) →
                      ((i1 ≤ 0) →
                        K169 v147) ∧
                      ((0 < i1) →
                        P_X11_adds 221 i2 s0_1 1 v147 (fun v166 =>
                          K169 v166)))) → K147 v147) →
                  ((¬ (v116 218 5) = 0) →
                    K147 v116) ∧
                  (((v116 218 5) = 0) →
                    ((i1 ≤ 0) →
                      K147 v116) ∧
                    ((0 < i1) →
                      ((¬ (v116 221 1) = 60) →
                        K147 v116) ∧
                      (((v116 221 1) = 60) →
                        P_X11_fail 5 (v116 218 10) v116 (fun v144 =>
                          K147 v144))))) → K116 v116) →
                ((¬ (v76 218 5) = 0) →
                  K116 v76) ∧
                (((v76 218 5) = 0) →
                  ((i1 ≤ 0) →
                    K116 v76) ∧
                  ((0 < i1) →
                    ∀ K107 : Prop, ((
                      P_X11_fail 4 (v76 218 10) v76 (fun v113 =>
                        K116 v113)) → K107) →
                    ((s0_1 = i2) →
                      K107) ∧
                    ((¬ s0_1 = i2) →
                      P_X11_lineOf 221 i2 s0_1 v76 (fun r100 =>
                        ((r100 = (-1)) →
                          K116 v76) ∧
                        ((¬ r100 = (-1)) →
                          K107)))))) → K76 v76) →
              ((¬ (v27 218 5) = 0) →
                K76 v27) ∧
              (((v27 218 5) = 0) →
                ((¬ s0_1 = (-1)) →
                  K76 v27) ∧
                ((s0_1 = (-1)) →
                  P_X11_fail 3 (v27 218 10) v27 (fun v73 =>
                    K76 v73)))) → K52 s0_1) →
            ((¬ (v27 218 5) = 0) →
              K52 (-1)) ∧
            (((v27 218 5) = 0) →
              P_X11_nodeNamed 221 r27 v27 (fun r45 =>
                K52 r45)))))) → X17 i1 i2 i3 v17) →
    X17 0 (-1) s0 v) → K16 s0) →
  ((¬ (v 218 5) = 0) →
    K16 0) ∧
  (((v 218 5) = 0) →
    K16 1)

def P_X11_statementTold  (v : VT) (q : VT → Prop) : Prop :=
  P_X11_look  v (fun r1 v1 =>
    P_X11_ownHere  v1 (fun r11 v11 =>
      ∀ K42 : VT → Prop, (∀ (v42 : VT), (
        ∀ K72 : VT → Prop, (∀ (v72 : VT), (
          P_X11_asksSign 59 v72 (fun v75 =>
            (-2147483648 ≤ (v75 218 14) + 1 ∧ (v75 218 14) + 1 ≤ 2147483647) ∧
            ∀ v85 : VT, v85 = upd2 v75 218 14 ((v75 218 14) + 1) →
            q v85)) → K72 v72) →
        ((¬ (v42 218 5) = 0) →
          K72 v42) ∧
        (((v42 218 5) = 0) →
          P_X11_takes r11 v42 (fun r51 v51 =>
            ((r51 = 0) →
              K72 v51) ∧
            ((¬ r51 = 0) →
              ((¬ r11 = 0) →
                P_X11_wayTold  v51 (fun v69 =>
                  K72 v69)) ∧
              ((r11 = 0) →
                P_X11_nodesTold  v51 (fun v62 =>
                  K72 v62)))))) → K42 v42) →
      ∀ K36 : Prop, ((
        P_X11_fail 1 (v1 218 2) v11 (fun v39 =>
          K42 v39)) → K36) →
      ((r11 = (-1)) →
        K36) ∧
      ((¬ r11 = (-1)) →
        ∀ K33 : Int → Prop, (∀ (s0 : Int), (
          ((r11 = s0) →
            K42 v11) ∧
          ((¬ r11 = s0) →
            K36)) → K33 s0) →
        ((¬ (v11 218 14) = 0) →
          K33 1) ∧
        (((v11 218 14) = 0) →
          K33 0))))

def P_X11_net  (v : VT) (q : Int → VT → Prop) : Prop :=
  ∀ v5 : VT, v5 = upd2 v 218 3 (v 218 1) →
  ∀ v10 : VT, v10 = upd2 v5 218 1 0 →
  ∀ v15 : VT, v15 = upd2 v10 218 2 0 →
  ∀ v20 : VT, v20 = upd2 v15 218 4 (-1) →
  ∀ v25 : VT, v25 = upd2 v20 218 5 0 →
  ∀ v30 : VT, v30 = upd2 v25 218 6 (-1) →
  ∀ v35 : VT, v35 = upd2 v30 218 14 0 →
  ∀ K60 : VT → Prop, (∀ (v60 : VT), (
    P_X11_statementTold  v60 (fun v61 =>
      ∀ K86 : VT → Prop, (∀ (v86 : VT), (
        ∀ v91 : VT, v91 = upd2 v86 218 7 (v86 218 5) →
        ∀ v99 : VT, v99 = upd2 v91 218 8 (v91 218 6) →
        (((v99 218 5) = 0) →
          ∀ K142 : VT → Prop, (∀ (v142 : VT), (
            ∀ v144 : VT, v144 = upd2 v142 218 15 0 →
            ∀ v149 : VT, v149 = upd2 v144 218 36 0 →
            ∀ v154 : VT, v154 = upd2 v149 218 30 0 →
            ∀ v159 : VT, v159 = upd2 v154 218 33 0 →
            q (v159 218 14) v159) → K142 v142) →
          ∀ X117 : Int → VT → Prop, (∀ (i1 : Int) (v117 : VT), (
            ((206 ≤ i1) →
              K142 v117) ∧
            ((i1 < 206) →
              (0 ≤ i1 ∧ i1 < 206) ∧
              (0 ≤ i1 ∧ i1 < 206) ∧
              ∀ v135 : VT, v135 = upd2 v117 222 i1.toNat (v117 221 i1.toNat) →
              (-2147483648 ≤ i1 + 1 ∧ i1 + 1 ≤ 2147483647) ∧
              X117 (i1 + 1) v135)) → X117 i1 v117) →
          X117 0 v99) ∧
        ((¬ (v99 218 5) = 0) →
          P_X11_refuses 1 v99 (fun r111 v111 =>
            q r111 v111))) → K86 v86) →
      ∀ X64 : VT → Prop, (∀ (v64 : VT), (
        ((¬ (v64 218 5) = 0) →
          K86 v64) ∧
        (((v64 218 5) = 0) →
          P_X11_look  v64 (fun r72 v72 =>
            ((r72 = (-1)) →
              K86 v72) ∧
            ((¬ r72 = (-1)) →
              P_X11_statementTold  v72 (fun v80 =>
                X64 v80))))) → X64 v64) →
      X64 v61)) → K60 v60) →
  ∀ X40 : Int → VT → Prop, (∀ (i1_1 : Int) (v40 : VT), (
    ((206 ≤ i1_1) →
      K60 v40) ∧
    ((i1_1 < 206) →
      (0 ≤ i1_1 ∧ i1_1 < 206) ∧
      ∀ v53 : VT, v53 = upd2 v40 221 i1_1.toNat 0 →
      (-2147483648 ≤ i1_1 + 1 ∧ i1_1 + 1 ≤ 2147483647) ∧
      X40 (i1_1 + 1) v53)) → X40 i1_1 v40) →
  X40 0 v35

def P_X11_isNode (x1 : Int) (v : VT) (q : Int → Prop) : Prop :=
  (-2147483648 ≤ (v 222 0) - 1 ∧ (v 222 0) - 1 ≤ 2147483647) ∧
  P_X11_isIn x1 0 ((v 222 0) - 1) v (fun r12 =>
    (r12 = 0 ∨ r12 = 1) ∧
    q r12)

def P_X11_isLine (x1 : Int) (v : VT) (q : Int → Prop) : Prop :=
  (-2147483648 ≤ (v 222 1) - 1 ∧ (v 222 1) - 1 ≤ 2147483647) ∧
  P_X11_isIn x1 0 ((v 222 1) - 1) v (fun r12 =>
    (r12 = 0 ∨ r12 = 1) ∧
    q r12)

def P_X11_low (x1 : Int) (v : VT) (q : Int → Prop) : Prop :=
  (-2147483648 ≤ 2 * x1 ∧ 2 * x1 ≤ 2147483647) ∧
  (-2147483648 ≤ 26 + (2 * x1) ∧ 26 + (2 * x1) ≤ 2147483647) ∧
  (0 ≤ (26 + (2 * x1)) ∧ (26 + (2 * x1)) < 206) ∧
  q (v 222 (26 + (2 * x1)).toNat)

def P_X11_high (x1 : Int) (v : VT) (q : Int → Prop) : Prop :=
  (-2147483648 ≤ 2 * x1 ∧ 2 * x1 ≤ 2147483647) ∧
  (-2147483648 ≤ 26 + (2 * x1) ∧ 26 + (2 * x1) ≤ 2147483647) ∧
  (-2147483648 ≤ (26 + (2 * x1)) + 1 ∧ (26 + (2 * x1)) + 1 ≤ 2147483647) ∧
  (0 ≤ ((26 + (2 * x1)) + 1) ∧ ((26 + (2 * x1)) + 1) < 206) ∧
  q (v 222 ((26 + (2 * x1)) + 1).toNat)

def P_X11_priceOf (x1 : Int) (v : VT) (q : Int → Prop) : Prop :=
  (-2147483648 ≤ 146 + x1 ∧ 146 + x1 ≤ 2147483647) ∧
  (0 ≤ (146 + x1) ∧ (146 + x1) < 206) ∧
  q (v 222 (146 + x1).toNat)

def P_X11_all  (v : VT) (q : Int → Prop) : Prop :=
  (-2147483648 ≤ (i_shl 1 (v 222 0)) - 1 ∧ (i_shl 1 (v 222 0)) - 1 ≤ 2147483647) ∧
  q ((i_shl 1 (v 222 0)) - 1)

def P_X11_farOf (x1 : Int) (x2 : Int) (v : VT) (q : Int → Prop) : Prop :=
  (-2147483648 ≤ 24 * x1 ∧ 24 * x1 ≤ 2147483647) ∧
  (-2147483648 ≤ (24 * x1) + x2 ∧ (24 * x1) + x2 ≤ 2147483647) ∧
  (0 ≤ ((24 * x1) + x2) ∧ ((24 * x1) + x2) < 576) ∧
  q (v 224 ((24 * x1) + x2).toNat)

def P_X11_laysFar  (v : VT) (q : VT → Prop) : Prop :=
  ∀ K55 : VT → Prop, (∀ (v55 : VT), (
    ∀ K113 : VT → Prop, (∀ (v113 : VT), (
      ∀ X115 : Int → VT → Prop, (∀ (i2 : Int) (v115 : VT), (
        (((v 222 0) ≤ i2) →
          q v115) ∧
        ((i2 < (v 222 0)) →
          ∀ X122 : Int → VT → Prop, (∀ (i3 : Int) (v122 : VT), (
            (((v 222 0) ≤ i3) →
              (-2147483648 ≤ i2 + 1 ∧ i2 + 1 ≤ 2147483647) ∧
              X115 (i2 + 1) v122) ∧
            ((i3 < (v 222 0)) →
              ∀ X130 : Int → VT → Prop, (∀ (i4 : Int) (v130 : VT), (
                (((v 222 0) ≤ i4) →
                  (-2147483648 ≤ i3 + 1 ∧ i3 + 1 ≤ 2147483647) ∧
                  X122 (i3 + 1) v130) ∧
                ((i4 < (v 222 0)) →
                  P_X11_farOf i3 i2 v130 (fun r139 =>
                    P_X11_farOf i2 i4 v130 (fun r146 =>
                      (-2147483648 ≤ r139 + r146 ∧ r139 + r146 ≤ 2147483647) ∧
                      P_X11_farOf i3 i4 v130 (fun r158 =>
                        ((r158 ≤ (r139 + r146)) →
                          (-2147483648 ≤ i4 + 1 ∧ i4 + 1 ≤ 2147483647) ∧
                          X130 (i4 + 1) v130) ∧
                        (((r139 + r146) < r158) →
                          (-2147483648 ≤ 24 * i3 ∧ 24 * i3 ≤ 2147483647) ∧
                          (-2147483648 ≤ (24 * i3) + i4 ∧ (24 * i3) + i4 ≤ 2147483647) ∧
                          (0 ≤ ((24 * i3) + i4) ∧ ((24 * i3) + i4) < 576) ∧
                          ∀ v177 : VT, v177 = upd2 v130 224 ((24 * i3) + i4).toNat (r139 + r146) →
                          (-2147483648 ≤ i4 + 1 ∧ i4 + 1 ≤ 2147483647) ∧
                          X130 (i4 + 1) v177)))))) → X130 i4 v130) →
              X130 0 v122)) → X122 i3 v122) →
          X122 0 v115)) → X115 i2 v115) →
      X115 0 v113) → K113 v113) →
    ∀ X57 : Int → VT → Prop, (∀ (i2_1 : Int) (v57 : VT), (
      (((v57 222 1) ≤ i2_1) →
        K113 v57) ∧
      ((i2_1 < (v57 222 1)) →
        P_X11_low i2_1 v57 (fun r75 =>
          (-2147483648 ≤ 24 * r75 ∧ 24 * r75 ≤ 2147483647) ∧
          P_X11_high i2_1 v57 (fun r81 =>
            (-2147483648 ≤ (24 * r75) + r81 ∧ (24 * r75) + r81 ≤ 2147483647) ∧
            (0 ≤ ((24 * r75) + r81) ∧ ((24 * r75) + r81) < 576) ∧
            ∀ v86 : VT, v86 = upd2 v57 224 ((24 * r75) + r81).toNat 1 →
            P_X11_high i2_1 v86 (fun r95 =>
              (-2147483648 ≤ 24 * r95 ∧ 24 * r95 ≤ 2147483647) ∧
              P_X11_low i2_1 v86 (fun r101 =>
                (-2147483648 ≤ (24 * r95) + r101 ∧ (24 * r95) + r101 ≤ 2147483647) ∧
                (0 ≤ ((24 * r95) + r101) ∧ ((24 * r95) + r101) < 576) ∧
                ∀ v106 : VT, v106 = upd2 v86 224 ((24 * r95) + r101).toNat 1 →
                (-2147483648 ≤ i2_1 + 1 ∧ i2_1 + 1 ≤ 2147483647) ∧
                X57 (i2_1 + 1) v106)))))) → X57 i2_1 v57) →
    X57 0 v55) → K55 v55) →
  ∀ X9 : Int → VT → Prop, (∀ (i2_2 : Int) (v9 : VT), (
    (((v 222 0) ≤ i2_2) →
      K55 v9) ∧
    ((i2_2 < (v 222 0)) →
      ∀ X16 : Int → VT → Prop, (∀ (i3_1 : Int) (v16 : VT), (
        (((v 222 0) ≤ i3_1) →
          (-2147483648 ≤ i2_2 + 1 ∧ i2_2 + 1 ≤ 2147483647) ∧
          X9 (i2_2 + 1) v16) ∧
        ((i3_1 < (v 222 0)) →
          (-2147483648 ≤ 24 * i2_2 ∧ 24 * i2_2 ≤ 2147483647) ∧
          (-2147483648 ≤ (24 * i2_2) + i3_1 ∧ (24 * i2_2) + i3_1 ≤ 2147483647) ∧
          ((¬ i2_2 = i3_1) →
            (0 ≤ ((24 * i2_2) + i3_1) ∧ ((24 * i2_2) + i3_1) < 576) ∧
            ∀ v42 : VT, v42 = upd2 v16 224 ((24 * i2_2) + i3_1).toNat 99 →
            (-2147483648 ≤ i3_1 + 1 ∧ i3_1 + 1 ≤ 2147483647) ∧
            X16 (i3_1 + 1) v42) ∧
          ((i2_2 = i3_1) →
            (0 ≤ ((24 * i2_2) + i3_1) ∧ ((24 * i2_2) + i3_1) < 576) ∧
            ∀ v42_1 : VT, v42_1 = upd2 v16 224 ((24 * i2_2) + i3_1).toNat 0 →
            (-2147483648 ≤ i3_1 + 1 ∧ i3_1 + 1 ≤ 2147483647) ∧
            X16 (i3_1 + 1) v42_1))) → X16 i3_1 v16) →
      X16 0 v9)) → X9 i2_2 v9) →
  X9 0 v

def P_X11_areAlike (x1 : Int) (x2 : Int) (v : VT) (q : Int → Prop) : Prop :=
  P_X11_low x1 v (fun r3 =>
    P_X11_low x2 v (fun r8 =>
      P_X11_farOf r3 r8 v (fun r11 =>
        P_X11_high x1 v (fun r18 =>
          P_X11_high x2 v (fun r23 =>
            P_X11_farOf r18 r23 v (fun r26 =>
              ((99 ≤ r11) →
                q 0) ∧
              ((r11 < 99) →
                ((r26 < 99) →
                  (-2147483648 ≤ r11 + r26 ∧ r11 + r26 ≤ 2147483647) ∧
                  P_X11_low x1 v (fun r53 =>
                    P_X11_high x2 v (fun r58 =>
                      P_X11_farOf r53 r58 v (fun r61 =>
                        P_X11_high x1 v (fun r67 =>
                          P_X11_low x2 v (fun r72 =>
                            P_X11_farOf r67 r72 v (fun r75 =>
                              (-2147483648 ≤ r61 + r75 ∧ r61 + r75 ≤ 2147483647) ∧
                              (((r11 + r26) = (r61 + r75)) →
                                q 0) ∧
                              ((¬ (r11 + r26) = (r61 + r75)) →
                                q 1)))))))) ∧
                ((99 ≤ r26) →
                  q 0))))))))

def P_X11_laysKinds  (v : VT) (q : VT → Prop) : Prop :=
  ∀ K27 : VT → Prop, (∀ (v27 : VT), (
    ∀ K107 : VT → Prop, (∀ (v107 : VT), (
      ∀ v109 : VT, v109 = upd2 v107 218 18 0 →
      ∀ K155 : VT → Prop, (∀ (v155 : VT), (
        ∀ K210 : VT → Prop, (∀ (v210 : VT), (
          ∀ X212 : Int → VT → Prop, (∀ (i3 : Int) (v212 : VT), (
            (((v 222 1) ≤ i3) →
              q v212) ∧
            ((i3 < (v 222 1)) →
              (0 ≤ i3 ∧ i3 < 60) ∧
              (0 ≤ i3 ∧ i3 < 60) ∧
              ∀ v228 : VT, v228 = upd2 v212 225 i3.toNat (v212 229 i3.toNat) →
              (-2147483648 ≤ i3 + 1 ∧ i3 + 1 ≤ 2147483647) ∧
              X212 (i3 + 1) v228)) → X212 i3 v212) →
          X212 0 v210) → K210 v210) →
        ∀ X157 : Int → VT → Prop, (∀ (i3_1 : Int) (v157 : VT), (
          (((v 222 1) ≤ i3_1) →
            K210 v157) ∧
          ((i3_1 < (v 222 1)) →
            ∀ X165 : Int → VT → Prop, (∀ (i4 : Int) (v165 : VT), (
              (((v165 218 18) ≤ i4) →
                (-2147483648 ≤ i3_1 + 1 ∧ i3_1 + 1 ≤ 2147483647) ∧
                X157 (i3_1 + 1) v165) ∧
              ((i4 < (v165 218 18)) →
                (0 ≤ i3_1 ∧ i3_1 < 60) ∧
                (0 ≤ i4 ∧ i4 < 60) ∧
                ((¬ (v165 225 i3_1.toNat) = (v165 227 i4.toNat)) →
                  (-2147483648 ≤ i4 + 1 ∧ i4 + 1 ≤ 2147483647) ∧
                  X165 (i4 + 1) v165) ∧
                (((v165 225 i3_1.toNat) = (v165 227 i4.toNat)) →
                  (0 ≤ i3_1 ∧ i3_1 < 60) ∧
                  ∀ v197 : VT, v197 = upd2 v165 229 i3_1.toNat i4 →
                  (-2147483648 ≤ i4 + 1 ∧ i4 + 1 ≤ 2147483647) ∧
                  X165 (i4 + 1) v197))) → X165 i4 v165) →
            X165 0 v157)) → X157 i3_1 v157) →
        X157 0 v155) → K155 v155) →
      ∀ X114 : Int → VT → Prop, (∀ (i3_2 : Int) (v114 : VT), (
        (((v 222 1) ≤ i3_2) →
          K155 v114) ∧
        ((i3_2 < (v 222 1)) →
          (0 ≤ i3_2 ∧ i3_2 < 60) ∧
          ((¬ (v114 225 i3_2.toNat) = i3_2) →
            (-2147483648 ≤ i3_2 + 1 ∧ i3_2 + 1 ≤ 2147483647) ∧
            X114 (i3_2 + 1) v114) ∧
          (((v114 225 i3_2.toNat) = i3_2) →
            (0 ≤ (v114 218 18) ∧ (v114 218 18) < 60) ∧
            ∀ v138 : VT, v138 = upd2 v114 227 (v114 218 18).toNat i3_2 →
            (-2147483648 ≤ (v138 218 18) + 1 ∧ (v138 218 18) + 1 ≤ 2147483647) ∧
            ∀ v146 : VT, v146 = upd2 v138 218 18 ((v138 218 18) + 1) →
            (-2147483648 ≤ i3_2 + 1 ∧ i3_2 + 1 ≤ 2147483647) ∧
            X114 (i3_2 + 1) v146))) → X114 i3_2 v114) →
      X114 0 v109) → K107 v107) →
    ∀ X29 : Int → VT → Prop, (∀ (i2 : Int) (v29 : VT), (
      ((i2 = 0) →
        K107 v29) ∧
      ((¬ i2 = 0) →
        ∀ X37 : Int → Int → VT → Prop, (∀ (i2_1 : Int) (i3_3 : Int) (v37 : VT), (
          (((v 222 1) ≤ i3_3) →
            X29 i2_1 v37) ∧
          ((i3_3 < (v 222 1)) →
            ∀ X45 : Int → Int → VT → Prop, (∀ (i2_2 : Int) (i4_1 : Int) (v45 : VT), (
              (((v 222 1) ≤ i4_1) →
                (-2147483648 ≤ i3_3 + 1 ∧ i3_3 + 1 ≤ 2147483647) ∧
                X37 i2_2 (i3_3 + 1) v45) ∧
              ((i4_1 < (v 222 1)) →
                (0 ≤ i4_1 ∧ i4_1 < 60) ∧
                (0 ≤ i3_3 ∧ i3_3 < 60) ∧
                (((v45 225 i3_3.toNat) ≤ (v45 225 i4_1.toNat)) →
                  (-2147483648 ≤ i4_1 + 1 ∧ i4_1 + 1 ≤ 2147483647) ∧
                  X45 i2_2 (i4_1 + 1) v45) ∧
                (((v45 225 i4_1.toNat) < (v45 225 i3_3.toNat)) →
                  P_X11_areAlike i3_3 i4_1 v45 (fun r71 =>
                    ((r71 = 0) →
                      (-2147483648 ≤ i4_1 + 1 ∧ i4_1 + 1 ≤ 2147483647) ∧
                      X45 i2_2 (i4_1 + 1) v45) ∧
                    ((¬ r71 = 0) →
                      (0 ≤ i4_1 ∧ i4_1 < 60) ∧
                      (0 ≤ i3_3 ∧ i3_3 < 60) ∧
                      ∀ v89 : VT, v89 = upd2 v45 225 i3_3.toNat (v45 225 i4_1.toNat) →
                      (-2147483648 ≤ i4_1 + 1 ∧ i4_1 + 1 ≤ 2147483647) ∧
                      X45 1 (i4_1 + 1) v89))))) → X45 i2_2 i4_1 v45) →
            X45 i2_1 0 v37)) → X37 i2_1 i3_3 v37) →
        X37 0 0 v29)) → X29 i2 v29) →
    X29 1 v27) → K27 v27) →
  ∀ X9 : Int → VT → Prop, (∀ (i2_3 : Int) (v9 : VT), (
    (((v 222 1) ≤ i2_3) →
      K27 v9) ∧
    ((i2_3 < (v 222 1)) →
      (0 ≤ i2_3 ∧ i2_3 < 60) ∧
      ∀ v20 : VT, v20 = upd2 v9 225 i2_3.toNat i2_3 →
      (-2147483648 ≤ i2_3 + 1 ∧ i2_3 + 1 ≤ 2147483647) ∧
      X9 (i2_3 + 1) v20)) → X9 i2_3 v9) →
  X9 0 v

def P_X11_isWhy (x1 : Int) (x2 : Int) (x3 : Int) (v : VT) (q : VT → Prop) : Prop :=
  (((v 218 19) = 0) →
    ∀ v10 : VT, v10 = upd2 v 218 19 x1 →
    ∀ v19 : VT, v19 = upd2 v10 226 0 x2 →
    ∀ v26 : VT, v26 = upd2 v19 226 1 x3 →
    q v26) ∧
  ((¬ (v 218 19) = 0) →
    q v)

def P_X11_laysReason  (v : VT) (q : VT → Prop) : Prop :=
  ∀ v16 : VT, v16 = upd2 v 218 19 0 →
  ∀ K69 : VT → Prop, (∀ (v69 : VT), (
    ∀ K137 : VT → Prop, (∀ (v137 : VT), (
      ∀ X139 : Int → VT → Prop, (∀ (i3 : Int) (v139 : VT), (
        (((v 222 1) ≤ i3) →
          q v139) ∧
        ((i3 < (v 222 1)) →
          ((¬ (v139 218 19) = 0) →
            q v139) ∧
          (((v139 218 19) = 0) →
            (-2147483648 ≤ i3 + 1 ∧ i3 + 1 ≤ 2147483647) ∧
            ∀ X156 : Int → VT → Prop, (∀ (i4 : Int) (v156 : VT), (
              (((v 222 1) ≤ i4) →
                (-2147483648 ≤ i3 + 1 ∧ i3 + 1 ≤ 2147483647) ∧
                X139 (i3 + 1) v156) ∧
              ((i4 < (v 222 1)) →
                (0 ≤ i3 ∧ i3 < 60) ∧
                (0 ≤ i4 ∧ i4 < 60) ∧
                ((¬ (v156 225 i3.toNat) = (v156 225 i4.toNat)) →
                  (-2147483648 ≤ i4 + 1 ∧ i4 + 1 ≤ 2147483647) ∧
                  X156 (i4 + 1) v156) ∧
                (((v156 225 i3.toNat) = (v156 225 i4.toNat)) →
                  P_X11_areAlike i3 i4 v156 (fun r182 =>
                    ((¬ r182 = 0) →
                      (-2147483648 ≤ i4 + 1 ∧ i4 + 1 ≤ 2147483647) ∧
                      X156 (i4 + 1) v156) ∧
                    ((r182 = 0) →
                      P_X11_isWhy 3 i3 i4 v156 (fun v193 =>
                        (-2147483648 ≤ i4 + 1 ∧ i4 + 1 ≤ 2147483647) ∧
                        X156 (i4 + 1) v193)))))) → X156 i4 v156) →
            X156 (i3 + 1) v139))) → X139 i3 v139) →
      X139 0 v137) → K137 v137) →
    ∀ X71 : Int → VT → Prop, (∀ (i3_1 : Int) (v71 : VT), (
      (((v 222 1) ≤ i3_1) →
        K137 v71) ∧
      ((i3_1 < (v 222 1)) →
        ((¬ (v71 218 19) = 0) →
          K137 v71) ∧
        (((v71 218 19) = 0) →
          ∀ X86 : Int → VT → Prop, (∀ (i4_1 : Int) (v86 : VT), (
            (((v 222 0) ≤ i4_1) →
              (-2147483648 ≤ i3_1 + 1 ∧ i3_1 + 1 ≤ 2147483647) ∧
              X71 (i3_1 + 1) v86) ∧
            ((i4_1 < (v 222 0)) →
              P_X11_low i3_1 v86 (fun r97 =>
                P_X11_farOf i4_1 r97 v86 (fun r100 =>
                  P_X11_high i3_1 v86 (fun r108 =>
                    P_X11_farOf i4_1 r108 v86 (fun r111 =>
                      ((¬ r100 = r111) →
                        (-2147483648 ≤ i4_1 + 1 ∧ i4_1 + 1 ≤ 2147483647) ∧
                        X86 (i4_1 + 1) v86) ∧
                      ((r100 = r111) →
                        P_X11_isWhy 2 i3_1 i4_1 v86 (fun v122 =>
                          (-2147483648 ≤ i4_1 + 1 ∧ i4_1 + 1 ≤ 2147483647) ∧
                          X86 (i4_1 + 1) v122)))))))) → X86 i4_1 v86) →
          X86 0 v71))) → X71 i3_1 v71) →
    X71 0 v69) → K69 v69) →
  ∀ X21 : Int → VT → Prop, (∀ (i3_2 : Int) (v21 : VT), (
    (((v 222 0) ≤ i3_2) →
      K69 v21) ∧
    ((i3_2 < (v 222 0)) →
      (-2147483648 ≤ i3_2 + 1 ∧ i3_2 + 1 ≤ 2147483647) ∧
      ∀ X31 : Int → VT → Prop, (∀ (i4_2 : Int) (v31 : VT), (
        (((v 222 0) ≤ i4_2) →
          (-2147483648 ≤ i3_2 + 1 ∧ i3_2 + 1 ≤ 2147483647) ∧
          X21 (i3_2 + 1) v31) ∧
        ((i4_2 < (v 222 0)) →
          P_X11_farOf i3_2 i4_2 v31 (fun r41 =>
            ((r41 < 99) →
              (-2147483648 ≤ i4_2 + 1 ∧ i4_2 + 1 ≤ 2147483647) ∧
              X31 (i4_2 + 1) v31) ∧
            ((99 ≤ r41) →
              P_X11_isWhy 1 i3_2 i4_2 v31 (fun v54 =>
                (-2147483648 ≤ i4_2 + 1 ∧ i4_2 + 1 ≤ 2147483647) ∧
                X31 (i4_2 + 1) v54))))) → X31 i4_2 v31) →
      X31 (i3_2 + 1) v21)) → X21 i3_2 v21) →
  X21 0 v16

def P_X11_laysSides  (v : VT) (q : VT → Prop) : Prop :=
  ∀ X2 : Int → VT → Prop, (∀ (i1 : Int) (v2 : VT), (
    (((v2 222 0) ≤ i1) →
      q v2) ∧
    ((i1 < (v2 222 0)) →
      (0 ≤ i1 ∧ i1 < 24) ∧
      ∀ v18 : VT, v18 = upd2 v2 228 i1.toNat 0 →
      ∀ X21 : Int → VT → Prop, (∀ (i2 : Int) (v21 : VT), (
        (((v21 218 18) ≤ i2) →
          (-2147483648 ≤ i1 + 1 ∧ i1 + 1 ≤ 2147483647) ∧
          X2 (i1 + 1) v21) ∧
        ((i2 < (v21 218 18)) →
          ((¬ (v21 218 19) = 0) →
            (-2147483648 ≤ i1 + 1 ∧ i1 + 1 ≤ 2147483647) ∧
            X2 (i1 + 1) v21) ∧
          (((v21 218 19) = 0) →
            (0 ≤ i2 ∧ i2 < 60) ∧
            P_X11_low (v21 227 i2.toNat) v21 (fun r45 =>
              P_X11_farOf i1 r45 v21 (fun r48 =>
                (0 ≤ i2 ∧ i2 < 60) ∧
                P_X11_high (v21 227 i2.toNat) v21 (fun r60 =>
                  P_X11_farOf i1 r60 v21 (fun r63 =>
                    ((r48 ≤ r63) →
                      (-2147483648 ≤ i2 + 1 ∧ i2 + 1 ≤ 2147483647) ∧
                      X21 (i2 + 1) v21) ∧
                    ((r63 < r48) →
                      (0 ≤ i1 ∧ i1 < 24) ∧
                      (0 ≤ i1 ∧ i1 < 24) ∧
                      ∀ v80 : VT, v80 = upd2 v21 228 i1.toNat (i_or (v21 228 i1.toNat) (i_shl 1 i2)) →
                      (-2147483648 ≤ i2 + 1 ∧ i2 + 1 ≤ 2147483647) ∧
                      X21 (i2 + 1) v80)))))))) → X21 i2 v21) →
      X21 0 v18)) → X2 i1 v2) →
  X2 0 v

def P_X11_lays  (v : VT) (q : VT → Prop) : Prop :=
  (((v 218 15) = 0) →
    ∀ v10 : VT, v10 = upd2 v 218 15 1 →
    P_X11_laysFar  v10 (fun v14 =>
      P_X11_laysKinds  v14 (fun v18 =>
        P_X11_laysReason  v18 (fun v22 =>
          P_X11_laysSides  v22 (fun v26 =>
            q v26))))) ∧
  ((¬ (v 218 15) = 0) →
    q v)

def P_X11_sits  (v : VT) (q : Int → VT → Prop) : Prop :=
  P_X11_lays  v (fun v1 =>
    ((¬ (v1 218 19) = 0) →
      q 0 v1) ∧
    (((v1 218 19) = 0) →
      (((v1 222 0) ≤ 0) →
        q 0 v1) ∧
      ((0 < (v1 222 0)) →
        q 1 v1)))

def P_X11_isWhole  (v : VT) (q : Int → VT → Prop) : Prop :=
  P_X11_lays  v (fun v1 =>
    (((v1 218 19) = 1) →
      q 0 v1) ∧
    ((¬ (v1 218 19) = 1) →
      (((v1 222 0) ≤ 0) →
        q 0 v1) ∧
      ((0 < (v1 222 0)) →
        q 1 v1)))

def P_X11_isFair  (v : VT) (q : Int → Prop) : Prop :=
  ∀ X2 : Int → Prop, (∀ (i1 : Int), (
    (((v 222 1) ≤ i1) →
      q 1) ∧
    ((i1 < (v 222 1)) →
      P_X11_priceOf i1 v (fun r14 =>
        (0 ≤ i1 ∧ i1 < 60) ∧
        (0 ≤ (v 225 i1.toNat) ∧ (v 225 i1.toNat) < 60) ∧
        P_X11_priceOf (v 227 (v 225 i1.toNat).toNat) v (fun r29 =>
          ((r14 = r29) →
            (-2147483648 ≤ i1 + 1 ∧ i1 + 1 ≤ 2147483647) ∧
            X2 (i1 + 1)) ∧
          ((¬ r14 = r29) →
            q 0))))) → X2 i1) →
  X2 0

def P_X11_has (x1 : Int) (v : VT) (q : Int → VT → Prop) : Prop :=
  P_X11_lays  v (fun v1 =>
    ((x1 = 0) →
      q (v1 222 0) v1) ∧
    ((x1 = 1) →
      q (v1 222 1) v1) ∧
    ((x1 = 2) →
      q (v1 218 18) v1) ∧
    ((x1 = 3) →
      q (v1 218 30) v1) ∧
    ((x1 = 4) →
      q (v1 218 33) v1) ∧
    ((x1 = 5) →
      q (v1 218 36) v1) ∧
    ((x1 = 6) →
      q (v1 218 19) v1) ∧
    ((x1 = 7) →
      P_X11_isFair  v1 (fun r92 =>
        P_X11_flag r92 v1 (fun r95 =>
          q r95 v1))) ∧
    ((x1 < 0 ∨ 7 < x1) →
      q (-1) v1))

def P_X11_letter (x1 : Int) (x2 : Int) (v : VT) (q : Int → Prop) : Prop :=
  P_X11_isNode x1 v (fun r2 =>
    ((r2 = 0) →
      q (-1)) ∧
    ((¬ r2 = 0) →
      P_X11_isIn x2 0 3 v (fun r14 =>
        ((¬ r14 = 0) →
          (-2147483648 ≤ 2 + x1 ∧ 2 + x1 ≤ 2147483647) ∧
          (0 ≤ (2 + x1) ∧ (2 + x1) < 206) ∧
          ∀ l3 : Int, l3 = (v 222 (2 + x1).toNat) →
          ∀ K55 : Int → Prop, (∀ (i4 : Int), (
            (-2147483648 ≤ i4 - 1 ∧ i4 - 1 ≤ 2147483647) ∧
            ∀ X61 : Int → Int → Prop, (∀ (i3 : Int) (i5 : Int), (
              ((i5 ≤ x2) →
                ((i4 ≤ x2) →
                  q 0) ∧
                ((x2 < i4) →
                  q (i_rem i3 27))) ∧
              ((x2 < i5) →
                (-2147483648 ≤ i5 + (-1) ∧ i5 + (-1) ≤ 2147483647) ∧
                X61 (i_div i3 27) (i5 + (-1)))) → X61 i3 i5) →
            X61 l3 (i4 - 1)) → K55 i4) →
          ∀ X37 : Int → Int → Prop, (∀ (i4_1 : Int) (i5_1 : Int), (
            ((i5_1 ≤ 0) →
              K55 i4_1) ∧
            ((0 < i5_1) →
              (-2147483648 ≤ i4_1 + 1 ∧ i4_1 + 1 ≤ 2147483647) ∧
              ∀ l5 : Int, l5 = (i_div i5_1 27) →
              X37 (i4_1 + 1) l5)) → X37 i4_1 i5_1) →
          X37 0 l3) ∧
        ((r14 = 0) →
          q (-1)))))

def P_X11_named  (v : VT) (q : Int → VT → Prop) : Prop :=
  ∀ v7 : VT, v7 = upd2 v 218 1 0 →
  ∀ X14 : Int → Int → Prop, (∀ (i2 : Int) (i3 : Int), (
    (((v 218 1) ≤ i3) →
      ((¬ (v 218 1) = 0) →
        P_X11_nodeNamed 222 i2 v7 (fun r74 =>
          q r74 v7)) ∧
      (((v 218 1) = 0) →
        q (-1) v7)) ∧
    ((i3 < (v 218 1)) →
      ((i3 = 4) →
        q (-1) v7) ∧
      ((¬ i3 = 4) →
        (0 ≤ i3 ∧ i3 < 800) ∧
        P_X11_isLetter (v7 219 i3.toNat) v7 (fun r30 =>
          ((¬ r30 = 0) →
            (-2147483648 ≤ 27 * i2 ∧ 27 * i2 ≤ 2147483647) ∧
            (0 ≤ i3 ∧ i3 < 800) ∧
            (-2147483648 ≤ (27 * i2) + (v7 219 i3.toNat) ∧ (27 * i2) + (v7 219 i3.toNat) ≤ 2147483647) ∧
            (-2147483648 ≤ ((27 * i2) + (v7 219 i3.toNat)) - 97 ∧ ((27 * i2) + (v7 219 i3.toNat)) - 97 ≤ 2147483647) ∧
            (-2147483648 ≤ (((27 * i2) + (v7 219 i3.toNat)) - 97) + 1 ∧ (((27 * i2) + (v7 219 i3.toNat)) - 97) + 1 ≤ 2147483647) ∧
            ∀ l2 : Int, l2 = ((((27 * i2) + (v7 219 i3.toNat)) - 97) + 1) →
            (-2147483648 ≤ i3 + 1 ∧ i3 + 1 ≤ 2147483647) ∧
            X14 l2 (i3 + 1)) ∧
          ((r30 = 0) →
            q (-1) v7))))) → X14 i2 i3) →
  X14 0 0

def P_X11_line (x1 : Int) (x2 : Int) (v : VT) (q : Int → VT → Prop) : Prop :=
  P_X11_isLine x1 v (fun r2 =>
    ((¬ r2 = 0) →
      P_X11_lays  v (fun v11 =>
        ((¬ x2 = 0) →
          ((¬ x2 = 1) →
            ((¬ x2 = 2) →
              ((¬ x2 = 3) →
                q (-1) v11) ∧
              ((x2 = 3) →
                P_X11_priceOf x1 v11 (fun r60 =>
                  q r60 v11))) ∧
            ((x2 = 2) →
              (0 ≤ x1 ∧ x1 < 60) ∧
              q (v11 225 x1.toNat) v11)) ∧
          ((x2 = 1) →
            P_X11_high x1 v11 (fun r33 =>
              q r33 v11))) ∧
        ((x2 = 0) →
          P_X11_low x1 v11 (fun r20 =>
            q r20 v11)))) ∧
    ((r2 = 0) →
      q (-1) v))

def P_X11_degreeOf (x1 : Int) (v : VT) (q : Int → Prop) : Prop :=
  ∀ X4 : Int → Int → Prop, (∀ (i2 : Int) (i3 : Int), (
    (((v 222 1) ≤ i3) →
      q i2) ∧
    ((i3 < (v 222 1)) →
      P_X11_low i3 v (fun r17 =>
        ((r17 = x1) →
          P_X11_flag 1 v (fun r38 =>
            (-2147483648 ≤ i2 + r38 ∧ i2 + r38 ≤ 2147483647) ∧
            (-2147483648 ≤ i3 + 1 ∧ i3 + 1 ≤ 2147483647) ∧
            X4 (i2 + r38) (i3 + 1))) ∧
        ((¬ r17 = x1) →
          P_X11_high i3 v (fun r26 =>
            ((¬ r26 = x1) →
              P_X11_flag 0 v (fun r38_1 =>
                (-2147483648 ≤ i2 + r38_1 ∧ i2 + r38_1 ≤ 2147483647) ∧
                (-2147483648 ≤ i3 + 1 ∧ i3 + 1 ≤ 2147483647) ∧
                X4 (i2 + r38_1) (i3 + 1))) ∧
            ((r26 = x1) →
              P_X11_flag 1 v (fun r38_2 =>
                (-2147483648 ≤ i2 + r38_2 ∧ i2 + r38_2 ≤ 2147483647) ∧
                (-2147483648 ≤ i3 + 1 ∧ i3 + 1 ≤ 2147483647) ∧
                X4 (i2 + r38_2) (i3 + 1)))))))) → X4 i2 i3) →
  X4 0 0

def P_X11_degree (x1 : Int) (v : VT) (q : Int → Prop) : Prop :=
  P_X11_isNode x1 v (fun r2 =>
    ((r2 = 0) →
      q (-1)) ∧
    ((¬ r2 = 0) →
      P_X11_degreeOf x1 v (fun r10 =>
        q r10)))

def P_X11_areNodes (x1 : Int) (x2 : Int) (v : VT) (q : Int → VT → Prop) : Prop :=
  P_X11_lays  v (fun v1 =>
    P_X11_isNode x1 v1 (fun r6 =>
      ((r6 = 0) →
        q 0 v1) ∧
      ((¬ r6 = 0) →
        P_X11_isNode x2 v1 (fun r14 =>
          ((r14 = 0) →
            q 0 v1) ∧
          ((¬ r14 = 0) →
            q 1 v1)))))

def P_X11_far (x1 : Int) (x2 : Int) (v : VT) (q : Int → VT → Prop) : Prop :=
  P_X11_areNodes x1 x2 v (fun r3 v3 =>
    ((r3 = 0) →
      q (-1) v3) ∧
    ((¬ r3 = 0) →
      P_X11_farOf x1 x2 v3 (fun r12 =>
        ((99 ≤ r12) →
          q (-1) v3) ∧
        ((r12 < 99) →
          P_X11_farOf x1 x2 v3 (fun r23 =>
            q r23 v3)))))

def P_X11_ways (x1 : Int) (x2 : Int) (v : VT) (q : Int → VT → Prop) : Prop :=
  P_X11_areNodes x1 x2 v (fun r3 v3 =>
    ((¬ r3 = 0) →
      ∀ K49 : VT → Prop, (∀ (v49 : VT), (
        ∀ X51 : Int → VT → Prop, (∀ (i3 : Int) (v51 : VT), (
          ((24 ≤ i3) →
            (0 ≤ x2 ∧ x2 < 24) ∧
            (-2147483648 ≤ (v51 230 x2.toNat) ∧ (v51 230 x2.toNat) ≤ 2147483647) ∧
            q (v51 230 x2.toNat) v51) ∧
          ((i3 < 24) →
            ∀ X60 : Int → VT → Prop, (∀ (i4 : Int) (v60 : VT), (
              (((v60 222 0) ≤ i4) →
                (-2147483648 ≤ i3 + 1 ∧ i3 + 1 ≤ 2147483647) ∧
                X51 (i3 + 1) v60) ∧
              ((i4 < (v60 222 0)) →
                P_X11_farOf x1 i4 v60 (fun r75 =>
                  ((r75 = i3) →
                    ∀ X88 : Int → VT → Prop, (∀ (i5 : Int) (v88 : VT), (
                      (((v88 222 0) ≤ i5) →
                        (-2147483648 ≤ i4 + 1 ∧ i4 + 1 ≤ 2147483647) ∧
                        X60 (i4 + 1) v88) ∧
                      ((i5 < (v88 222 0)) →
                        P_X11_farOf i5 i4 v88 (fun r104 =>
                          ((¬ r104 = 1) →
                            (-2147483648 ≤ i5 + 1 ∧ i5 + 1 ≤ 2147483647) ∧
                            X88 (i5 + 1) v88) ∧
                          ((r104 = 1) →
                            P_X11_farOf x1 i5 v88 (fun r115 =>
                              (-2147483648 ≤ i3 - 1 ∧ i3 - 1 ≤ 2147483647) ∧
                              ((¬ r115 = (i3 - 1)) →
                                (-2147483648 ≤ i5 + 1 ∧ i5 + 1 ≤ 2147483647) ∧
                                X88 (i5 + 1) v88) ∧
                              ((r115 = (i3 - 1)) →
                                (0 ≤ i4 ∧ i4 < 24) ∧
                                (0 ≤ i5 ∧ i5 < 24) ∧
                                (-9223372036854775808 ≤ (v88 230 i4.toNat) + (v88 230 i5.toNat) ∧ (v88 230 i4.toNat) + (v88 230 i5.toNat) ≤ 9223372036854775807) ∧
                                ((((v88 230 i4.toNat) + (v88 230 i5.toNat)) ≤ 1000000000) →
                                  (0 ≤ i4 ∧ i4 < 24) ∧
                                  (0 ≤ i5 ∧ i5 < 24) ∧
                                  (-9223372036854775808 ≤ (v88 230 i4.toNat) + (v88 230 i5.toNat) ∧ (v88 230 i4.toNat) + (v88 230 i5.toNat) ≤ 9223372036854775807) ∧
                                  (0 ≤ i4 ∧ i4 < 24) ∧
                                  ∀ v173 : VT, v173 = upd2 v88 230 i4.toNat ((v88 230 i4.toNat) + (v88 230 i5.toNat)) →
                                  (-2147483648 ≤ i5 + 1 ∧ i5 + 1 ≤ 2147483647) ∧
                                  X88 (i5 + 1) v173) ∧
                                ((1000000000 < ((v88 230 i4.toNat) + (v88 230 i5.toNat))) →
                                  (0 ≤ i4 ∧ i4 < 24) ∧
                                  ∀ v173_1 : VT, v173_1 = upd2 v88 230 i4.toNat 1000000000 →
                                  (-2147483648 ≤ i5 + 1 ∧ i5 + 1 ≤ 2147483647) ∧
                                  X88 (i5 + 1) v173_1))))))) → X88 i5 v88) →
                    X88 0 v60) ∧
                  ((¬ r75 = i3) →
                    (-2147483648 ≤ i4 + 1 ∧ i4 + 1 ≤ 2147483647) ∧
                    X60 (i4 + 1) v60)))) → X60 i4 v60) →
            X60 0 v51)) → X51 i3 v51) →
        X51 1 v49) → K49 v49) →
      ∀ X13 : Int → VT → Prop, (∀ (i3_1 : Int) (v13 : VT), (
        (((v13 222 0) ≤ i3_1) →
          K49 v13) ∧
        ((i3_1 < (v13 222 0)) →
          ((¬ i3_1 = x1) →
            P_X11_flag 0 v13 (fun r38 =>
              (0 ≤ i3_1 ∧ i3_1 < 24) ∧
              ∀ v42 : VT, v42 = upd2 v13 230 i3_1.toNat r38 →
              (-2147483648 ≤ i3_1 + 1 ∧ i3_1 + 1 ≤ 2147483647) ∧
              X13 (i3_1 + 1) v42)) ∧
          ((i3_1 = x1) →
            P_X11_flag 1 v13 (fun r38_1 =>
              (0 ≤ i3_1 ∧ i3_1 < 24) ∧
              ∀ v42_1 : VT, v42_1 = upd2 v13 230 i3_1.toNat r38_1 →
              (-2147483648 ≤ i3_1 + 1 ∧ i3_1 + 1 ≤ 2147483647) ∧
              X13 (i3_1 + 1) v42_1)))) → X13 i3_1 v13) →
      X13 0 v3) ∧
    ((r3 = 0) →
      q (-1) v3))

def P_X11_betweenOf (x1 : Int) (x2 : Int) (v : VT) (q : Int → Prop) : Prop :=
  ∀ X5 : Int → Int → Prop, (∀ (i3 : Int) (i4 : Int), (
    (((v 222 0) ≤ i4) →
      q i3) ∧
    ((i4 < (v 222 0)) →
      P_X11_farOf x1 x2 v (fun r19 =>
        ((99 ≤ r19) →
          q i3) ∧
        ((r19 < 99) →
          P_X11_farOf x1 i4 v (fun r31 =>
            P_X11_farOf i4 x2 v (fun r38 =>
              (-2147483648 ≤ r31 + r38 ∧ r31 + r38 ≤ 2147483647) ∧
              P_X11_farOf x1 x2 v (fun r45 =>
                ((¬ (r31 + r38) = r45) →
                  (-2147483648 ≤ i4 + 1 ∧ i4 + 1 ≤ 2147483647) ∧
                  X5 i3 (i4 + 1)) ∧
                (((r31 + r38) = r45) →
                  ∀ l3 : Int, l3 = (i_or i3 (i_shl 1 i4)) →
                  (-2147483648 ≤ i4 + 1 ∧ i4 + 1 ≤ 2147483647) ∧
                  X5 l3 (i4 + 1))))))))) → X5 i3 i4) →
  X5 0 0

def P_X11_between (x1 : Int) (x2 : Int) (v : VT) (q : Int → VT → Prop) : Prop :=
  P_X11_areNodes x1 x2 v (fun r3 v3 =>
    ((r3 = 0) →
      q (-1) v3) ∧
    ((¬ r3 = 0) →
      P_X11_betweenOf x1 x2 v3 (fun r12 =>
        q r12 v3)))

def P_X11_reach (x1 : Int) (v : VT) (q : Int → VT → Prop) : Prop :=
  P_X11_areNodes x1 x1 v (fun r3 v3 =>
    ((¬ r3 = 0) →
      ∀ X15 : Int → Int → Prop, (∀ (i2 : Int) (i3 : Int), (
        (((v3 222 0) ≤ i3) →
          q i2 v3) ∧
        ((i3 < (v3 222 0)) →
          P_X11_farOf x1 i3 v3 (fun r28 =>
            ((99 ≤ r28) →
              (-2147483648 ≤ i3 + 1 ∧ i3 + 1 ≤ 2147483647) ∧
              X15 i2 (i3 + 1)) ∧
            ((r28 < 99) →
              P_X11_farOf x1 i3 v3 (fun r39 =>
                ((r39 ≤ i2) →
                  (-2147483648 ≤ i3 + 1 ∧ i3 + 1 ≤ 2147483647) ∧
                  X15 i2 (i3 + 1)) ∧
                ((i2 < r39) →
                  P_X11_farOf x1 i3 v3 (fun r49 =>
                    (-2147483648 ≤ i3 + 1 ∧ i3 + 1 ≤ 2147483647) ∧
                    X15 r49 (i3 + 1)))))))) → X15 i2 i3) →
      X15 0 0) ∧
    ((r3 = 0) →
      q (-1) v3))

def P_X11_cheapens (x1 : Int) (x2 : Int) (x3 : Int) (v : VT) (q : Int → VT → Prop) : Prop :=
  (0 ≤ x2 ∧ x2 < 24) ∧
  (-2147483648 ≤ (v 231 x2.toNat) + x3 ∧ (v 231 x2.toNat) + x3 ≤ 2147483647) ∧
  (0 ≤ x1 ∧ x1 < 24) ∧
  ((((v 231 x2.toNat) + x3) < (v 231 x1.toNat)) →
    (0 ≤ x2 ∧ x2 < 24) ∧
    (-2147483648 ≤ (v 231 x2.toNat) + x3 ∧ (v 231 x2.toNat) + x3 ≤ 2147483647) ∧
    (0 ≤ x1 ∧ x1 < 24) ∧
    ∀ v32 : VT, v32 = upd2 v 231 x1.toNat ((v 231 x2.toNat) + x3) →
    q 1 v32) ∧
  (((v 231 x1.toNat) ≤ ((v 231 x2.toNat) + x3)) →
    q 0 v)

def P_X11_laysCosts (x1 : Int) (v : VT) (q : VT → Prop) : Prop :=
  ∀ K36 : VT → Prop, (∀ (v36 : VT), (
    ∀ X38 : Int → VT → Prop, (∀ (i2 : Int) (v38 : VT), (
      ((i2 = 0) →
        q v38) ∧
      ((¬ i2 = 0) →
        ∀ X46 : Int → Int → VT → Prop, (∀ (i2_1 : Int) (i3 : Int) (v46 : VT), (
          (((v46 222 1) ≤ i3) →
            X38 i2_1 v46) ∧
          ((i3 < (v46 222 1)) →
            P_X11_low i3 v46 (fun r59 =>
              P_X11_high i3 v46 (fun r64 =>
                P_X11_priceOf i3 v46 (fun r69 =>
                  P_X11_cheapens r59 r64 r69 v46 (fun r72 v72 =>
                    ∀ K87 : Int → Prop, (∀ (s0 : Int), (
                      P_X11_high i3 v72 (fun r91 =>
                        P_X11_low i3 v72 (fun r96 =>
                          P_X11_priceOf i3 v72 (fun r101 =>
                            P_X11_cheapens r91 r96 r101 v72 (fun r104 v104 =>
                              ((¬ r104 = 0) →
                                (-2147483648 ≤ i3 + 1 ∧ i3 + 1 ≤ 2147483647) ∧
                                X46 1 (i3 + 1) v104) ∧
                              ((r104 = 0) →
                                ((s0 = 0) →
                                  (-2147483648 ≤ i3 + 1 ∧ i3 + 1 ≤ 2147483647) ∧
                                  X46 0 (i3 + 1) v104) ∧
                                ((¬ s0 = 0) →
                                  (-2147483648 ≤ i3 + 1 ∧ i3 + 1 ≤ 2147483647) ∧
                                  X46 1 (i3 + 1) v104))))))) → K87 s0) →
                    ∀ K82 : Prop, ((
                      K87 1) → K82) →
                    ((¬ r72 = 0) →
                      K82) ∧
                    ((r72 = 0) →
                      ((i2_1 = 0) →
                        K87 0) ∧
                      ((¬ i2_1 = 0) →
                        K82)))))))) → X46 i2_1 i3 v46) →
        X46 0 0 v38)) → X38 i2 v38) →
    X38 1 v36) → K36 v36) →
  ∀ X2 : Int → VT → Prop, (∀ (i2_2 : Int) (v2 : VT), (
    (((v2 222 0) ≤ i2_2) →
      K36 v2) ∧
    ((i2_2 < (v2 222 0)) →
      ((¬ i2_2 = x1) →
        (0 ≤ i2_2 ∧ i2_2 < 24) ∧
        ∀ v29 : VT, v29 = upd2 v2 231 i2_2.toNat 1000000000 →
        (-2147483648 ≤ i2_2 + 1 ∧ i2_2 + 1 ≤ 2147483647) ∧
        X2 (i2_2 + 1) v29) ∧
      ((i2_2 = x1) →
        (0 ≤ i2_2 ∧ i2_2 < 24) ∧
        ∀ v29_1 : VT, v29_1 = upd2 v2 231 i2_2.toNat 0 →
        (-2147483648 ≤ i2_2 + 1 ∧ i2_2 + 1 ≤ 2147483647) ∧
        X2 (i2_2 + 1) v29_1))) → X2 i2_2 v2) →
  X2 0 v

def P_X11_barOf (x1 : Int) (x2 : Int) (v : VT) (q : Int → Prop) : Prop :=
  ∀ X7 : Int → Int → Prop, (∀ (i3 : Int) (i4 : Int), (
    P_X11_isOf i4 x2 v (fun r10 =>
      ((¬ r10 = 0) →
        q i3) ∧
      ((r10 = 0) →
        (-2147483648 ≤ i3 + 1 ∧ i3 + 1 ≤ 2147483647) ∧
        ∀ X22 : Int → Int → Prop, (∀ (i4_1 : Int) (i5 : Int), (
          ((i5 = i4_1) →
            X7 (i3 + 1) i4_1) ∧
          ((¬ i5 = i4_1) →
            ∀ X36 : Int → Int → Prop, (∀ (i4_2 : Int) (i6 : Int), (
              (((v 222 1) ≤ i6) →
                X22 i4_2 i4_1) ∧
              ((i6 < (v 222 1)) →
                P_X11_priceOf i6 v (fun r50 =>
                  (((i3 + 1) < r50) →
                    (-2147483648 ≤ i6 + 1 ∧ i6 + 1 ≤ 2147483647) ∧
                    X36 i4_2 (i6 + 1)) ∧
                  ((r50 ≤ (i3 + 1)) →
                    P_X11_low i6 v (fun r62 =>
                      P_X11_isOf i4_2 r62 v (fun r65 =>
                        ∀ K85 : Prop, ((
                          P_X11_low i6 v (fun r91 =>
                            P_X11_high i6 v (fun r99 =>
                              ∀ l4 : Int, l4 = (i_or i4_2 (i_or (i_shl 1 r91) (i_shl 1 r99))) →
                              (-2147483648 ≤ i6 + 1 ∧ i6 + 1 ≤ 2147483647) ∧
                              X36 l4 (i6 + 1)))) → K85) →
                        ((¬ r65 = 0) →
                          K85) ∧
                        ((r65 = 0) →
                          P_X11_high i6 v (fun r76 =>
                            P_X11_isOf i4_2 r76 v (fun r79 =>
                              ((r79 = 0) →
                                (-2147483648 ≤ i6 + 1 ∧ i6 + 1 ≤ 2147483647) ∧
                                X36 i4_2 (i6 + 1)) ∧
                              ((¬ r79 = 0) →
                                K85)))))))))) → X36 i4_2 i6) →
            X36 i4_1 0)) → X22 i4_1 i5) →
        X22 i4 0))) → X7 i3 i4) →
  X7 0 (i_shl 1 x1)

def P_X11_areJoined (x1 : Int) (x2 : Int) (v : VT) (q : Int → VT → Prop) : Prop :=
  P_X11_areNodes x1 x2 v (fun r3 v3 =>
    ((r3 = 0) →
      q 0 v3) ∧
    ((¬ r3 = 0) →
      P_X11_farOf x1 x2 v3 (fun r12 =>
        ((99 ≤ r12) →
          q 0 v3) ∧
        ((r12 < 99) →
          q 1 v3))))

def P_X11_price (x1 : Int) (x2 : Int) (x3 : Int) (v : VT) (q : Int → VT → Prop) : Prop :=
  P_X11_areJoined x1 x2 v (fun r3 v3 =>
    ((r3 = 0) →
      q (-1) v3) ∧
    ((¬ r3 = 0) →
      P_X11_isIn x3 0 1 v3 (fun r13 =>
        ((¬ r13 = 0) →
          ((¬ x3 = 1) →
            P_X11_laysCosts x2 v3 (fun v35 =>
              (0 ≤ x1 ∧ x1 < 24) ∧
              q (v35 231 x1.toNat) v35)) ∧
          ((x3 = 1) →
            P_X11_barOf x1 x2 v3 (fun r29 =>
              q r29 v3))) ∧
        ((r13 = 0) →
          q (-1) v3))))

def P_X11_nextOf (x1 : Int) (v : VT) (q : Int → Prop) : Prop :=
  ∀ X2 : Int → Prop, (∀ (i2 : Int), (
    (((v 222 0) ≤ i2) →
      q (-1)) ∧
    ((i2 < (v 222 0)) →
      P_X11_lineOf 222 x1 i2 v (fun r18 =>
        ((i2 = x1) →
          (-2147483648 ≤ i2 + 1 ∧ i2 + 1 ≤ 2147483647) ∧
          X2 (i2 + 1)) ∧
        ((¬ i2 = x1) →
          ((r18 = (-1)) →
            (-2147483648 ≤ i2 + 1 ∧ i2 + 1 ≤ 2147483647) ∧
            X2 (i2 + 1)) ∧
          ((¬ r18 = (-1)) →
            (0 ≤ i2 ∧ i2 < 24) ∧
            P_X11_priceOf r18 v (fun r40 =>
              (-2147483648 ≤ (v 231 i2.toNat) + r40 ∧ (v 231 i2.toNat) + r40 ≤ 2147483647) ∧
              (0 ≤ x1 ∧ x1 < 24) ∧
              ((¬ ((v 231 i2.toNat) + r40) = (v 231 x1.toNat)) →
                (-2147483648 ≤ i2 + 1 ∧ i2 + 1 ≤ 2147483647) ∧
                X2 (i2 + 1)) ∧
              ((((v 231 i2.toNat) + r40) = (v 231 x1.toNat)) →
                q i2))))))) → X2 i2) →
  X2 0

def P_X11_road (x1 : Int) (x2 : Int) (x3 : Int) (v : VT) (q : Int → VT → Prop) : Prop :=
  P_X11_areJoined x1 x2 v (fun r3 v3 =>
    ((r3 = 0) →
      q (-1) v3) ∧
    ((¬ r3 = 0) →
      (((-1) ≤ x3) →
        P_X11_laysCosts x2 v3 (fun v18 =>
          ∀ K53 : Int → Int → Prop, (∀ (i4 : Int) (i5 : Int), (
            ((¬ x3 = (-1)) →
              ((¬ i5 = x3) →
                q (-1) v18) ∧
              ((i5 = x3) →
                q i4 v18)) ∧
            ((x3 = (-1)) →
              (-2147483648 ≤ i5 + 1 ∧ i5 + 1 ≤ 2147483647) ∧
              q (i5 + 1) v18)) → K53 i4 i5) →
          ∀ X27 : Int → Int → Prop, (∀ (i4_1 : Int) (i5_1 : Int), (
            ((i4_1 = x2) →
              K53 i4_1 i5_1) ∧
            ((¬ i4_1 = x2) →
              ((i5_1 = x3) →
                K53 i4_1 i5_1) ∧
              ((¬ i5_1 = x3) →
                P_X11_nextOf i4_1 v18 (fun r42 =>
                  (-2147483648 ≤ i5_1 + 1 ∧ i5_1 + 1 ≤ 2147483647) ∧
                  X27 r42 (i5_1 + 1))))) → X27 i4_1 i5_1) →
          X27 x1 0)) ∧
      ((x3 < (-1)) →
        q (-1) v3)))

def P_X11_spread  (v : VT) (q : Int → VT → Prop) : Prop :=
  P_X11_lays  v (fun v1 =>
    ∀ X8 : Int → Int → Prop, (∀ (i1 : Int) (i2 : Int), (
      (((v1 222 0) ≤ i2) →
        q i1 v1) ∧
      ((i2 < (v1 222 0)) →
        (-2147483648 ≤ i2 + 1 ∧ i2 + 1 ≤ 2147483647) ∧
        ∀ X22 : Int → Int → Prop, (∀ (i1_1 : Int) (i3 : Int), (
          (((v1 222 0) ≤ i3) →
            (-2147483648 ≤ i2 + 1 ∧ i2 + 1 ≤ 2147483647) ∧
            X8 i1_1 (i2 + 1)) ∧
          ((i3 < (v1 222 0)) →
            P_X11_farOf i2 i3 v1 (fun r35 =>
              ((99 ≤ r35) →
                (-2147483648 ≤ i3 + 1 ∧ i3 + 1 ≤ 2147483647) ∧
                X22 i1_1 (i3 + 1)) ∧
              ((r35 < 99) →
                P_X11_farOf i2 i3 v1 (fun r47 =>
                  (-2147483648 ≤ i1_1 + r47 ∧ i1_1 + r47 ≤ 2147483647) ∧
                  (-2147483648 ≤ i3 + 1 ∧ i3 + 1 ≤ 2147483647) ∧
                  X22 (i1_1 + r47) (i3 + 1)))))) → X22 i1_1 i3) →
        X22 i1 (i2 + 1))) → X8 i1 i2) →
    X8 0 0)

def P_X11_alike (x1 : Int) (x2 : Int) (v : VT) (q : Int → VT → Prop) : Prop :=
  P_X11_isLine x1 v (fun r2 =>
    ((r2 = 0) →
      q (-1) v) ∧
    ((¬ r2 = 0) →
      P_X11_isLine x2 v (fun r10 =>
        ((¬ r10 = 0) →
          P_X11_lays  v (fun v19 =>
            P_X11_areAlike x1 x2 v19 (fun r25 =>
              P_X11_flag r25 v19 (fun r28 =>
                q r28 v19)))) ∧
        ((r10 = 0) →
          q (-1) v))))

def P_X11_sideOne (x1 : Int) (v : VT) (q : Int → Prop) : Prop :=
  ∀ X4 : Int → Int → Prop, (∀ (i2 : Int) (i3 : Int), (
    (((v 222 0) ≤ i3) →
      q i2) ∧
    ((i3 < (v 222 0)) →
      (0 ≤ i3 ∧ i3 < 24) ∧
      P_X11_isOf (v 228 i3.toNat) x1 v (fun r21 =>
        ((r21 = 0) →
          (-2147483648 ≤ i3 + 1 ∧ i3 + 1 ≤ 2147483647) ∧
          X4 i2 (i3 + 1)) ∧
        ((¬ r21 = 0) →
          ∀ l2 : Int, l2 = (i_or i2 (i_shl 1 i3)) →
          (-2147483648 ≤ i3 + 1 ∧ i3 + 1 ≤ 2147483647) ∧
          X4 l2 (i3 + 1))))) → X4 i2 i3) →
  X4 0 0

def P_X11_costOf (x1 : Int) (v : VT) (q : Int → Prop) : Prop :=
  P_X11_sideOne x1 v (fun r2 =>
    P_X11_count r2 v (fun r5 =>
      (-2147483648 ≤ (v 222 0) - r5 ∧ (v 222 0) - r5 ≤ 2147483647) ∧
      (-2147483648 ≤ r5 * ((v 222 0) - r5) ∧ r5 * ((v 222 0) - r5) ≤ 2147483647) ∧
      q (r5 * ((v 222 0) - r5))))

def P_X11_sort (x1 : Int) (x2 : Int) (v : VT) (q : Int → VT → Prop) : Prop :=
  P_X11_lays  v (fun v1 =>
    (-2147483648 ≤ (v1 218 18) - 1 ∧ (v1 218 18) - 1 ≤ 2147483647) ∧
    P_X11_isIn x1 0 ((v1 218 18) - 1) v1 (fun r14 =>
      ((¬ r14 = 0) →
        ∀ K66 : Int → Prop, (∀ (i3 : Int), (
          ((x2 = 0) →
            q i3 v1) ∧
          ((x2 = 1) →
            (0 ≤ x1 ∧ x1 < 60) ∧
            q (v1 227 x1.toNat) v1) ∧
          ((x2 = 2) →
            ((¬ (v1 218 19) = 0) →
              q (-1) v1) ∧
            (((v1 218 19) = 0) →
              P_X11_costOf x1 v1 (fun r114 =>
                q r114 v1))) ∧
          ((x2 = 3) →
            ((¬ (v1 218 19) = 0) →
              q (-1) v1) ∧
            (((v1 218 19) = 0) →
              P_X11_sideOne x1 v1 (fun r131 =>
                q r131 v1))) ∧
          ((x2 < 0 ∨ 3 < x2) →
            q (-1) v1)) → K66 i3) →
        ∀ X27 : Int → Int → Prop, (∀ (i3_1 : Int) (i4 : Int), (
          (((v1 222 1) ≤ i4) →
            K66 i3_1) ∧
          ((i4 < (v1 222 1)) →
            (0 ≤ i4 ∧ i4 < 60) ∧
            ((¬ (v1 225 i4.toNat) = x1) →
              P_X11_flag 0 v1 (fun r55 =>
                (-2147483648 ≤ i3_1 + r55 ∧ i3_1 + r55 ≤ 2147483647) ∧
                (-2147483648 ≤ i4 + 1 ∧ i4 + 1 ≤ 2147483647) ∧
                X27 (i3_1 + r55) (i4 + 1))) ∧
            (((v1 225 i4.toNat) = x1) →
              P_X11_flag 1 v1 (fun r55_1 =>
                (-2147483648 ≤ i3_1 + r55_1 ∧ i3_1 + r55_1 ≤ 2147483647) ∧
                (-2147483648 ≤ i4 + 1 ∧ i4 + 1 ≤ 2147483647) ∧
                X27 (i3_1 + r55_1) (i4 + 1))))) → X27 i3_1 i4) →
        X27 0 0) ∧
      ((r14 = 0) →
        q (-1) v1)))

def P_X11_shows (x1 : Int) (v : VT) (q : Int → VT → Prop) : Prop :=
  P_X11_lays  v (fun v1 =>
    (((v1 218 19) = 0) →
      q (-1) v1) ∧
    ((¬ (v1 218 19) = 0) →
      P_X11_isIn x1 0 1 v1 (fun r15 =>
        ((r15 = 0) →
          q (-1) v1) ∧
        ((¬ r15 = 0) →
          (0 ≤ x1 ∧ x1 < 2) ∧
          q (v1 226 x1.toNat) v1))))

def P_X11_sides (x1 : Int) (v : VT) (q : Int → VT → Prop) : Prop :=
  P_X11_sits  v (fun r1 v1 =>
    ((r1 = 0) →
      q (-1) v1) ∧
    ((¬ r1 = 0) →
      P_X11_isNode x1 v1 (fun r9 =>
        ((r9 = 0) →
          q (-1) v1) ∧
        ((¬ r9 = 0) →
          (0 ≤ x1 ∧ x1 < 24) ∧
          q (v1 228 x1.toNat) v1))))

def P_X11_nodeAt (x1 : Int) (v : VT) (q : Int → Prop) : Prop :=
  ∀ X2 : Int → Prop, (∀ (i2 : Int), (
    (((v 222 0) ≤ i2) →
      q (-1)) ∧
    ((i2 < (v 222 0)) →
      (0 ≤ i2 ∧ i2 < 24) ∧
      ((¬ (v 228 i2.toNat) = x1) →
        (-2147483648 ≤ i2 + 1 ∧ i2 + 1 ≤ 2147483647) ∧
        X2 (i2 + 1)) ∧
      (((v 228 i2.toNat) = x1) →
        q i2))) → X2 i2) →
  X2 0

def P_X11_at (x1 : Int) (v : VT) (q : Int → VT → Prop) : Prop :=
  P_X11_sits  v (fun r1 v1 =>
    ((r1 = 0) →
      q (-1) v1) ∧
    ((¬ r1 = 0) →
      P_X11_nodeAt x1 v1 (fun r9 =>
        q r9 v1)))

def P_X11_isDirection (x1 : Int) (v : VT) (q : Int → VT → Prop) : Prop :=
  P_X11_sits  v (fun r1 v1 =>
    ((r1 = 0) →
      q 0 v1) ∧
    ((¬ r1 = 0) →
      (-2147483648 ≤ (v1 218 18) - 1 ∧ (v1 218 18) - 1 ≤ 2147483647) ∧
      P_X11_isIn x1 0 ((v1 218 18) - 1) v1 (fun r17 =>
        ((r17 = 0) →
          q 0 v1) ∧
        ((¬ r17 = 0) →
          q 1 v1))))

def P_X11_pairsOf (x1 : Int) (x2 : Int) (v : VT) (q : Int → Prop) : Prop :=
  ∀ X5 : Int → Int → Prop, (∀ (i3 : Int) (i4 : Int), (
    (((v 222 0) ≤ i4) →
      P_X11_count i3 v (fun r53 =>
        q r53)) ∧
    ((i4 < (v 222 0)) →
      (0 ≤ i4 ∧ i4 < 24) ∧
      (-2147483648 ≤ 2 * (i_and (i_shr (v 228 i4.toNat) x1) 1) ∧ 2 * (i_and (i_shr (v 228 i4.toNat) x1) 1) ≤ 2147483647) ∧
      (0 ≤ i4 ∧ i4 < 24) ∧
      (-2147483648 ≤ (2 * (i_and (i_shr (v 228 i4.toNat) x1) 1)) + (i_and (i_shr (v 228 i4.toNat) x2) 1) ∧ (2 * (i_and (i_shr (v 228 i4.toNat) x1) 1)) + (i_and (i_shr (v 228 i4.toNat) x2) 1) ≤ 2147483647) ∧
      ∀ l3 : Int, l3 = (i_or i3 (i_shl 1 ((2 * (i_and (i_shr (v 228 i4.toNat) x1) 1)) + (i_and (i_shr (v 228 i4.toNat) x2) 1)))) →
      (-2147483648 ≤ i4 + 1 ∧ i4 + 1 ≤ 2147483647) ∧
      X5 l3 (i4 + 1))) → X5 i3 i4) →
  X5 0 0

def P_X11_cross (x1 : Int) (x2 : Int) (v : VT) (q : Int → VT → Prop) : Prop :=
  P_X11_isDirection x1 v (fun r2 v2 =>
    ((r2 = 0) →
      q (-1) v2) ∧
    ((¬ r2 = 0) →
      P_X11_isDirection x2 v2 (fun r10 v10 =>
        ((r10 = 0) →
          q (-1) v10) ∧
        ((¬ r10 = 0) →
          ((x1 = x2) →
            q (-1) v10) ∧
          ((¬ x1 = x2) →
            P_X11_pairsOf x1 x2 v10 (fun r24 =>
              q r24 v10))))))

def P_X11_half (x1 : Int) (v : VT) (q : Int → Prop) : Prop :=
  ((¬ (i_rem x1 2) = 1) →
    P_X11_all  v (fun r18 =>
      P_X11_sideOne (i_div x1 2) v (fun r25 =>
        q (i_and r18 (i_xor r25 (-1)))))) ∧
  (((i_rem x1 2) = 1) →
    P_X11_sideOne (i_div x1 2) v (fun r11 =>
      q r11))

def P_X11_doFit (x1 : Int) (x2 : Int) (v : VT) (q : Int → Prop) : Prop :=
  P_X11_half x1 v (fun r2 =>
    P_X11_half x2 v (fun r7 =>
      P_X11_all  v (fun r12 =>
        ((¬ (i_or r2 r7) = r12) →
          q 0) ∧
        (((i_or r2 r7) = r12) →
          P_X11_half x1 v (fun r20 =>
            P_X11_half x2 v (fun r25 =>
              (((i_and r20 r25) = 0) →
                q 0) ∧
              ((¬ (i_and r20 r25) = 0) →
                q 1)))))))

def P_X11_isHalf (x1 : Int) (v : VT) (q : Int → VT → Prop) : Prop :=
  P_X11_sits  v (fun r1 v1 =>
    ((r1 = 0) →
      q 0 v1) ∧
    ((¬ r1 = 0) →
      (-2147483648 ≤ 2 * (v1 218 18) ∧ 2 * (v1 218 18) ≤ 2147483647) ∧
      (-2147483648 ≤ (2 * (v1 218 18)) - 1 ∧ (2 * (v1 218 18)) - 1 ≤ 2147483647) ∧
      P_X11_isIn x1 0 ((2 * (v1 218 18)) - 1) v1 (fun r19 =>
        ((r19 = 0) →
          q 0 v1) ∧
        ((¬ r19 = 0) →
          q 1 v1))))

def P_X11_fit (x1 : Int) (x2 : Int) (v : VT) (q : Int → VT → Prop) : Prop :=
  P_X11_isHalf x1 v (fun r2 v2 =>
    ((r2 = 0) →
      q (-1) v2) ∧
    ((¬ r2 = 0) →
      P_X11_isHalf x2 v2 (fun r10 v10 =>
        ((r10 = 0) →
          q (-1) v10) ∧
        ((¬ r10 = 0) →
          ((x1 = x2) →
            q (-1) v10) ∧
          ((¬ x1 = x2) →
            P_X11_doFit x1 x2 v10 (fun r24 =>
              P_X11_flag r24 v10 (fun r27 =>
                q r27 v10)))))))

def P_X11_isCube (x1 : Int) (x2 : Int) (v : VT) (q : Int → Prop) : Prop :=
  ∀ X2 : Int → Prop, (∀ (i3 : Int), (
    ((i3 ≤ 0) →
      q 1) ∧
    ((0 < i3) →
      (0 ≤ x1 ∧ x1 < 24) ∧
      P_X11_nodeAt (i_or (v 228 x1.toNat) i3) v (fun r15 =>
        ((¬ r15 = (-1)) →
          (-2147483648 ≤ i3 - 1 ∧ i3 - 1 ≤ 2147483647) ∧
          ∀ l3 : Int, l3 = (i_and (i3 - 1) x2) →
          X2 l3) ∧
        ((r15 = (-1)) →
          q 0)))) → X2 i3) →
  X2 x2

def P_X11_cubes (x1 : Int) (v : VT) (q : Int → VT → Prop) : Prop :=
  P_X11_sits  v (fun r1 v1 =>
    ((r1 = 0) →
      q (-1) v1) ∧
    ((¬ r1 = 0) →
      ((0 ≤ x1) →
        ∀ X17 : Int → Int → Prop, (∀ (i2 : Int) (i3 : Int), (
          (((v1 222 0) ≤ i3) →
            q i2 v1) ∧
          ((i3 < (v1 222 0)) →
            ∀ X30 : Int → Int → Prop, (∀ (i2_1 : Int) (i4 : Int), (
              (((v1 222 0) ≤ i4) →
                (-2147483648 ≤ i3 + 1 ∧ i3 + 1 ≤ 2147483647) ∧
                X17 i2_1 (i3 + 1)) ∧
              ((i4 < (v1 222 0)) →
                (0 ≤ i4 ∧ i4 < 24) ∧
                (0 ≤ i3 ∧ i3 < 24) ∧
                ∀ l5 : Int, l5 = (i_and (v1 228 i4.toNat) (i_xor (v1 228 i3.toNat) (-1))) →
                (0 ≤ i3 ∧ i3 < 24) ∧
                (0 ≤ i4 ∧ i4 < 24) ∧
                ((¬ (i_and (v1 228 i3.toNat) (i_xor (v1 228 i4.toNat) (-1))) = 0) →
                  P_X11_flag 0 v1 (fun r108 =>
                    (-2147483648 ≤ i2_1 + r108 ∧ i2_1 + r108 ≤ 2147483647) ∧
                    (-2147483648 ≤ i4 + 1 ∧ i4 + 1 ≤ 2147483647) ∧
                    X30 (i2_1 + r108) (i4 + 1))) ∧
                (((i_and (v1 228 i3.toNat) (i_xor (v1 228 i4.toNat) (-1))) = 0) →
                  P_X11_count l5 v1 (fun r81 =>
                    ((¬ r81 = x1) →
                      P_X11_flag 0 v1 (fun r108_1 =>
                        (-2147483648 ≤ i2_1 + r108_1 ∧ i2_1 + r108_1 ≤ 2147483647) ∧
                        ∀ l2 : Int, l2 = (i2_1 + r108_1) →
                        (-2147483648 ≤ i4 + 1 ∧ i4 + 1 ≤ 2147483647) ∧
                        X30 l2 (i4 + 1))) ∧
                    ((r81 = x1) →
                      ((4 < x1) →
                        P_X11_flag 0 v1 (fun r108_2 =>
                          (-2147483648 ≤ i2_1 + r108_2 ∧ i2_1 + r108_2 ≤ 2147483647) ∧
                          ∀ l2_1 : Int, l2_1 = (i2_1 + r108_2) →
                          (-2147483648 ≤ i4 + 1 ∧ i4 + 1 ≤ 2147483647) ∧
                          X30 l2_1 (i4 + 1))) ∧
                      ((x1 ≤ 4) →
                        P_X11_isCube i3 l5 v1 (fun r97 =>
                          ((r97 = 0) →
                            P_X11_flag 0 v1 (fun r108_3 =>
                              (-2147483648 ≤ i2_1 + r108_3 ∧ i2_1 + r108_3 ≤ 2147483647) ∧
                              ∀ l2_2 : Int, l2_2 = (i2_1 + r108_3) →
                              (-2147483648 ≤ i4 + 1 ∧ i4 + 1 ≤ 2147483647) ∧
                              X30 l2_2 (i4 + 1))) ∧
                          ((¬ r97 = 0) →
                            P_X11_flag 1 v1 (fun r108_4 =>
                              (-2147483648 ≤ i2_1 + r108_4 ∧ i2_1 + r108_4 ≤ 2147483647) ∧
                              ∀ l2_3 : Int, l2_3 = (i2_1 + r108_4) →
                              (-2147483648 ≤ i4 + 1 ∧ i4 + 1 ≤ 2147483647) ∧
                              X30 l2_3 (i4 + 1)))))))))) → X30 i2_1 i4) →
            X30 i2 0)) → X17 i2 i3) →
        X17 0 0) ∧
      ((x1 < 0) →
        q (-1) v1)))

def P_X11_mostCrossing  (v : VT) (q : Int → VT → Prop) : Prop :=
  (-2147483648 ≤ (i_shl 1 (v 218 18)) - 1 ∧ (i_shl 1 (v 218 18)) - 1 ≤ 2147483647) ∧
  ∀ v17 : VT, v17 = upd2 v 232 0 ((i_shl 1 (v 218 18)) - 1) →
  ∀ v24 : VT, v24 = upd2 v17 233 0 0 →
  ∀ X25 : Int → Int → VT → Prop, (∀ (i1 : Int) (i2 : Int) (v25 : VT), (
    ((i2 < 0) →
      q i1 v25) ∧
    ((0 ≤ i2) →
      (0 ≤ i2 ∧ i2 < 25) ∧
      ((¬ (v25 232 i2.toNat) = 0) →
        ∀ K65 : Int → Prop, (∀ (i3 : Int), (
          (0 ≤ i2 ∧ i2 < 25) ∧
          (0 ≤ i2 ∧ i2 < 25) ∧
          ∀ v78 : VT, v78 = upd2 v25 232 i2.toNat (i_and (v25 232 i2.toNat) (i_xor (i_shl 1 i3) (-1))) →
          (0 ≤ i2 ∧ i2 < 25) ∧
          ∀ l4 : Int, l4 = (i_or (v78 233 i2.toNat) (i_shl 1 i3)) →
          P_X11_count l4 v78 (fun r93 =>
            P_X11_count i1 v78 (fun r97 =>
              ∀ K124 : Int → Prop, (∀ (i1_1 : Int), (
                (-2147483648 ≤ i2 + 1 ∧ i2 + 1 ≤ 2147483647) ∧
                (0 ≤ (i2 + 1) ∧ (i2 + 1) < 25) ∧
                ∀ v134 : VT, v134 = upd2 v78 233 (i2 + 1).toNat l4 →
                (0 ≤ (i2 + 1) ∧ (i2 + 1) < 25) ∧
                ∀ v141 : VT, v141 = upd2 v134 232 (i2 + 1).toNat 0 →
                (-2147483648 ≤ i3 + 1 ∧ i3 + 1 ≤ 2147483647) ∧
                ∀ X147 : Int → VT → Prop, (∀ (i5 : Int) (v147 : VT), (
                  (((v147 218 18) ≤ i5) →
                    X25 i1_1 (i2 + 1) v147) ∧
                  ((i5 < (v147 218 18)) →
                    (-2147483648 ≤ (i2 + 1) - 1 ∧ (i2 + 1) - 1 ≤ 2147483647) ∧
                    (0 ≤ ((i2 + 1) - 1) ∧ ((i2 + 1) - 1) < 25) ∧
                    P_X11_isOf (v147 232 ((i2 + 1) - 1).toNat) i5 v147 (fun r166 =>
                      ((r166 = 0) →
                        (-2147483648 ≤ i5 + 1 ∧ i5 + 1 ≤ 2147483647) ∧
                        X147 (i5 + 1) v147) ∧
                      ((¬ r166 = 0) →
                        P_X11_pairsOf i3 i5 v147 (fun r176 =>
                          ((¬ r176 = 4) →
                            (-2147483648 ≤ i5 + 1 ∧ i5 + 1 ≤ 2147483647) ∧
                            X147 (i5 + 1) v147) ∧
                          ((r176 = 4) →
                            (0 ≤ (i2 + 1) ∧ (i2 + 1) < 25) ∧
                            (0 ≤ (i2 + 1) ∧ (i2 + 1) < 25) ∧
                            ∀ v195 : VT, v195 = upd2 v147 232 (i2 + 1).toNat (i_or (v147 232 (i2 + 1).toNat) (i_shl 1 i5)) →
                            (-2147483648 ≤ i5 + 1 ∧ i5 + 1 ≤ 2147483647) ∧
                            X147 (i5 + 1) v195)))))) → X147 i5 v147) →
                X147 (i3 + 1) v141) → K124 i1_1) →
              ∀ K121 : Prop, ((
                K124 l4) → K121) →
              ((r97 < r93) →
                K121) ∧
              ((r93 ≤ r97) →
                P_X11_count l4 v78 (fun r105 =>
                  P_X11_count i1 v78 (fun r109 =>
                    ((¬ r105 = r109) →
                      K124 i1) ∧
                    ((r105 = r109) →
                      ((i1 ≤ l4) →
                        K124 i1) ∧
                      ((l4 < i1) →
                        K121)))))))) → K65 i3) →
        ∀ X46 : Int → Prop, (∀ (i3_1 : Int), (
          (0 ≤ i2 ∧ i2 < 25) ∧
          P_X11_isOf (v25 232 i2.toNat) i3_1 v25 (fun r53 =>
            ((¬ r53 = 0) →
              K65 i3_1) ∧
            ((r53 = 0) →
              (-2147483648 ≤ i3_1 + 1 ∧ i3_1 + 1 ≤ 2147483647) ∧
              X46 (i3_1 + 1)))) → X46 i3_1) →
        X46 0) ∧
      (((v25 232 i2.toNat) = 0) →
        (-2147483648 ≤ i2 + (-1) ∧ i2 + (-1) ≤ 2147483647) ∧
        X25 i1 (i2 + (-1)) v25))) → X25 i1 i2 v25) →
  X25 0 0 v24

def P_X11_most (x1 : Int) (v : VT) (q : Int → VT → Prop) : Prop :=
  P_X11_sits  v (fun r1 v1 =>
    ((r1 = 0) →
      q (-1) v1) ∧
    ((¬ r1 = 0) →
      P_X11_isIn x1 0 1 v1 (fun r11 =>
        ((¬ r11 = 0) →
          P_X11_mostCrossing  v1 (fun r20 v20 =>
            ((¬ x1 = 0) →
              q r20 v20) ∧
            ((x1 = 0) →
              P_X11_count r20 v20 (fun r29 =>
                q r29 v20)))) ∧
        ((r11 = 0) →
          q (-1) v1))))

def P_X11_opposite (x1 : Int) (v : VT) (q : Int → VT → Prop) : Prop :=
  P_X11_sits  v (fun r1 v1 =>
    ((r1 = 0) →
      q (-1) v1) ∧
    ((¬ r1 = 0) →
      P_X11_isNode x1 v1 (fun r9 =>
        ((r9 = 0) →
          q (-1) v1) ∧
        ((¬ r9 = 0) →
          (-2147483648 ≤ (i_shl 1 (v1 218 18)) - 1 ∧ (i_shl 1 (v1 218 18)) - 1 ≤ 2147483647) ∧
          (0 ≤ x1 ∧ x1 < 24) ∧
          P_X11_nodeAt (i_and ((i_shl 1 (v1 218 18)) - 1) (i_xor (v1 228 x1.toNat) (-1))) v1 (fun r33 =>
            q r33 v1)))))

def P_X11_even (x1 : Int) (v : VT) (q : Int → VT → Prop) : Prop :=
  P_X11_sits  v (fun r1 v1 =>
    ((r1 = 0) →
      q (-1) v1) ∧
    ((¬ r1 = 0) →
      (((v1 218 18) = 0) →
        q (-1) v1) ∧
      ((¬ (v1 218 18) = 0) →
        P_X11_isIn x1 0 1 v1 (fun r18 =>
          ((¬ r18 = 0) →
            ∀ X30 : Int → Int → Prop, (∀ (i2 : Int) (i3 : Int), (
              (((v1 218 18) ≤ i3) →
                ((¬ x1 = 0) →
                  P_X11_costOf i2 v1 (fun r69 =>
                    q r69 v1)) ∧
                ((x1 = 0) →
                  q i2 v1)) ∧
              ((i3 < (v1 218 18)) →
                P_X11_costOf i3 v1 (fun r40 =>
                  P_X11_costOf i2 v1 (fun r45 =>
                    ((r40 ≤ r45) →
                      (-2147483648 ≤ i3 + 1 ∧ i3 + 1 ≤ 2147483647) ∧
                      X30 i2 (i3 + 1)) ∧
                    ((r45 < r40) →
                      (-2147483648 ≤ i3 + 1 ∧ i3 + 1 ≤ 2147483647) ∧
                      X30 i3 (i3 + 1)))))) → X30 i2 i3) →
            X30 0 1) ∧
          ((r18 = 0) →
            q (-1) v1)))))

def P_X11_few  (v : VT) (q : Int → VT → Prop) : Prop :=
  P_X11_sits  v (fun r1 v1 =>
    ((r1 = 0) →
      q (-1) v1) ∧
    ((¬ r1 = 0) →
      (((v1 218 18) ≤ 8) →
        (-2147483648 ≤ 2 * (v1 218 18) ∧ 2 * (v1 218 18) ≤ 2147483647) ∧
        ∀ l1 : Int, l1 = (2 * (v1 218 18)) →
        ∀ K79 : VT → Prop, (∀ (v79 : VT), (
          ∀ v85 : VT, v85 = upd2 v79 234 0 (i_b 0) →
          ∀ K215 : VT → Prop, (∀ (v215 : VT), (
            (-2147483648 ≤ (i_shl 1 l1) - 1 ∧ (i_shl 1 l1) - 1 ≤ 2147483647) ∧
            (0 ≤ ((i_shl 1 l1) - 1) ∧ ((i_shl 1 l1) - 1) < 65536) ∧
            (-2147483648 ≤ (v215 218 18) - (v215 234 ((i_shl 1 l1) - 1).toNat) ∧ (v215 218 18) - (v215 234 ((i_shl 1 l1) - 1).toNat) ≤ 2147483647) ∧
            q ((v215 218 18) - (v215 234 ((i_shl 1 l1) - 1).toNat)) v215) → K215 v215) →
          ∀ X88 : Int → VT → Prop, (∀ (i2 : Int) (v88 : VT), (
            (((i_shl 1 l1) ≤ i2) →
              K215 v88) ∧
            ((i2 < (i_shl 1 l1)) →
              ∀ K111 : Int → Prop, (∀ (i3 : Int), (
                ∀ l4 : Int, l4 = (i_and i2 (i_xor (i_shl 1 i3) (-1))) →
                (0 ≤ l4 ∧ l4 < 65536) ∧
                ∀ l5 : Int, l5 = (v88 234 l4.toNat) →
                ∀ X132 : Int → Int → Prop, (∀ (i5 : Int) (i6 : Int), (
                  ((i3 ≤ i6) →
                    (0 ≤ i2 ∧ i2 < 65536) ∧
                    ∀ v208 : VT, v208 = upd2 v88 234 i2.toNat (i_b (i_b i5)) →
                    (-2147483648 ≤ i2 + 1 ∧ i2 + 1 ≤ 2147483647) ∧
                    X88 (i2 + 1) v208) ∧
                  ((i6 < i3) →
                    (0 ≤ i3 ∧ i3 < 16) ∧
                    P_X11_isOf (i_and (v88 235 i3.toNat) l4) i6 v88 (fun r149 =>
                      ((r149 = 0) →
                        (-2147483648 ≤ i6 + 1 ∧ i6 + 1 ≤ 2147483647) ∧
                        X132 i5 (i6 + 1)) ∧
                      ((¬ r149 = 0) →
                        (0 ≤ (i_and l4 (i_xor (i_shl 1 i6) (-1))) ∧ (i_and l4 (i_xor (i_shl 1 i6) (-1))) < 65536) ∧
                        (-2147483648 ≤ (v88 234 (i_and l4 (i_xor (i_shl 1 i6) (-1))).toNat) + 1 ∧ (v88 234 (i_and l4 (i_xor (i_shl 1 i6) (-1))).toNat) + 1 ≤ 2147483647) ∧
                        ((((v88 234 (i_and l4 (i_xor (i_shl 1 i6) (-1))).toNat) + 1) ≤ i5) →
                          (-2147483648 ≤ i6 + 1 ∧ i6 + 1 ≤ 2147483647) ∧
                          X132 i5 (i6 + 1)) ∧
                        ((i5 < ((v88 234 (i_and l4 (i_xor (i_shl 1 i6) (-1))).toNat) + 1)) →
                          (0 ≤ (i_and l4 (i_xor (i_shl 1 i6) (-1))) ∧ (i_and l4 (i_xor (i_shl 1 i6) (-1))) < 65536) ∧
                          (-2147483648 ≤ (v88 234 (i_and l4 (i_xor (i_shl 1 i6) (-1))).toNat) + 1 ∧ (v88 234 (i_and l4 (i_xor (i_shl 1 i6) (-1))).toNat) + 1 ≤ 2147483647) ∧
                          ∀ l5_1 : Int, l5_1 = ((v88 234 (i_and l4 (i_xor (i_shl 1 i6) (-1))).toNat) + 1) →
                          (-2147483648 ≤ i6 + 1 ∧ i6 + 1 ≤ 2147483647) ∧
                          X132 l5_1 (i6 + 1)))))) → X132 i5 i6) →
                X132 l5 0) → K111 i3) →
              ∀ X97 : Int → Prop, (∀ (i3_1 : Int), (
                (-2147483648 ≤ i3_1 + 1 ∧ i3_1 + 1 ≤ 2147483647) ∧
                (((i_shr i2 (i3_1 + 1)) = 0) →
                  K111 i3_1) ∧
                ((¬ (i_shr i2 (i3_1 + 1)) = 0) →
                  (-2147483648 ≤ i3_1 + 1 ∧ i3_1 + 1 ≤ 2147483647) ∧
                  X97 (i3_1 + 1))) → X97 i3_1) →
              X97 0)) → X88 i2 v88) →
          X88 1 v85) → K79 v79) →
        ∀ X27 : Int → VT → Prop, (∀ (i2_1 : Int) (v27 : VT), (
          ((l1 ≤ i2_1) →
            K79 v27) ∧
          ((i2_1 < l1) →
            (0 ≤ i2_1 ∧ i2_1 < 16) ∧
            ∀ v38 : VT, v38 = upd2 v27 235 i2_1.toNat 0 →
            ∀ X41 : Int → VT → Prop, (∀ (i3_2 : Int) (v41 : VT), (
              ((i2_1 ≤ i3_2) →
                (-2147483648 ≤ i2_1 + 1 ∧ i2_1 + 1 ≤ 2147483647) ∧
                X27 (i2_1 + 1) v41) ∧
              ((i3_2 < i2_1) →
                P_X11_doFit i2_1 i3_2 v41 (fun r49 =>
                  ((r49 = 0) →
                    (-2147483648 ≤ i3_2 + 1 ∧ i3_2 + 1 ≤ 2147483647) ∧
                    X41 (i3_2 + 1) v41) ∧
                  ((¬ r49 = 0) →
                    (0 ≤ i2_1 ∧ i2_1 < 16) ∧
                    (0 ≤ i2_1 ∧ i2_1 < 16) ∧
                    ∀ v66 : VT, v66 = upd2 v41 235 i2_1.toNat (i_or (v41 235 i2_1.toNat) (i_shl 1 i3_2)) →
                    (-2147483648 ≤ i3_2 + 1 ∧ i3_2 + 1 ≤ 2147483647) ∧
                    X41 (i3_2 + 1) v66)))) → X41 i3_2 v41) →
            X41 0 v38)) → X27 i2_1 v27) →
        X27 0 v1) ∧
      ((8 < (v1 218 18)) →
        q (-1) v1)))

def P_X11_medianOf (x1 : Int) (x2 : Int) (x3 : Int) (v : VT) (q : Int → Prop) : Prop :=
  P_X11_betweenOf x1 x2 v (fun r3 =>
    P_X11_betweenOf x2 x3 v (fun r9 =>
      P_X11_betweenOf x1 x3 v (fun r16 =>
        q (i_and (i_and r3 r9) r16))))

def P_X11_median (x1 : Int) (x2 : Int) (x3 : Int) (v : VT) (q : Int → VT → Prop) : Prop :=
  P_X11_areNodes x1 x2 v (fun r3 v3 =>
    ((r3 = 0) →
      q (-1) v3) ∧
    ((¬ r3 = 0) →
      P_X11_isNode x3 v3 (fun r11 =>
        ((r11 = 0) →
          q (-1) v3) ∧
        ((¬ r11 = 0) →
          P_X11_medianOf x1 x2 x3 v3 (fun r21 =>
            q r21 v3)))))

def P_X11_medians (x1 : Int) (v : VT) (q : Int → VT → Prop) : Prop :=
  P_X11_isIn x1 0 3 v (fun r6 =>
    ((¬ r6 = 0) →
      P_X11_lays  v (fun v15 =>
        ∀ K71 : Int → Int → Int → Prop, (∀ (i3 : Int) (i4 : Int) (i5 : Int), (
          ((¬ x1 = 0) →
            ((¬ x1 = 1) →
              ((¬ x1 = 2) →
                q i5 v15) ∧
              ((x1 = 2) →
                q i4 v15)) ∧
            ((x1 = 1) →
              q i3 v15)) ∧
          ((x1 = 0) →
            q 0 v15)) → K71 i3 i4 i5) →
        ∀ X27 : Int → Prop, (∀ (i3_1 : Int), (
          (((v15 222 0) ≤ i3_1) →
            ((¬ x1 = 0) →
              q (-1) v15) ∧
            ((x1 = 0) →
              q 1 v15)) ∧
          ((i3_1 < (v15 222 0)) →
            (-2147483648 ≤ i3_1 + 1 ∧ i3_1 + 1 ≤ 2147483647) ∧
            ∀ X37 : Int → Prop, (∀ (i4_1 : Int), (
              (((v15 222 0) ≤ i4_1) →
                (-2147483648 ≤ i3_1 + 1 ∧ i3_1 + 1 ≤ 2147483647) ∧
                X27 (i3_1 + 1)) ∧
              ((i4_1 < (v15 222 0)) →
                (-2147483648 ≤ i4_1 + 1 ∧ i4_1 + 1 ≤ 2147483647) ∧
                ∀ X49 : Int → Prop, (∀ (i5_1 : Int), (
                  (((v15 222 0) ≤ i5_1) →
                    (-2147483648 ≤ i4_1 + 1 ∧ i4_1 + 1 ≤ 2147483647) ∧
                    X37 (i4_1 + 1)) ∧
                  ((i5_1 < (v15 222 0)) →
                    P_X11_medianOf i3_1 i4_1 i5_1 v15 (fun r61 =>
                      P_X11_count r61 v15 (fun r64 =>
                        ((r64 = 1) →
                          (-2147483648 ≤ i5_1 + 1 ∧ i5_1 + 1 ≤ 2147483647) ∧
                          X49 (i5_1 + 1)) ∧
                        ((¬ r64 = 1) →
                          K71 i3_1 i4_1 i5_1))))) → X49 i5_1) →
                X49 (i4_1 + 1))) → X37 i4_1) →
            X37 (i3_1 + 1))) → X27 i3_1) →
        X27 0)) ∧
    ((r6 = 0) →
      q (-1) v))

def P_X11_vote  (v : VT) (q : Int → VT → Prop) : Prop :=
  ∀ v7 : VT, v7 = upd2 v 218 1 0 →
  P_X11_isIn (v 218 1) 1 15 v7 (fun r16 =>
    ∀ K48 : Int → Prop, (∀ (i2 : Int), (
      ((¬ i2 = 0) →
        ∀ X60 : Int → VT → Prop, (∀ (i3 : Int) (v60 : VT), (
          (((v 218 1) ≤ i3) →
            ∀ v85 : VT, v85 = upd2 v60 218 30 (v 218 1) →
            q (v 218 1) v85) ∧
          ((i3 < (v 218 1)) →
            (0 ≤ i3 ∧ i3 < 800) ∧
            (0 ≤ i3 ∧ i3 < 15) ∧
            ∀ v76 : VT, v76 = upd2 v60 236 i3.toNat (v60 219 i3.toNat) →
            (-2147483648 ≤ i3 + 1 ∧ i3 + 1 ≤ 2147483647) ∧
            X60 (i3 + 1) v76)) → X60 i3 v60) →
        X60 0 v7) ∧
      ((i2 = 0) →
        P_X11_refuses 1 v7 (fun r54 v54 =>
          q r54 v54))) → K48 i2) →
    ∀ X22 : Int → Int → Prop, (∀ (i2_1 : Int) (i3_1 : Int), (
      (((v 218 1) ≤ i3_1) →
        K48 i2_1) ∧
      ((i3_1 < (v 218 1)) →
        ((i2_1 = 0) →
          K48 i2_1) ∧
        ((¬ i2_1 = 0) →
          (0 ≤ i3_1 ∧ i3_1 < 800) ∧
          P_X11_isNode (v7 219 i3_1.toNat) v7 (fun r38 =>
            (-2147483648 ≤ i3_1 + 1 ∧ i3_1 + 1 ≤ 2147483647) ∧
            X22 r38 (i3_1 + 1))))) → X22 i2_1 i3_1) →
    X22 r16 0)

def P_X11_canVote  (v : VT) (q : Int → VT → Prop) : Prop :=
  ∀ K31 : Prop, ((
    (((v 218 30) ≤ 0) →
      q 0 v) ∧
    ((0 < (v 218 30)) →
      P_X11_isWhole  v (fun r39 v39 =>
        ((r39 = 0) →
          q 0 v39) ∧
        ((¬ r39 = 0) →
          q 1 v39)))) → K31) →
  ∀ X2 : Int → Prop, (∀ (i1 : Int), (
    (((v 218 30) ≤ i1) →
      K31) ∧
    ((i1 < (v 218 30)) →
      (0 ≤ i1 ∧ i1 < 15) ∧
      P_X11_isNode (v 236 i1.toNat) v (fun r17 =>
        ((¬ r17 = 0) →
          (-2147483648 ≤ i1 + 1 ∧ i1 + 1 ≤ 2147483647) ∧
          X2 (i1 + 1)) ∧
        ((r17 = 0) →
          q 0 v)))) → X2 i1) →
  X2 0

def P_X11_farFromVotes (x1 : Int) (v : VT) (q : Int → Prop) : Prop :=
  ∀ X4 : Int → Int → Prop, (∀ (i2 : Int) (i3 : Int), (
    (((v 218 30) ≤ i3) →
      q i2) ∧
    ((i3 < (v 218 30)) →
      (0 ≤ i3 ∧ i3 < 15) ∧
      P_X11_farOf x1 (v 236 i3.toNat) v (fun r21 =>
        (-2147483648 ≤ i2 + r21 ∧ i2 + r21 ≤ 2147483647) ∧
        (-2147483648 ≤ i3 + 1 ∧ i3 + 1 ≤ 2147483647) ∧
        X4 (i2 + r21) (i3 + 1)))) → X4 i2 i3) →
  X4 0 0

def P_X11_majority  (v : VT) (q : Int → Prop) : Prop :=
  ∀ X4 : Int → Int → Prop, (∀ (i1 : Int) (i2 : Int), (
    (((v 218 18) ≤ i2) →
      P_X11_nodeAt i1 v (fun r75 =>
        q r75)) ∧
    ((i2 < (v 218 18)) →
      ∀ K51 : Int → Prop, (∀ (i3 : Int), (
        (-2147483648 ≤ 2 * i3 ∧ 2 * i3 ≤ 2147483647) ∧
        (((2 * i3) ≤ (v 218 30)) →
          (-2147483648 ≤ i2 + 1 ∧ i2 + 1 ≤ 2147483647) ∧
          X4 i1 (i2 + 1)) ∧
        (((v 218 30) < (2 * i3)) →
          ∀ l1 : Int, l1 = (i_or i1 (i_shl 1 i2)) →
          (-2147483648 ≤ i2 + 1 ∧ i2 + 1 ≤ 2147483647) ∧
          X4 l1 (i2 + 1))) → K51 i3) →
      ∀ X17 : Int → Int → Prop, (∀ (i3_1 : Int) (i4 : Int), (
        (((v 218 30) ≤ i4) →
          K51 i3_1) ∧
        ((i4 < (v 218 30)) →
          (0 ≤ i4 ∧ i4 < 15) ∧
          (0 ≤ (v 236 i4.toNat) ∧ (v 236 i4.toNat) < 24) ∧
          (-2147483648 ≤ i3_1 + (i_and (i_shr (v 228 (v 236 i4.toNat).toNat) i2) 1) ∧ i3_1 + (i_and (i_shr (v 228 (v 236 i4.toNat).toNat) i2) 1) ≤ 2147483647) ∧
          ∀ l3 : Int, l3 = (i3_1 + (i_and (i_shr (v 228 (v 236 i4.toNat).toNat) i2) 1)) →
          (-2147483648 ≤ i4 + 1 ∧ i4 + 1 ≤ 2147483647) ∧
          X17 l3 (i4 + 1))) → X17 i3_1 i4) →
      X17 0 0)) → X4 i1 i2) →
  X4 0 0

def P_X11_winner (x1 : Int) (v : VT) (q : Int → VT → Prop) : Prop :=
  P_X11_isIn x1 0 2 v (fun r6 =>
    ((r6 = 0) →
      q (-1) v) ∧
    ((¬ r6 = 0) →
      P_X11_canVote  v (fun r13 v13 =>
        ((¬ r13 = 0) →
          ((¬ x1 = 2) →
            ∀ X46 : Int → Int → Prop, (∀ (i2 : Int) (i3 : Int), (
              (((v13 222 0) ≤ i3) →
                ((¬ x1 = 0) →
                  P_X11_farFromVotes i2 v13 (fun r87 =>
                    q r87 v13)) ∧
                ((x1 = 0) →
                  q i2 v13)) ∧
              ((i3 < (v13 222 0)) →
                P_X11_farFromVotes i3 v13 (fun r58 =>
                  P_X11_farFromVotes i2 v13 (fun r63 =>
                    ((r63 ≤ r58) →
                      (-2147483648 ≤ i3 + 1 ∧ i3 + 1 ≤ 2147483647) ∧
                      X46 i2 (i3 + 1)) ∧
                    ((r58 < r63) →
                      (-2147483648 ≤ i3 + 1 ∧ i3 + 1 ≤ 2147483647) ∧
                      X46 i3 (i3 + 1)))))) → X46 i2 i3) →
            X46 0 1) ∧
          ((x1 = 2) →
            P_X11_sits  v13 (fun r27 v27 =>
              ((r27 = 0) →
                q (-1) v27) ∧
              ((¬ r27 = 0) →
                P_X11_majority  v27 (fun r34 =>
                  q r34 v27))))) ∧
        ((r13 = 0) →
          q (-1) v13))))

def P_X11_isSet (x1 : Int) (v : VT) (q : Int → VT → Prop) : Prop :=
  ((x1 < 0) →
    q 0 v) ∧
  ((0 ≤ x1) →
    P_X11_all  v (fun r6 =>
      ((¬ (i_and x1 (i_xor r6 (-1))) = 0) →
        q 0 v) ∧
      (((i_and x1 (i_xor r6 (-1))) = 0) →
        P_X11_isWhole  v (fun r16 v16 =>
          ((r16 = 0) →
            q 0 v16) ∧
          ((¬ r16 = 0) →
            q 1 v16)))))

def P_X11_isTrue (x1 : Int) (v : VT) (q : Int → VT → Prop) : Prop :=
  ∀ K91 : VT → Prop, (∀ (v91 : VT), (
    ∀ K194 : VT → Prop, (∀ (v194 : VT), (
      ∀ X196 : Int → Prop, (∀ (i3 : Int), (
        (((v 222 0) ≤ i3) →
          q 1 v194) ∧
        ((i3 < (v 222 0)) →
          ∀ X204 : Int → Prop, (∀ (i4 : Int), (
            (((v 222 0) ≤ i4) →
              (-2147483648 ≤ i3 + 1 ∧ i3 + 1 ≤ 2147483647) ∧
              X196 (i3 + 1)) ∧
            ((i4 < (v 222 0)) →
              P_X11_isOf x1 i3 v194 (fun r212 =>
                ((r212 = 0) →
                  (-2147483648 ≤ i4 + 1 ∧ i4 + 1 ≤ 2147483647) ∧
                  X204 (i4 + 1)) ∧
                ((¬ r212 = 0) →
                  P_X11_isOf x1 i4 v194 (fun r221 =>
                    ((r221 = 0) →
                      (-2147483648 ≤ i4 + 1 ∧ i4 + 1 ≤ 2147483647) ∧
                      X204 (i4 + 1)) ∧
                    ((¬ r221 = 0) →
                      (-2147483648 ≤ 24 * i3 ∧ 24 * i3 ≤ 2147483647) ∧
                      (-2147483648 ≤ (24 * i3) + i4 ∧ (24 * i3) + i4 ≤ 2147483647) ∧
                      (0 ≤ ((24 * i3) + i4) ∧ ((24 * i3) + i4) < 576) ∧
                      P_X11_farOf i3 i4 v194 (fun r243 =>
                        (((v194 237 ((24 * i3) + i4).toNat) = r243) →
                          (-2147483648 ≤ i4 + 1 ∧ i4 + 1 ≤ 2147483647) ∧
                          X204 (i4 + 1)) ∧
                        ((¬ (v194 237 ((24 * i3) + i4).toNat) = r243) →
                          q 0 v194)))))))) → X204 i4) →
          X204 0)) → X196 i3) →
      X196 0) → K194 v194) →
    ∀ X93 : Int → VT → Prop, (∀ (i3_1 : Int) (v93 : VT), (
      (((v 222 0) ≤ i3_1) →
        K194 v93) ∧
      ((i3_1 < (v 222 0)) →
        ∀ X101 : Int → VT → Prop, (∀ (i4_1 : Int) (v101 : VT), (
          (((v 222 0) ≤ i4_1) →
            (-2147483648 ≤ i3_1 + 1 ∧ i3_1 + 1 ≤ 2147483647) ∧
            X93 (i3_1 + 1) v101) ∧
          ((i4_1 < (v 222 0)) →
            ∀ X110 : Int → VT → Prop, (∀ (i5 : Int) (v110 : VT), (
              (((v 222 0) ≤ i5) →
                (-2147483648 ≤ i4_1 + 1 ∧ i4_1 + 1 ≤ 2147483647) ∧
                X101 (i4_1 + 1) v110) ∧
              ((i5 < (v 222 0)) →
                (-2147483648 ≤ 24 * i4_1 ∧ 24 * i4_1 ≤ 2147483647) ∧
                (-2147483648 ≤ (24 * i4_1) + i3_1 ∧ (24 * i4_1) + i3_1 ≤ 2147483647) ∧
                (0 ≤ ((24 * i4_1) + i3_1) ∧ ((24 * i4_1) + i3_1) < 576) ∧
                (-2147483648 ≤ 24 * i3_1 ∧ 24 * i3_1 ≤ 2147483647) ∧
                (-2147483648 ≤ (24 * i3_1) + i5 ∧ (24 * i3_1) + i5 ≤ 2147483647) ∧
                (0 ≤ ((24 * i3_1) + i5) ∧ ((24 * i3_1) + i5) < 576) ∧
                (-2147483648 ≤ (v110 237 ((24 * i4_1) + i3_1).toNat) + (v110 237 ((24 * i3_1) + i5).toNat) ∧ (v110 237 ((24 * i4_1) + i3_1).toNat) + (v110 237 ((24 * i3_1) + i5).toNat) ≤ 2147483647) ∧
                ∀ l6 : Int, l6 = ((v110 237 ((24 * i4_1) + i3_1).toNat) + (v110 237 ((24 * i3_1) + i5).toNat)) →
                (-2147483648 ≤ 24 * i4_1 ∧ 24 * i4_1 ≤ 2147483647) ∧
                (-2147483648 ≤ (24 * i4_1) + i5 ∧ (24 * i4_1) + i5 ≤ 2147483647) ∧
                (0 ≤ ((24 * i4_1) + i5) ∧ ((24 * i4_1) + i5) < 576) ∧
                (((v110 237 ((24 * i4_1) + i5).toNat) ≤ l6) →
                  (-2147483648 ≤ i5 + 1 ∧ i5 + 1 ≤ 2147483647) ∧
                  X110 (i5 + 1) v110) ∧
                ((l6 < (v110 237 ((24 * i4_1) + i5).toNat)) →
                  (-2147483648 ≤ 24 * i4_1 ∧ 24 * i4_1 ≤ 2147483647) ∧
                  (-2147483648 ≤ (24 * i4_1) + i5 ∧ (24 * i4_1) + i5 ≤ 2147483647) ∧
                  (0 ≤ ((24 * i4_1) + i5) ∧ ((24 * i4_1) + i5) < 576) ∧
                  ∀ v175 : VT, v175 = upd2 v110 237 ((24 * i4_1) + i5).toNat l6 →
                  (-2147483648 ≤ i5 + 1 ∧ i5 + 1 ≤ 2147483647) ∧
                  X110 (i5 + 1) v175))) → X110 i5 v110) →
            X110 0 v101)) → X101 i4_1 v101) →
        X101 0 v93)) → X93 i3_1 v93) →
    X93 0 v91) → K91 v91) →
  ∀ X9 : Int → VT → Prop, (∀ (i3_2 : Int) (v9 : VT), (
    (((v 222 0) ≤ i3_2) →
      K91 v9) ∧
    ((i3_2 < (v 222 0)) →
      ∀ X17 : Int → VT → Prop, (∀ (i4_2 : Int) (v17 : VT), (
        (((v 222 0) ≤ i4_2) →
          (-2147483648 ≤ i3_2 + 1 ∧ i3_2 + 1 ≤ 2147483647) ∧
          X9 (i3_2 + 1) v17) ∧
        ((i4_2 < (v 222 0)) →
          (-2147483648 ≤ 24 * i3_2 ∧ 24 * i3_2 ≤ 2147483647) ∧
          (-2147483648 ≤ (24 * i3_2) + i4_2 ∧ (24 * i3_2) + i4_2 ≤ 2147483647) ∧
          ((¬ i3_2 = i4_2) →
            P_X11_farOf i3_2 i4_2 v17 (fun r48 =>
              ((¬ r48 = 1) →
                (0 ≤ ((24 * i3_2) + i4_2) ∧ ((24 * i3_2) + i4_2) < 576) ∧
                ∀ v78 : VT, v78 = upd2 v17 237 ((24 * i3_2) + i4_2).toNat 99 →
                (-2147483648 ≤ i4_2 + 1 ∧ i4_2 + 1 ≤ 2147483647) ∧
                X17 (i4_2 + 1) v78) ∧
              ((r48 = 1) →
                P_X11_isOf x1 i3_2 v17 (fun r57 =>
                  ((r57 = 0) →
                    (0 ≤ ((24 * i3_2) + i4_2) ∧ ((24 * i3_2) + i4_2) < 576) ∧
                    ∀ v78_1 : VT, v78_1 = upd2 v17 237 ((24 * i3_2) + i4_2).toNat 99 →
                    (-2147483648 ≤ i4_2 + 1 ∧ i4_2 + 1 ≤ 2147483647) ∧
                    X17 (i4_2 + 1) v78_1) ∧
                  ((¬ r57 = 0) →
                    P_X11_isOf x1 i4_2 v17 (fun r66 =>
                      ((r66 = 0) →
                        (0 ≤ ((24 * i3_2) + i4_2) ∧ ((24 * i3_2) + i4_2) < 576) ∧
                        ∀ v78_2 : VT, v78_2 = upd2 v17 237 ((24 * i3_2) + i4_2).toNat 99 →
                        (-2147483648 ≤ i4_2 + 1 ∧ i4_2 + 1 ≤ 2147483647) ∧
                        X17 (i4_2 + 1) v78_2) ∧
                      ((¬ r66 = 0) →
                        (0 ≤ ((24 * i3_2) + i4_2) ∧ ((24 * i3_2) + i4_2) < 576) ∧
                        ∀ v78_3 : VT, v78_3 = upd2 v17 237 ((24 * i3_2) + i4_2).toNat 1 →
                        (-2147483648 ≤ i4_2 + 1 ∧ i4_2 + 1 ≤ 2147483647) ∧
                        X17 (i4_2 + 1) v78_3))))))) ∧
          ((i3_2 = i4_2) →
            (0 ≤ ((24 * i3_2) + i4_2) ∧ ((24 * i3_2) + i4_2) < 576) ∧
            ∀ v78_4 : VT, v78_4 = upd2 v17 237 ((24 * i3_2) + i4_2).toNat 0 →
            (-2147483648 ≤ i4_2 + 1 ∧ i4_2 + 1 ≤ 2147483647) ∧
            X17 (i4_2 + 1) v78_4))) → X17 i4_2 v17) →
      X17 0 v9)) → X9 i3_2 v9) →
  X9 0 v

def P_X11_spread_ (x1 : Int) (v : VT) (q : Int → Prop) : Prop :=
  ∀ X4 : Int → Int → Prop, (∀ (i2 : Int) (i3 : Int), (
    (((v 222 0) ≤ i3) →
      q i2) ∧
    ((i3 < (v 222 0)) →
      (-2147483648 ≤ i3 + 1 ∧ i3 + 1 ≤ 2147483647) ∧
      ∀ X19 : Int → Int → Prop, (∀ (i2_1 : Int) (i4 : Int), (
        (((v 222 0) ≤ i4) →
          (-2147483648 ≤ i3 + 1 ∧ i3 + 1 ≤ 2147483647) ∧
          X4 i2_1 (i3 + 1)) ∧
        ((i4 < (v 222 0)) →
          P_X11_isOf x1 i3 v (fun r32 =>
            ((r32 = 0) →
              (-2147483648 ≤ i4 + 1 ∧ i4 + 1 ≤ 2147483647) ∧
              X19 i2_1 (i4 + 1)) ∧
            ((¬ r32 = 0) →
              P_X11_isOf x1 i4 v (fun r41 =>
                ((r41 = 0) →
                  (-2147483648 ≤ i4 + 1 ∧ i4 + 1 ≤ 2147483647) ∧
                  X19 i2_1 (i4 + 1)) ∧
                ((¬ r41 = 0) →
                  P_X11_betweenOf i3 i4 v (fun r52 =>
                    ∀ l2 : Int, l2 = (i_or i2_1 r52) →
                    (-2147483648 ≤ i4 + 1 ∧ i4 + 1 ≤ 2147483647) ∧
                    X19 l2 (i4 + 1)))))))) → X19 i2_1 i4) →
      X19 i2 (i3 + 1))) → X4 i2 i3) →
  X4 x1 0

def P_X11_set (x1 : Int) (x2 : Int) (v : VT) (q : Int → VT → Prop) : Prop :=
  P_X11_isSet x1 v (fun r2 v2 =>
    ((r2 = 0) →
      q (-1) v2) ∧
    ((¬ r2 = 0) →
      P_X11_isIn x2 0 1 v2 (fun r12 =>
        ((¬ r12 = 0) →
          ((¬ x2 = 0) →
            P_X11_spread_ x1 v2 (fun r34 =>
              ((¬ r34 = x1) →
                P_X11_flag 0 v2 (fun r46 =>
                  q r46 v2)) ∧
              ((r34 = x1) →
                P_X11_flag 1 v2 (fun r46_1 =>
                  q r46_1 v2)))) ∧
          ((x2 = 0) →
            P_X11_isTrue x1 v2 (fun r26 v26 =>
              P_X11_flag r26 v26 (fun r46_2 =>
                q r46_2 v26)))) ∧
        ((r12 = 0) →
          q (-1) v2))))

def P_X11_hull (x1 : Int) (v : VT) (q : Int → VT → Prop) : Prop :=
  P_X11_isSet x1 v (fun r2 v2 =>
    ((¬ r2 = 0) →
      ∀ X12 : Int → Prop, (∀ (i2 : Int), (
        P_X11_spread_ i2 v2 (fun r14 =>
          ((r14 = i2) →
            q i2 v2) ∧
          ((¬ r14 = i2) →
            P_X11_spread_ i2 v2 (fun r23 =>
              X12 r23)))) → X12 i2) →
      X12 x1) ∧
    ((r2 = 0) →
      q (-1) v2))

def P_X11_gate (x1 : Int) (x2 : Int) (v : VT) (q : Int → VT → Prop) : Prop :=
  P_X11_isSet x2 v (fun r2 v2 =>
    ((r2 = 0) →
      q (-1) v2) ∧
    ((¬ r2 = 0) →
      P_X11_isNode x1 v2 (fun r10 =>
        ((¬ r10 = 0) →
          ∀ X20 : Int → Prop, (∀ (i3 : Int), (
            (((v2 222 0) ≤ i3) →
              q (-1) v2) ∧
            ((i3 < (v2 222 0)) →
              P_X11_isOf x2 i3 v2 (fun r32 =>
                ∀ X40 : Int → Int → Prop, (∀ (i4 : Int) (i5 : Int), (
                  (((v2 222 0) ≤ i5) →
                    ((i4 = 0) →
                      (-2147483648 ≤ i3 + 1 ∧ i3 + 1 ≤ 2147483647) ∧
                      X20 (i3 + 1)) ∧
                    ((¬ i4 = 0) →
                      q i3 v2)) ∧
                  ((i5 < (v2 222 0)) →
                    ((i4 = 0) →
                      ((i4 = 0) →
                        (-2147483648 ≤ i3 + 1 ∧ i3 + 1 ≤ 2147483647) ∧
                        X20 (i3 + 1)) ∧
                      ((¬ i4 = 0) →
                        q i3 v2)) ∧
                    ((¬ i4 = 0) →
                      P_X11_isOf x2 i5 v2 (fun r59 =>
                        ((r59 = 0) →
                          (-2147483648 ≤ i5 + 1 ∧ i5 + 1 ≤ 2147483647) ∧
                          X40 1 (i5 + 1)) ∧
                        ((¬ r59 = 0) →
                          P_X11_betweenOf x1 i5 v2 (fun r69 =>
                            P_X11_isOf r69 i3 v2 (fun r73 =>
                              ((r73 = 0) →
                                (-2147483648 ≤ i5 + 1 ∧ i5 + 1 ≤ 2147483647) ∧
                                X40 0 (i5 + 1)) ∧
                              ((¬ r73 = 0) →
                                (-2147483648 ≤ i5 + 1 ∧ i5 + 1 ≤ 2147483647) ∧
                                X40 1 (i5 + 1))))))))) → X40 i4 i5) →
                X40 r32 0))) → X20 i3) →
          X20 0) ∧
        ((r10 = 0) →
          q (-1) v2))))

def P_X11_see  (v : VT) (q : Int → VT → Prop) : Prop :=
  ∀ v7 : VT, v7 = upd2 v 218 1 0 →
  ∀ K33 : Int → Prop, (∀ (s0 : Int), (
    ∀ K83 : Int → Prop, (∀ (i2 : Int), (
      ((¬ i2 = 0) →
        ∀ X95 : Int → VT → Prop, (∀ (i3 : Int) (v95 : VT), (
          (((v 218 1) ≤ i3) →
            ∀ v122 : VT, v122 = upd2 v95 218 33 (i_div (v 218 1) 2) →
            q (v122 218 33) v122) ∧
          ((i3 < (v 218 1)) →
            (0 ≤ i3 ∧ i3 < 800) ∧
            (0 ≤ i3 ∧ i3 < 24) ∧
            ∀ v111 : VT, v111 = upd2 v95 238 i3.toNat (v95 219 i3.toNat) →
            (-2147483648 ≤ i3 + 1 ∧ i3 + 1 ≤ 2147483647) ∧
            X95 (i3 + 1) v111)) → X95 i3 v95) →
        X95 0 v7) ∧
      ((i2 = 0) →
        P_X11_refuses 1 v7 (fun r89 v89 =>
          q r89 v89))) → K83 i2) →
    ∀ X36 : Int → Int → Prop, (∀ (i2_1 : Int) (i3_1 : Int), (
      (((v 218 1) ≤ i3_1) →
        K83 i2_1) ∧
      ((i3_1 < (v 218 1)) →
        ((i2_1 = 0) →
          K83 i2_1) ∧
        ((¬ i2_1 = 0) →
          (0 ≤ i3_1 ∧ i3_1 < 800) ∧
          P_X11_isNode (v7 219 i3_1.toNat) v7 (fun r52 =>
            ((r52 = 0) →
              (-2147483648 ≤ i3_1 + 2 ∧ i3_1 + 2 ≤ 2147483647) ∧
              X36 0 (i3_1 + 2)) ∧
            ((¬ r52 = 0) →
              (-2147483648 ≤ i3_1 + 1 ∧ i3_1 + 1 ≤ 2147483647) ∧
              (0 ≤ (i3_1 + 1) ∧ (i3_1 + 1) < 800) ∧
              ((23 < (v7 219 (i3_1 + 1).toNat)) →
                (-2147483648 ≤ i3_1 + 2 ∧ i3_1 + 2 ≤ 2147483647) ∧
                X36 0 (i3_1 + 2)) ∧
              (((v7 219 (i3_1 + 1).toNat) ≤ 23) →
                (-2147483648 ≤ i3_1 + 2 ∧ i3_1 + 2 ≤ 2147483647) ∧
                X36 1 (i3_1 + 2))))))) → X36 i2_1 i3_1) →
    X36 s0 0) → K33 s0) →
  ∀ K32 : Prop, ((
    K33 0) → K32) →
  (((v 218 1) ≤ 0) →
    K32) ∧
  ((0 < (v 218 1)) →
    ((¬ (i_rem (v 218 1) 2) = 0) →
      K32) ∧
    (((i_rem (v 218 1) 2) = 0) →
      ((12 < (i_div (v 218 1) 2)) →
        K32) ∧
      (((i_div (v 218 1) 2) ≤ 12) →
        K33 1)))

def P_X11_fitting  (v : VT) (q : Int → Prop) : Prop :=
  ∀ X4 : Int → Int → Prop, (∀ (i1 : Int) (i2 : Int), (
    (((v 222 0) ≤ i2) →
      q i1) ∧
    ((i2 < (v 222 0)) →
      ∀ X19 : Int → Int → Prop, (∀ (i3 : Int) (i4 : Int), (
        (((v 218 33) ≤ i4) →
          P_X11_flag i3 v (fun r74 =>
            ∀ l1 : Int, l1 = (i_or i1 (i_shl r74 i2)) →
            (-2147483648 ≤ i2 + 1 ∧ i2 + 1 ≤ 2147483647) ∧
            X4 l1 (i2 + 1))) ∧
        ((i4 < (v 218 33)) →
          ((i3 = 0) →
            (-2147483648 ≤ i4 + 1 ∧ i4 + 1 ≤ 2147483647) ∧
            X19 0 (i4 + 1)) ∧
          ((¬ i3 = 0) →
            (-2147483648 ≤ 2 * i4 ∧ 2 * i4 ≤ 2147483647) ∧
            (0 ≤ (2 * i4) ∧ (2 * i4) < 24) ∧
            P_X11_farOf (v 238 (2 * i4).toNat) i2 v (fun r43 =>
              (-2147483648 ≤ 2 * i4 ∧ 2 * i4 ≤ 2147483647) ∧
              (-2147483648 ≤ (2 * i4) + 1 ∧ (2 * i4) + 1 ≤ 2147483647) ∧
              (0 ≤ ((2 * i4) + 1) ∧ ((2 * i4) + 1) < 24) ∧
              ((¬ r43 = (v 238 ((2 * i4) + 1).toNat)) →
                (-2147483648 ≤ i4 + 1 ∧ i4 + 1 ≤ 2147483647) ∧
                X19 0 (i4 + 1)) ∧
              ((r43 = (v 238 ((2 * i4) + 1).toNat)) →
                (-2147483648 ≤ i4 + 1 ∧ i4 + 1 ≤ 2147483647) ∧
                X19 1 (i4 + 1)))))) → X19 i3 i4) →
      X19 1 0)) → X4 i1 i2) →
  X4 0 0

def P_X11_canFit  (v : VT) (q : Int → VT → Prop) : Prop :=
  P_X11_lays  v (fun v1 =>
    ∀ X6 : Int → Prop, (∀ (i1 : Int), (
      (((v1 218 33) ≤ i1) →
        (((v1 218 33) ≤ 0) →
          q 0 v1) ∧
        ((0 < (v1 218 33)) →
          q 1 v1)) ∧
      ((i1 < (v1 218 33)) →
        (-2147483648 ≤ 2 * i1 ∧ 2 * i1 ≤ 2147483647) ∧
        (0 ≤ (2 * i1) ∧ (2 * i1) < 24) ∧
        P_X11_isNode (v1 238 (2 * i1).toNat) v1 (fun r23 =>
          ((¬ r23 = 0) →
            (-2147483648 ≤ i1 + 1 ∧ i1 + 1 ≤ 2147483647) ∧
            X6 (i1 + 1)) ∧
          ((r23 = 0) →
            q 0 v1)))) → X6 i1) →
    X6 0)

def P_X11_fits  (v : VT) (q : Int → VT → Prop) : Prop :=
  P_X11_canFit  v (fun r1 v1 =>
    ((r1 = 0) →
      q (-1) v1) ∧
    ((¬ r1 = 0) →
      P_X11_fitting  v1 (fun r8 =>
        q r8 v1)))

def P_X11_mostBy (x1 : Int) (x2 : Int) (v : VT) (q : Int → Prop) : Prop :=
  ∀ X5 : Int → Int → Prop, (∀ (i3 : Int) (i4 : Int), (
    ((99 < i4) →
      q i3) ∧
    ((i4 ≤ 99) →
      ∀ X18 : Int → Int → Prop, (∀ (i5 : Int) (i6 : Int), (
        (((v 222 0) ≤ i6) →
          ((i5 ≤ i3) →
            (-2147483648 ≤ i4 + 1 ∧ i4 + 1 ≤ 2147483647) ∧
            X5 i3 (i4 + 1)) ∧
          ((i3 < i5) →
            (-2147483648 ≤ i4 + 1 ∧ i4 + 1 ≤ 2147483647) ∧
            X5 i5 (i4 + 1))) ∧
        ((i6 < (v 222 0)) →
          P_X11_isOf x2 i6 v (fun r34 =>
            ((r34 = 0) →
              P_X11_flag 0 v (fun r57 =>
                (-2147483648 ≤ i5 + r57 ∧ i5 + r57 ≤ 2147483647) ∧
                (-2147483648 ≤ i6 + 1 ∧ i6 + 1 ≤ 2147483647) ∧
                X18 (i5 + r57) (i6 + 1))) ∧
            ((¬ r34 = 0) →
              P_X11_farOf x1 i6 v (fun r44 =>
                ((¬ r44 = i4) →
                  P_X11_flag 0 v (fun r57_1 =>
                    (-2147483648 ≤ i5 + r57_1 ∧ i5 + r57_1 ≤ 2147483647) ∧
                    (-2147483648 ≤ i6 + 1 ∧ i6 + 1 ≤ 2147483647) ∧
                    X18 (i5 + r57_1) (i6 + 1))) ∧
                ((r44 = i4) →
                  P_X11_flag 1 v (fun r57_2 =>
                    (-2147483648 ≤ i5 + r57_2 ∧ i5 + r57_2 ≤ 2147483647) ∧
                    (-2147483648 ≤ i6 + 1 ∧ i6 + 1 ≤ 2147483647) ∧
                    X18 (i5 + r57_2) (i6 + 1)))))))) → X18 i5 i6) →
      X18 0 0)) → X5 i3 i4) →
  X5 0 0

def P_X11_tells (x1 : Int) (v : VT) (q : Int → VT → Prop) : Prop :=
  P_X11_canFit  v (fun r1 v1 =>
    ((r1 = 0) →
      q (-1) v1) ∧
    ((¬ r1 = 0) →
      P_X11_isIn x1 0 1 v1 (fun r11 =>
        ((¬ r11 = 0) →
          P_X11_fitting  v1 (fun r20 =>
            ((¬ r20 = 0) →
              ∀ X35 : Int → Int → Prop, (∀ (i3 : Int) (i4 : Int), (
                (((v1 222 0) ≤ i4) →
                  ((¬ x1 = 0) →
                    P_X11_mostBy i3 r20 v1 (fun r82 =>
                      q r82 v1)) ∧
                  ((x1 = 0) →
                    q i3 v1)) ∧
                ((i4 < (v1 222 0)) →
                  P_X11_mostBy i4 r20 v1 (fun r50 =>
                    P_X11_mostBy i3 r20 v1 (fun r56 =>
                      ((r56 ≤ r50) →
                        (-2147483648 ≤ i4 + 1 ∧ i4 + 1 ≤ 2147483647) ∧
                        X35 i3 (i4 + 1)) ∧
                      ((r50 < r56) →
                        (-2147483648 ≤ i4 + 1 ∧ i4 + 1 ≤ 2147483647) ∧
                        X35 i4 (i4 + 1)))))) → X35 i3 i4) →
              X35 0 1) ∧
            ((r20 = 0) →
              q (-1) v1))) ∧
        ((r11 = 0) →
          q (-1) v1))))

def P_X11_keeps  (v : VT) (q : VT → Prop) : Prop :=
  (-2147483648 ≤ (v 218 37) + 1 ∧ (v 218 37) + 1 ≤ 2147483647) ∧
  ∀ v10 : VT, v10 = upd2 v 218 37 (i_rem ((v 218 37) + 1) 20) →
  ∀ K49 : VT → Prop, (∀ (v49 : VT), (
    ((20 ≤ (v49 218 36)) →
      q v49) ∧
    (((v49 218 36) < 20) →
      (-2147483648 ≤ (v49 218 36) + 1 ∧ (v49 218 36) + 1 ≤ 2147483647) ∧
      ∀ v65 : VT, v65 = upd2 v49 218 36 ((v49 218 36) + 1) →
      q v65)) → K49 v49) →
  ∀ X15 : Int → VT → Prop, (∀ (i1 : Int) (v15 : VT), (
    ((206 ≤ i1) →
      K49 v15) ∧
    ((i1 < 206) →
      (-2147483648 ≤ 206 * (v15 218 37) ∧ 206 * (v15 218 37) ≤ 2147483647) ∧
      (-2147483648 ≤ (206 * (v15 218 37)) + i1 ∧ (206 * (v15 218 37)) + i1 ≤ 2147483647) ∧
      (0 ≤ i1 ∧ i1 < 206) ∧
      (0 ≤ ((206 * (v15 218 37)) + i1) ∧ ((206 * (v15 218 37)) + i1) < 4120) ∧
      ∀ v42 : VT, v42 = upd2 v15 239 ((206 * (v15 218 37)) + i1).toNat (v15 222 i1.toNat) →
      (-2147483648 ≤ i1 + 1 ∧ i1 + 1 ≤ 2147483647) ∧
      X15 (i1 + 1) v42)) → X15 i1 v15) →
  X15 0 v10

def P_X11_undo  (v : VT) (q : Int → VT → Prop) : Prop :=
  ((¬ (v 218 36) = 0) →
    ∀ K49 : VT → Prop, (∀ (v49 : VT), (
      (-2147483648 ≤ (v49 218 37) + 20 ∧ (v49 218 37) + 20 ≤ 2147483647) ∧
      (-2147483648 ≤ ((v49 218 37) + 20) - 1 ∧ ((v49 218 37) + 20) - 1 ≤ 2147483647) ∧
      ∀ v62 : VT, v62 = upd2 v49 218 37 (i_rem (((v49 218 37) + 20) - 1) 20) →
      (-2147483648 ≤ (v62 218 36) - 1 ∧ (v62 218 36) - 1 ≤ 2147483647) ∧
      ∀ v72 : VT, v72 = upd2 v62 218 36 ((v62 218 36) - 1) →
      ∀ v77 : VT, v77 = upd2 v72 218 15 0 →
      q 1 v77) → K49 v49) →
    ∀ X15 : Int → VT → Prop, (∀ (i1 : Int) (v15 : VT), (
      ((206 ≤ i1) →
        K49 v15) ∧
      ((i1 < 206) →
        (-2147483648 ≤ 206 * (v15 218 37) ∧ 206 * (v15 218 37) ≤ 2147483647) ∧
        (-2147483648 ≤ (206 * (v15 218 37)) + i1 ∧ (206 * (v15 218 37)) + i1 ≤ 2147483647) ∧
        (0 ≤ ((206 * (v15 218 37)) + i1) ∧ ((206 * (v15 218 37)) + i1) < 4120) ∧
        (0 ≤ i1 ∧ i1 < 206) ∧
        ∀ v42 : VT, v42 = upd2 v15 222 i1.toNat (v15 239 ((206 * (v15 218 37)) + i1).toNat) →
        (-2147483648 ≤ i1 + 1 ∧ i1 + 1 ≤ 2147483647) ∧
        X15 (i1 + 1) v42)) → X15 i1 v15) →
    X15 0 v) ∧
  (((v 218 36) = 0) →
    P_X11_isRefused 4 v (fun r9 v9 =>
      (r9 = 0 ∨ r9 = 1) ∧
      q r9 v9))

def P_X11_isNext  (v : VT) (q : VT → Prop) : Prop :=
  ∀ X2 : Int → VT → Prop, (∀ (i1 : Int) (v2 : VT), (
    ((206 ≤ i1) →
      ∀ v29 : VT, v29 = upd2 v2 218 15 0 →
      q v29) ∧
    ((i1 < 206) →
      (0 ≤ i1 ∧ i1 < 206) ∧
      (0 ≤ i1 ∧ i1 < 206) ∧
      ∀ v20 : VT, v20 = upd2 v2 222 i1.toNat (v2 223 i1.toNat) →
      (-2147483648 ≤ i1 + 1 ∧ i1 + 1 ≤ 2147483647) ∧
      X2 (i1 + 1) v20)) → X2 i1 v2) →
  X2 0 v

def P_X11_canJoin (x1 : Int) (x2 : Int) (v : VT) (q : Int → Prop) : Prop :=
  P_X11_isNode x1 v (fun r2 =>
    ((r2 = 0) →
      q 0) ∧
    ((¬ r2 = 0) →
      P_X11_isNode x2 v (fun r10 =>
        ((r10 = 0) →
          q 0) ∧
        ((¬ r10 = 0) →
          ((x1 = x2) →
            q 0) ∧
          ((¬ x1 = x2) →
            ((60 ≤ (v 222 1)) →
              q 0) ∧
            (((v 222 1) < 60) →
              P_X11_lineOf 222 x1 x2 v (fun r38 =>
                ((¬ r38 = (-1)) →
                  q 0) ∧
                ((r38 = (-1)) →
                  q 1))))))))

def P_X11_joins (x1 : Int) (x2 : Int) (v : VT) (q : VT → Prop) : Prop :=
  P_X11_adds 222 x1 x2 1 v (fun v7 =>
    ∀ v12 : VT, v12 = upd2 v7 218 15 0 →
    q v12)

def P_X11_join (x1 : Int) (x2 : Int) (v : VT) (q : Int → VT → Prop) : Prop :=
  P_X11_canJoin x1 x2 v (fun r3 =>
    ((¬ r3 = 0) →
      P_X11_keeps  v (fun v16 =>
        P_X11_joins x1 x2 v16 (fun v22 =>
          (-2147483648 ≤ (v22 222 1) - 1 ∧ (v22 222 1) - 1 ≤ 2147483647) ∧
          q ((v22 222 1) - 1) v22))) ∧
    ((r3 = 0) →
      P_X11_refuses 2 v (fun r11 v11 =>
        q r11 v11)))

def P_X11_cuts (x1 : Int) (v : VT) (q : VT → Prop) : Prop :=
  (-2147483648 ≤ 2 * x1 ∧ 2 * x1 ≤ 2147483647) ∧
  (-2147483648 ≤ 26 + (2 * x1) ∧ 26 + (2 * x1) ≤ 2147483647) ∧
  ∀ l2 : Int, l2 = (26 + (2 * x1)) →
  ∀ K44 : VT → Prop, (∀ (v44 : VT), (
    ∀ K86 : VT → Prop, (∀ (v86 : VT), (
      (-2147483648 ≤ (v86 222 1) - 1 ∧ (v86 222 1) - 1 ≤ 2147483647) ∧
      ∀ v95 : VT, v95 = upd2 v86 222 1 ((v86 222 1) - 1) →
      ∀ v98 : VT, v98 = upd2 v95 218 15 0 →
      q v98) → K86 v86) →
    ∀ X46 : Int → VT → Prop, (∀ (i2 : Int) (v46 : VT), (
      (-2147483648 ≤ (v46 222 1) - 1 ∧ (v46 222 1) - 1 ≤ 2147483647) ∧
      ((((v46 222 1) - 1) ≤ i2) →
        K86 v46) ∧
      ((i2 < ((v46 222 1) - 1)) →
        (-2147483648 ≤ 146 + i2 ∧ 146 + i2 ≤ 2147483647) ∧
        (-2147483648 ≤ 146 + i2 ∧ 146 + i2 ≤ 2147483647) ∧
        (-2147483648 ≤ (146 + i2) + 1 ∧ (146 + i2) + 1 ≤ 2147483647) ∧
        (0 ≤ ((146 + i2) + 1) ∧ ((146 + i2) + 1) < 206) ∧
        (0 ≤ (146 + i2) ∧ (146 + i2) < 206) ∧
        ∀ v79 : VT, v79 = upd2 v46 222 (146 + i2).toNat (v46 222 ((146 + i2) + 1).toNat) →
        (-2147483648 ≤ i2 + 1 ∧ i2 + 1 ≤ 2147483647) ∧
        X46 (i2 + 1) v79)) → X46 i2 v46) →
    X46 x1 v44) → K44 v44) →
  ∀ X7 : Int → VT → Prop, (∀ (i2_1 : Int) (v7 : VT), (
    (-2147483648 ≤ (v7 222 1) - 1 ∧ (v7 222 1) - 1 ≤ 2147483647) ∧
    (-2147483648 ≤ 2 * ((v7 222 1) - 1) ∧ 2 * ((v7 222 1) - 1) ≤ 2147483647) ∧
    (-2147483648 ≤ 26 + (2 * ((v7 222 1) - 1)) ∧ 26 + (2 * ((v7 222 1) - 1)) ≤ 2147483647) ∧
    (((26 + (2 * ((v7 222 1) - 1))) ≤ i2_1) →
      K44 v7) ∧
    ((i2_1 < (26 + (2 * ((v7 222 1) - 1)))) →
      (-2147483648 ≤ i2_1 + 2 ∧ i2_1 + 2 ≤ 2147483647) ∧
      (0 ≤ (i2_1 + 2) ∧ (i2_1 + 2) < 206) ∧
      (0 ≤ i2_1 ∧ i2_1 < 206) ∧
      ∀ v37 : VT, v37 = upd2 v7 222 i2_1.toNat (v7 222 (i2_1 + 2).toNat) →
      (-2147483648 ≤ i2_1 + 1 ∧ i2_1 + 1 ≤ 2147483647) ∧
      X7 (i2_1 + 1) v37)) → X7 i2_1 v7) →
  X7 l2 v

def P_X11_toll (x1 : Int) (x2 : Int) (v : VT) (q : Int → VT → Prop) : Prop :=
  P_X11_isLine x1 v (fun r2 =>
    ((r2 = 0) →
      P_X11_isRefused 2 v (fun r31 v31 =>
        (r31 = 0 ∨ r31 = 1) ∧
        q r31 v31)) ∧
    ((¬ r2 = 0) →
      P_X11_isIn x2 1 9 v (fun r14 =>
        ((r14 = 0) →
          P_X11_isRefused 2 v (fun r31_1 v31_1 =>
            (r31_1 = 0 ∨ r31_1 = 1) ∧
            q r31_1 v31_1)) ∧
        ((¬ r14 = 0) →
          P_X11_priceOf x1 v (fun r22 =>
            ((¬ r22 = x2) →
              P_X11_keeps  v (fun v36 =>
                (-2147483648 ≤ 146 + x1 ∧ 146 + x1 ≤ 2147483647) ∧
                (0 ≤ (146 + x1) ∧ (146 + x1) < 206) ∧
                ∀ v49 : VT, v49 = upd2 v36 222 (146 + x1).toNat x2 →
                q 1 v49)) ∧
            ((r22 = x2) →
              P_X11_isRefused 2 v (fun r31_2 v31_2 =>
                (r31_2 = 0 ∨ r31_2 = 1) ∧
                q r31_2 v31_2)))))))

def P_X11_cut (x1 : Int) (v : VT) (q : Int → VT → Prop) : Prop :=
  P_X11_isLine x1 v (fun r2 =>
    ((¬ r2 = 0) →
      P_X11_keeps  v (fun v15 =>
        P_X11_cuts x1 v15 (fun v20 =>
          q 1 v20))) ∧
    ((r2 = 0) →
      P_X11_isRefused 2 v (fun r10 v10 =>
        (r10 = 0 ∨ r10 = 1) ∧
        q r10 v10)))

def P_X11_canGrow (x1 : Int) (v : VT) (q : Int → Prop) : Prop :=
  P_X11_isNode x1 v (fun r2 =>
    ((r2 = 0) →
      q 0) ∧
    ((¬ r2 = 0) →
      ((24 ≤ (v 222 0)) →
        q 0) ∧
      (((v 222 0) < 24) →
        ((60 ≤ (v 222 1)) →
          q 0) ∧
        (((v 222 1) < 60) →
          q 1))))

def P_X11_grows (x1 : Int) (v : VT) (q : VT → Prop) : Prop :=
  (-2147483648 ≤ 2 + (v 222 0) ∧ 2 + (v 222 0) ≤ 2147483647) ∧
  (0 ≤ (2 + (v 222 0)) ∧ (2 + (v 222 0)) < 206) ∧
  ∀ v13 : VT, v13 = upd2 v 222 (2 + (v 222 0)).toNat 0 →
  (-2147483648 ≤ (v13 222 0) + 1 ∧ (v13 222 0) + 1 ≤ 2147483647) ∧
  ∀ v23 : VT, v23 = upd2 v13 222 0 ((v13 222 0) + 1) →
  (-2147483648 ≤ (v23 222 0) - 1 ∧ (v23 222 0) - 1 ≤ 2147483647) ∧
  P_X11_joins x1 ((v23 222 0) - 1) v23 (fun v34 =>
    q v34)

def P_X11_grow (x1 : Int) (v : VT) (q : Int → VT → Prop) : Prop :=
  P_X11_canGrow x1 v (fun r2 =>
    ((¬ r2 = 0) →
      P_X11_keeps  v (fun v15 =>
        P_X11_grows x1 v15 (fun v20 =>
          (-2147483648 ≤ (v20 222 0) - 1 ∧ (v20 222 0) - 1 ≤ 2147483647) ∧
          q ((v20 222 0) - 1) v20))) ∧
    ((r2 = 0) →
      P_X11_refuses 2 v (fun r10 v10 =>
        q r10 v10)))

def P_X11_turns (x1 : Int) (v : VT) (q : VT → Prop) : Prop :=
  ∀ v6 : VT, v6 = upd2 v 223 0 x1 →
  ∀ v13 : VT, v13 = upd2 v6 223 1 0 →
  ∀ K37 : VT → Prop, (∀ (v37 : VT), (
    (-2147483648 ≤ (v37 222 0) - 1 ∧ (v37 222 0) - 1 ≤ 2147483647) ∧
    ∀ l2 : Int, l2 = ((v37 222 0) - 1) →
    ∀ K87 : VT → Prop, (∀ (v87 : VT), (
      ∀ X89 : Int → VT → Prop, (∀ (i2 : Int) (v89 : VT), (
        (((v89 222 1) ≤ i2) →
          P_X11_isNext  v89 (fun v175 =>
            q v175)) ∧
        ((i2 < (v89 222 1)) →
          P_X11_low i2 v89 (fun r105 =>
            (0 ≤ r105 ∧ r105 < 24) ∧
            ∀ l3 : Int, l3 = (v89 240 r105.toNat) →
            P_X11_high i2 v89 (fun r116 =>
              (0 ≤ r116 ∧ r116 < 24) ∧
              ∀ l4 : Int, l4 = (v89 240 r116.toNat) →
              ((l3 = (-1)) →
                (-2147483648 ≤ i2 + 1 ∧ i2 + 1 ≤ 2147483647) ∧
                X89 (i2 + 1) v89) ∧
              ((¬ l3 = (-1)) →
                ((l4 = (-1)) →
                  (-2147483648 ≤ i2 + 1 ∧ i2 + 1 ≤ 2147483647) ∧
                  X89 (i2 + 1) v89) ∧
                ((¬ l4 = (-1)) →
                  ((l3 = l4) →
                    (-2147483648 ≤ i2 + 1 ∧ i2 + 1 ≤ 2147483647) ∧
                    X89 (i2 + 1) v89) ∧
                  ((¬ l3 = l4) →
                    P_X11_lineOf 223 l3 l4 v89 (fun r146 =>
                      ((¬ r146 = (-1)) →
                        (-2147483648 ≤ i2 + 1 ∧ i2 + 1 ≤ 2147483647) ∧
                        X89 (i2 + 1) v89) ∧
                      ((r146 = (-1)) →
                        P_X11_priceOf i2 v89 (fun r162 =>
                          P_X11_adds 223 l3 l4 r162 v89 (fun v165 =>
                            (-2147483648 ≤ i2 + 1 ∧ i2 + 1 ≤ 2147483647) ∧
                            X89 (i2 + 1) v165))))))))))) → X89 i2 v89) →
      X89 0 v87) → K87 v87) →
    ∀ X46 : Int → VT → Prop, (∀ (i2_1 : Int) (v46 : VT), (
      ((i2_1 < 0) →
        K87 v46) ∧
      ((0 ≤ i2_1) →
        (0 ≤ i2_1 ∧ i2_1 < 24) ∧
        (((v46 240 i2_1.toNat) = (-1)) →
          (-2147483648 ≤ i2_1 + (-1) ∧ i2_1 + (-1) ≤ 2147483647) ∧
          X46 (i2_1 + (-1)) v46) ∧
        ((¬ (v46 240 i2_1.toNat) = (-1)) →
          (0 ≤ i2_1 ∧ i2_1 < 24) ∧
          (-2147483648 ≤ 2 + (v46 240 i2_1.toNat) ∧ 2 + (v46 240 i2_1.toNat) ≤ 2147483647) ∧
          (-2147483648 ≤ 2 + i2_1 ∧ 2 + i2_1 ≤ 2147483647) ∧
          (0 ≤ (2 + i2_1) ∧ (2 + i2_1) < 206) ∧
          (0 ≤ (2 + (v46 240 i2_1.toNat)) ∧ (2 + (v46 240 i2_1.toNat)) < 206) ∧
          ∀ v80 : VT, v80 = upd2 v46 223 (2 + (v46 240 i2_1.toNat)).toNat (v46 222 (2 + i2_1).toNat) →
          (-2147483648 ≤ i2_1 + (-1) ∧ i2_1 + (-1) ≤ 2147483647) ∧
          X46 (i2_1 + (-1)) v80))) → X46 i2_1 v46) →
    X46 l2 v37) → K37 v37) →
  ∀ X16 : Int → VT → Prop, (∀ (i2_2 : Int) (v16 : VT), (
    ((24 ≤ i2_2) →
      K37 v16) ∧
    ((i2_2 < 24) →
      (-2147483648 ≤ 2 + i2_2 ∧ 2 + i2_2 ≤ 2147483647) ∧
      (0 ≤ (2 + i2_2) ∧ (2 + i2_2) < 206) ∧
      ∀ v30 : VT, v30 = upd2 v16 223 (2 + i2_2).toNat 0 →
      (-2147483648 ≤ i2_2 + 1 ∧ i2_2 + 1 ≤ 2147483647) ∧
      X16 (i2_2 + 1) v30)) → X16 i2_2 v16) →
  X16 0 v13

def P_X11_drop (x1 : Int) (v : VT) (q : Int → VT → Prop) : Prop :=
  P_X11_isNode x1 v (fun r2 =>
    ((r2 = 0) →
      P_X11_isRefused 2 v (fun r20 v20 =>
        (r20 = 0 ∨ r20 = 1) ∧
        q r20 v20)) ∧
    ((¬ r2 = 0) →
      ((¬ (v 222 0) = 1) →
        P_X11_keeps  v (fun v25 =>
          ∀ K73 : VT → Prop, (∀ (v73 : VT), (
            (-2147483648 ≤ (v73 222 0) - 1 ∧ (v73 222 0) - 1 ≤ 2147483647) ∧
            P_X11_turns ((v73 222 0) - 1) v73 (fun v82 =>
              q 1 v82)) → K73 v73) →
          ∀ X30 : Int → VT → Prop, (∀ (i2 : Int) (v30 : VT), (
            (((v30 222 0) ≤ i2) →
              K73 v30) ∧
            ((i2 < (v30 222 0)) →
              ((¬ i2 = x1) →
                ((i2 ≤ x1) →
                  (0 ≤ i2 ∧ i2 < 24) ∧
                  ∀ v66 : VT, v66 = upd2 v30 240 i2.toNat i2 →
                  (-2147483648 ≤ i2 + 1 ∧ i2 + 1 ≤ 2147483647) ∧
                  X30 (i2 + 1) v66) ∧
                ((x1 < i2) →
                  (-2147483648 ≤ i2 - 1 ∧ i2 - 1 ≤ 2147483647) ∧
                  (0 ≤ i2 ∧ i2 < 24) ∧
                  ∀ v66_1 : VT, v66_1 = upd2 v30 240 i2.toNat (i2 - 1) →
                  (-2147483648 ≤ i2 + 1 ∧ i2 + 1 ≤ 2147483647) ∧
                  X30 (i2 + 1) v66_1)) ∧
              ((i2 = x1) →
                (0 ≤ i2 ∧ i2 < 24) ∧
                ∀ v66_2 : VT, v66_2 = upd2 v30 240 i2.toNat (-1) →
                (-2147483648 ≤ i2 + 1 ∧ i2 + 1 ≤ 2147483647) ∧
                X30 (i2 + 1) v66_2))) → X30 i2 v30) →
          X30 0 v25)) ∧
      (((v 222 0) = 1) →
        P_X11_isRefused 2 v (fun r20_1 v20_1 =>
          (r20_1 = 0 ∨ r20_1 = 1) ∧
          q r20_1 v20_1))))

def P_X11_presses (x1 : Int) (v : VT) (q : VT → Prop) : Prop :=
  ∀ K27 : VT → Prop, (∀ (v27 : VT), (
    ∀ K172 : VT → Prop, (∀ (v172 : VT), (
      ∀ X178 : Int → Int → VT → Prop, (∀ (i4 : Int) (i5 : Int) (v178 : VT), (
        (((v 222 0) ≤ i5) →
          P_X11_turns i4 v178 (fun v254 =>
            q v254)) ∧
        ((i5 < (v 222 0)) →
          (0 ≤ i5 ∧ i5 < 24) ∧
          ∀ K219 : Int → Prop, (∀ (s0 : Int), (
            (0 ≤ i5 ∧ i5 < 24) ∧
            ∀ v219 : VT, v219 = upd2 v178 240 i5.toNat s0 →
            (0 ≤ i5 ∧ i5 < 24) ∧
            ((¬ (v219 241 i5.toNat) = i5) →
              P_X11_flag 0 v219 (fun r239 =>
                (-2147483648 ≤ i4 + r239 ∧ i4 + r239 ≤ 2147483647) ∧
                (-2147483648 ≤ i5 + 1 ∧ i5 + 1 ≤ 2147483647) ∧
                X178 (i4 + r239) (i5 + 1) v219)) ∧
            (((v219 241 i5.toNat) = i5) →
              P_X11_flag 1 v219 (fun r239_1 =>
                (-2147483648 ≤ i4 + r239_1 ∧ i4 + r239_1 ≤ 2147483647) ∧
                (-2147483648 ≤ i5 + 1 ∧ i5 + 1 ≤ 2147483647) ∧
                X178 (i4 + r239_1) (i5 + 1) v219))) → K219 s0) →
          ((¬ (v178 241 i5.toNat) = i5) →
            (0 ≤ i5 ∧ i5 < 24) ∧
            (0 ≤ (v178 241 i5.toNat) ∧ (v178 241 i5.toNat) < 24) ∧
            K219 (v178 240 (v178 241 i5.toNat).toNat)) ∧
          (((v178 241 i5.toNat) = i5) →
            K219 i4))) → X178 i4 i5 v178) →
      X178 0 0 v172) → K172 v172) →
    ∀ X29 : Int → VT → Prop, (∀ (i3 : Int) (v29 : VT), (
      ((i3 = 0) →
        K172 v29) ∧
      ((¬ i3 = 0) →
        ∀ X38 : Int → Int → VT → Prop, (∀ (i3_1 : Int) (i4_1 : Int) (v38 : VT), (
          (((v38 222 1) ≤ i4_1) →
            X29 i3_1 v38) ∧
          ((i4_1 < (v38 222 1)) →
            (0 ≤ i4_1 ∧ i4_1 < 60) ∧
            ((¬ (v38 225 i4_1.toNat) = x1) →
              (-2147483648 ≤ i4_1 + 1 ∧ i4_1 + 1 ≤ 2147483647) ∧
              X38 i3_1 (i4_1 + 1) v38) ∧
            (((v38 225 i4_1.toNat) = x1) →
              P_X11_low i4_1 v38 (fun r67 =>
                (0 ≤ r67 ∧ r67 < 24) ∧
                P_X11_high i4_1 v38 (fun r78 =>
                  (0 ≤ r78 ∧ r78 < 24) ∧
                  (((v38 241 r67.toNat) = (v38 241 r78.toNat)) →
                    (-2147483648 ≤ i4_1 + 1 ∧ i4_1 + 1 ≤ 2147483647) ∧
                    X38 i3_1 (i4_1 + 1) v38) ∧
                  ((¬ (v38 241 r67.toNat) = (v38 241 r78.toNat)) →
                    P_X11_low i4_1 v38 (fun r92 =>
                      (0 ≤ r92 ∧ r92 < 24) ∧
                      ∀ l5 : Int, l5 = (v38 241 r92.toNat) →
                      P_X11_high i4_1 v38 (fun r105 =>
                        (0 ≤ r105 ∧ r105 < 24) ∧
                        ∀ l6 : Int, l6 = (v38 241 r105.toNat) →
                        P_X11_low i4_1 v38 (fun r118 =>
                          ∀ K135 : Int → Prop, (∀ (s0_1 : Int), (
                            (0 ≤ r118 ∧ r118 < 24) ∧
                            ∀ v135 : VT, v135 = upd2 v38 241 r118.toNat s0_1 →
                            P_X11_high i4_1 v135 (fun r143 =>
                              ((l6 ≤ l5) →
                                (0 ≤ r143 ∧ r143 < 24) ∧
                                ∀ v160 : VT, v160 = upd2 v135 241 r143.toNat l6 →
                                (-2147483648 ≤ i4_1 + 1 ∧ i4_1 + 1 ≤ 2147483647) ∧
                                X38 1 (i4_1 + 1) v160) ∧
                              ((l5 < l6) →
                                (0 ≤ r143 ∧ r143 < 24) ∧
                                ∀ v160_1 : VT, v160_1 = upd2 v135 241 r143.toNat l5 →
                                (-2147483648 ≤ i4_1 + 1 ∧ i4_1 + 1 ≤ 2147483647) ∧
                                X38 1 (i4_1 + 1) v160_1))) → K135 s0_1) →
                          ((l6 ≤ l5) →
                            K135 l6) ∧
                          ((l5 < l6) →
                            K135 l5)))))))))) → X38 i3_1 i4_1 v38) →
        X38 0 0 v29)) → X29 i3 v29) →
    X29 1 v27) → K27 v27) →
  ∀ X9 : Int → VT → Prop, (∀ (i3_2 : Int) (v9 : VT), (
    (((v 222 0) ≤ i3_2) →
      K27 v9) ∧
    ((i3_2 < (v 222 0)) →
      (0 ≤ i3_2 ∧ i3_2 < 24) ∧
      ∀ v20 : VT, v20 = upd2 v9 241 i3_2.toNat i3_2 →
      (-2147483648 ≤ i3_2 + 1 ∧ i3_2 + 1 ≤ 2147483647) ∧
      X9 (i3_2 + 1) v20)) → X9 i3_2 v9) →
  X9 0 v

def P_X11_press (x1 : Int) (v : VT) (q : Int → VT → Prop) : Prop :=
  P_X11_lays  v (fun v1 =>
    (-2147483648 ≤ (v1 218 18) - 1 ∧ (v1 218 18) - 1 ≤ 2147483647) ∧
    P_X11_isIn x1 0 ((v1 218 18) - 1) v1 (fun r14 =>
      ((¬ r14 = 0) →
        P_X11_keeps  v1 (fun v27 =>
          P_X11_presses x1 v27 (fun v32 =>
            q (v32 222 0) v32))) ∧
      ((r14 = 0) →
        P_X11_refuses 3 v1 (fun r22 v22 =>
          q r22 v22))))

def P_X11_linesIn (x1 : Int) (v : VT) (q : Int → Prop) : Prop :=
  ∀ X4 : Int → Int → Prop, (∀ (i2 : Int) (i3 : Int), (
    (((v 222 1) ≤ i3) →
      q i2) ∧
    ((i3 < (v 222 1)) →
      P_X11_low i3 v (fun r18 =>
        P_X11_isOf x1 r18 v (fun r21 =>
          ((r21 = 0) →
            P_X11_flag 0 v (fun r44 =>
              (-2147483648 ≤ i2 + r44 ∧ i2 + r44 ≤ 2147483647) ∧
              (-2147483648 ≤ i3 + 1 ∧ i3 + 1 ≤ 2147483647) ∧
              X4 (i2 + r44) (i3 + 1))) ∧
          ((¬ r21 = 0) →
            P_X11_high i3 v (fun r30 =>
              P_X11_isOf x1 r30 v (fun r33 =>
                ((r33 = 0) →
                  P_X11_flag 0 v (fun r44_1 =>
                    (-2147483648 ≤ i2 + r44_1 ∧ i2 + r44_1 ≤ 2147483647) ∧
                    (-2147483648 ≤ i3 + 1 ∧ i3 + 1 ≤ 2147483647) ∧
                    X4 (i2 + r44_1) (i3 + 1))) ∧
                ((¬ r33 = 0) →
                  P_X11_flag 1 v (fun r44_2 =>
                    (-2147483648 ≤ i2 + r44_2 ∧ i2 + r44_2 ≤ 2147483647) ∧
                    (-2147483648 ≤ i3 + 1 ∧ i3 + 1 ≤ 2147483647) ∧
                    X4 (i2 + r44_2) (i3 + 1)))))))))) → X4 i2 i3) →
  X4 0 0

def P_X11_areApart (x1 : Int) (x2 : Int) (v : VT) (q : Int → Prop) : Prop :=
  ∀ X2 : Int → Prop, (∀ (i3 : Int), (
    (((v 222 1) ≤ i3) →
      q 1) ∧
    ((i3 < (v 222 1)) →
      P_X11_low i3 v (fun r15 =>
        P_X11_isOf x1 r15 v (fun r18 =>
          ∀ K36 : Prop, ((
            P_X11_low i3 v (fun r39 =>
              P_X11_isOf x2 r39 v (fun r42 =>
                ((r42 = 0) →
                  (-2147483648 ≤ i3 + 1 ∧ i3 + 1 ≤ 2147483647) ∧
                  X2 (i3 + 1)) ∧
                ((¬ r42 = 0) →
                  P_X11_high i3 v (fun r51 =>
                    P_X11_isOf x1 r51 v (fun r54 =>
                      ((r54 = 0) →
                        (-2147483648 ≤ i3 + 1 ∧ i3 + 1 ≤ 2147483647) ∧
                        X2 (i3 + 1)) ∧
                      ((¬ r54 = 0) →
                        q 0))))))) → K36) →
          ((r18 = 0) →
            K36) ∧
          ((¬ r18 = 0) →
            P_X11_high i3 v (fun r27 =>
              P_X11_isOf x2 r27 v (fun r30 =>
                ((¬ r30 = 0) →
                  q 0) ∧
                ((r30 = 0) →
                  K36)))))))) → X2 i3) →
  X2 0

def P_X11_canOpen (x1 : Int) (x2 : Int) (v : VT) (q : Int → Prop) : Prop :=
  ((x1 < 0) →
    q 0) ∧
  ((0 ≤ x1) →
    ((x2 < 0) →
      q 0) ∧
    ((0 ≤ x2) →
      P_X11_all  v (fun r16 =>
        ((¬ (i_or x1 x2) = r16) →
          q 0) ∧
        (((i_or x1 x2) = r16) →
          (((i_and x1 x2) = 0) →
            q 0) ∧
          ((¬ (i_and x1 x2) = 0) →
            P_X11_areApart (i_and x1 (i_xor x2 (-1))) (i_and x2 (i_xor x1 (-1))) v (fun r37 =>
              ((¬ r37 = 0) →
                P_X11_count (i_and x1 x2) v (fun r52 =>
                  (-2147483648 ≤ (v 222 0) + r52 ∧ (v 222 0) + r52 ≤ 2147483647) ∧
                  ((24 < ((v 222 0) + r52)) →
                    q 0) ∧
                  ((((v 222 0) + r52) ≤ 24) →
                    P_X11_linesIn (i_and x1 x2) v (fun r69 =>
                      (-2147483648 ≤ (v 222 1) + r69 ∧ (v 222 1) + r69 ≤ 2147483647) ∧
                      P_X11_count (i_and x1 x2) v (fun r74 =>
                        (-2147483648 ≤ ((v 222 1) + r69) + r74 ∧ ((v 222 1) + r69) + r74 ≤ 2147483647) ∧
                        ((60 < (((v 222 1) + r69) + r74)) →
                          q 0) ∧
                        (((((v 222 1) + r69) + r74) ≤ 60) →
                          q 1)))))) ∧
              ((r37 = 0) →
                q 0)))))))

def P_X11_endOf (x1 : Int) (x2 : Int) (x3 : Int) (x4 : Int) (v : VT) (q : Int → Prop) : Prop :=
  P_X11_isOf x3 x1 v (fun r2 =>
    ((r2 = 0) →
      q x1) ∧
    ((¬ r2 = 0) →
      P_X11_isOf x4 x2 v (fun r11 =>
        ((r11 = 0) →
          q x1) ∧
        ((¬ r11 = 0) →
          (0 ≤ x1 ∧ x1 < 24) ∧
          q (v 242 x1.toNat)))))

def P_X11_opens (x1 : Int) (x2 : Int) (v : VT) (q : VT → Prop) : Prop :=
  ∀ K38 : VT → Prop, (∀ (v38 : VT), (
    ∀ K87 : Int → VT → Prop, (∀ (i3 : Int) (v87 : VT), (
      ∀ v93 : VT, v93 = upd2 v87 223 0 i3 →
      ∀ v100 : VT, v100 = upd2 v93 223 1 0 →
      ∀ K170 : VT → Prop, (∀ (v170 : VT), (
        ∀ K251 : VT → Prop, (∀ (v251 : VT), (
          ∀ X254 : Int → VT → Prop, (∀ (i4 : Int) (v254 : VT), (
            (((v254 222 0) ≤ i4) →
              P_X11_isNext  v254 (fun v298 =>
                q v298)) ∧
            ((i4 < (v254 222 0)) →
              P_X11_isOf x1 i4 v254 (fun r268 =>
                ((r268 = 0) →
                  (-2147483648 ≤ i4 + 1 ∧ i4 + 1 ≤ 2147483647) ∧
                  X254 (i4 + 1) v254) ∧
                ((¬ r268 = 0) →
                  (0 ≤ i4 ∧ i4 < 24) ∧
                  P_X11_adds 223 i4 (v254 242 i4.toNat) 1 v254 (fun v288 =>
                    (-2147483648 ≤ i4 + 1 ∧ i4 + 1 ≤ 2147483647) ∧
                    X254 (i4 + 1) v288))))) → X254 i4 v254) →
          X254 0 v251) → K251 v251) →
        ∀ X173 : Int → VT → Prop, (∀ (i4_1 : Int) (v173 : VT), (
          (((v173 222 1) ≤ i4_1) →
            K251 v173) ∧
          ((i4_1 < (v173 222 1)) →
            P_X11_low i4_1 v173 (fun r188 =>
              P_X11_isOf x1 r188 v173 (fun r191 =>
                ((r191 = 0) →
                  (-2147483648 ≤ i4_1 + 1 ∧ i4_1 + 1 ≤ 2147483647) ∧
                  X173 (i4_1 + 1) v173) ∧
                ((¬ r191 = 0) →
                  P_X11_high i4_1 v173 (fun r201 =>
                    P_X11_isOf x1 r201 v173 (fun r204 =>
                      ((r204 = 0) →
                        (-2147483648 ≤ i4_1 + 1 ∧ i4_1 + 1 ≤ 2147483647) ∧
                        X173 (i4_1 + 1) v173) ∧
                      ((¬ r204 = 0) →
                        P_X11_low i4_1 v173 (fun r221 =>
                          (0 ≤ r221 ∧ r221 < 24) ∧
                          P_X11_high i4_1 v173 (fun r232 =>
                            (0 ≤ r232 ∧ r232 < 24) ∧
                            P_X11_priceOf i4_1 v173 (fun r239 =>
                              P_X11_adds 223 (v173 242 r221.toNat) (v173 242 r232.toNat) r239 v173 (fun v242 =>
                                (-2147483648 ≤ i4_1 + 1 ∧ i4_1 + 1 ≤ 2147483647) ∧
                                X173 (i4_1 + 1) v242)))))))))))) → X173 i4_1 v173) →
        X173 0 v170) → K170 v170) →
      ∀ X104 : Int → VT → Prop, (∀ (i4_2 : Int) (v104 : VT), (
        (((v104 222 1) ≤ i4_2) →
          K170 v104) ∧
        ((i4_2 < (v104 222 1)) →
          P_X11_low i4_2 v104 (fun r123 =>
            P_X11_high i4_2 v104 (fun r129 =>
              P_X11_endOf r123 r129 x1 x2 v104 (fun r134 =>
                P_X11_high i4_2 v104 (fun r141 =>
                  P_X11_low i4_2 v104 (fun r147 =>
                    P_X11_endOf r141 r147 x1 x2 v104 (fun r152 =>
                      P_X11_priceOf i4_2 v104 (fun r158 =>
                        P_X11_adds 223 r134 r152 r158 v104 (fun v161 =>
                          (-2147483648 ≤ i4_2 + 1 ∧ i4_2 + 1 ≤ 2147483647) ∧
                          X104 (i4_2 + 1) v161)))))))))) → X104 i4_2 v104) →
      X104 0 v100) → K87 i3 v87) →
    ∀ X41 : Int → Int → VT → Prop, (∀ (i3_1 : Int) (i4_3 : Int) (v41 : VT), (
      (((v41 222 0) ≤ i4_3) →
        K87 i3_1 v41) ∧
      ((i4_3 < (v41 222 0)) →
        P_X11_isOf x1 i4_3 v41 (fun r55 =>
          ((r55 = 0) →
            (-2147483648 ≤ i4_3 + 1 ∧ i4_3 + 1 ≤ 2147483647) ∧
            X41 i3_1 (i4_3 + 1) v41) ∧
          ((¬ r55 = 0) →
            (0 ≤ i4_3 ∧ i4_3 < 24) ∧
            ∀ v68 : VT, v68 = upd2 v41 242 i4_3.toNat i3_1 →
            (-2147483648 ≤ 2 + i3_1 ∧ 2 + i3_1 ≤ 2147483647) ∧
            (0 ≤ (2 + i3_1) ∧ (2 + i3_1) < 206) ∧
            ∀ v77 : VT, v77 = upd2 v68 223 (2 + i3_1).toNat 0 →
            (-2147483648 ≤ i3_1 + 1 ∧ i3_1 + 1 ≤ 2147483647) ∧
            (-2147483648 ≤ i4_3 + 1 ∧ i4_3 + 1 ≤ 2147483647) ∧
            X41 (i3_1 + 1) (i4_3 + 1) v77)))) → X41 i3_1 i4_3 v41) →
    X41 (v 222 0) 0 v38) → K38 v38) →
  ∀ X10 : Int → VT → Prop, (∀ (i4_4 : Int) (v10 : VT), (
    ((206 ≤ i4_4) →
      K38 v10) ∧
    ((i4_4 < 206) →
      (0 ≤ i4_4 ∧ i4_4 < 206) ∧
      (0 ≤ i4_4 ∧ i4_4 < 206) ∧
      ∀ v31 : VT, v31 = upd2 v10 223 i4_4.toNat (v10 222 i4_4.toNat) →
      (-2147483648 ≤ i4_4 + 1 ∧ i4_4 + 1 ≤ 2147483647) ∧
      X10 (i4_4 + 1) v31)) → X10 i4_4 v10) →
  X10 0 v

def P_X11_open (x1 : Int) (x2 : Int) (v : VT) (q : Int → VT → Prop) : Prop :=
  P_X11_canOpen x1 x2 v (fun r3 =>
    ((¬ r3 = 0) →
      P_X11_keeps  v (fun v16 =>
        P_X11_opens (i_and x1 x2) (i_and x2 (i_xor x1 (-1))) v16 (fun v28 =>
          q (v28 222 0) v28))) ∧
    ((r3 = 0) →
      P_X11_refuses 3 v (fun r11 v11 =>
        q r11 v11)))

def P_X11_seed (x1 : Int) (v : VT) (q : Int → VT → Prop) : Prop :=
  ((0 ≤ x1) →
    ∀ v13 : VT, v13 = upd2 v 218 41 x1 →
    q 1 v13) ∧
  ((x1 < 0) →
    P_X11_isRefused 5 v (fun r6 v6 =>
      (r6 = 0 ∨ r6 = 1) ∧
      q r6 v6))

def P_X11_drawOf (x1 : Int) (v : VT) (q : Int → VT → Prop) : Prop :=
  (-9223372036854775808 ≤ 1103515245 * (v 218 41) ∧ 1103515245 * (v 218 41) ≤ 9223372036854775807) ∧
  (-9223372036854775808 ≤ (1103515245 * (v 218 41)) + 12345 ∧ (1103515245 * (v 218 41)) + 12345 ≤ 9223372036854775807) ∧
  ∀ v17 : VT, v17 = upd2 v 218 41 (l_rem ((1103515245 * (v 218 41)) + 12345) 2147483648) →
  (x1 ≠ 0) ∧
  (-2147483648 ≤ (l_rem (l_div (v17 218 41) 64) x1) ∧ (l_rem (l_div (v17 218 41) 64) x1) ≤ 2147483647) ∧
  q (l_rem (l_div (v17 218 41) 64) x1) v17

def P_X11_stirs  (v : VT) (q : VT → Prop) : Prop :=
  P_X11_drawOf 4 v (fun r2 v2 =>
    ((¬ r2 = 3) →
      P_X11_drawOf (v2 222 0) v2 (fun r56 v56 =>
        ((2 ≤ r2) →
          P_X11_drawOf (v56 222 0) v56 (fun r86 v86 =>
            ∀ K108 : Int → Prop, (∀ (s0 : Int), (
              ((s0 = (-1)) →
                P_X11_canJoin r56 r86 v86 (fun r128 =>
                  ((r128 = 0) →
                    q v86) ∧
                  ((¬ r128 = 0) →
                    P_X11_joins r56 r86 v86 (fun v137 =>
                      q v137)))) ∧
              ((¬ s0 = (-1)) →
                P_X11_cuts s0 v86 (fun v119 =>
                  q v119))) → K108 s0) →
            ((¬ r56 = r86) →
              P_X11_lineOf 222 r56 r86 v86 (fun r105 =>
                K108 r105)) ∧
            ((r56 = r86) →
              K108 (-1)))) ∧
        ((r2 < 2) →
          P_X11_canGrow r56 v56 (fun r67 =>
            ((r67 = 0) →
              q v56) ∧
            ((¬ r67 = 0) →
              P_X11_grows r56 v56 (fun v75 =>
                q v75)))))) ∧
    ((r2 = 3) →
      P_X11_lays  v2 (fun v12 =>
        ∀ K31 : Int → Prop, (∀ (s0_1 : Int), (
          P_X11_drawOf s0_1 v12 (fun r31 v31 =>
            (((v31 218 18) ≤ r31) →
              q v31) ∧
            ((r31 < (v31 218 18)) →
              P_X11_presses r31 v31 (fun v45 =>
                q v45)))) → K31 s0_1) →
        (((v12 218 18) ≤ 0) →
          K31 1) ∧
        ((0 < (v12 218 18)) →
          K31 (v12 218 18)))))

def P_X11_chance (x1 : Int) (v : VT) (q : Int → VT → Prop) : Prop :=
  P_X11_isIn x1 1 40 v (fun r6 =>
    ((r6 = 0) →
      P_X11_refuses 3 v (fun r23 v23 =>
        q r23 v23)) ∧
    ((¬ r6 = 0) →
      ((¬ (v 222 0) = 0) →
        P_X11_keeps  v (fun v28 =>
          ∀ X33 : Int → VT → Prop, (∀ (i2 : Int) (v33 : VT), (
            ((x1 ≤ i2) →
              q (v33 222 0) v33) ∧
            ((i2 < x1) →
              P_X11_stirs  v33 (fun v39 =>
                (-2147483648 ≤ i2 + 1 ∧ i2 + 1 ≤ 2147483647) ∧
                X33 (i2 + 1) v39))) → X33 i2 v33) →
          X33 0 v28)) ∧
      (((v 222 0) = 0) →
        P_X11_refuses 3 v (fun r23_1 v23_1 =>
          q r23_1 v23_1))))

def P_X11_last (a0 : Nat) (n0 : Nat) (x1 : Int) (v : VT) (q : Int → Prop) : Prop :=
  ∀ X6 : Int → Int → Prop, (∀ (i2 : Int) (i3 : Int), (
    ((x1 ≤ i3) →
      q i2) ∧
    ((i3 < x1) →
      (-2147483648 ≤ 3 * i2 ∧ 3 * i2 ≤ 2147483647) ∧
      (0 ≤ i3 ∧ i3 < n0) ∧
      (-2147483648 ≤ (3 * i2) + (v a0 i3.toNat) ∧ (3 * i2) + (v a0 i3.toNat) ≤ 2147483647) ∧
      ∀ l2 : Int, l2 = (i_rem ((3 * i2) + (v a0 i3.toNat)) 251) →
      (-2147483648 ≤ i3 + 1 ∧ i3 + 1 ≤ 2147483647) ∧
      X6 l2 (i3 + 1))) → X6 i2 i3) →
  X6 167 0

def P_X11_image  (v : VT) (q : Int → VT → Prop) : Prop :=
  ∀ v11 : VT, v11 = upd2 v 243 0 (v 222 0) →
  ∀ v23 : VT, v23 = upd2 v11 243 1 (v11 222 1) →
  ∀ K61 : VT → Prop, (∀ (v61 : VT), (
    (-2147483648 ≤ 2 * (v61 222 1) ∧ 2 * (v61 222 1) ≤ 2147483647) ∧
    (-2147483648 ≤ 2 + (2 * (v61 222 1)) ∧ 2 + (2 * (v61 222 1)) ≤ 2147483647) ∧
    ∀ v72 : VT, v72 = upd2 v61 218 43 (2 + (2 * (v61 222 1))) →
    P_X11_last 243 123 (v72 218 43) v72 (fun r91 =>
      (0 ≤ (v72 218 43) ∧ (v72 218 43) < 123) ∧
      ∀ v94 : VT, v94 = upd2 v72 243 (v72 218 43).toNat r91 →
      (-2147483648 ≤ (v94 218 43) + 1 ∧ (v94 218 43) + 1 ≤ 2147483647) ∧
      ∀ v102 : VT, v102 = upd2 v94 218 43 ((v94 218 43) + 1) →
      q (v102 218 43) v102)) → K61 v61) →
  ∀ X26 : Int → VT → Prop, (∀ (i1 : Int) (v26 : VT), (
    (-2147483648 ≤ 2 * (v26 222 1) ∧ 2 * (v26 222 1) ≤ 2147483647) ∧
    (((2 * (v26 222 1)) ≤ i1) →
      K61 v26) ∧
    ((i1 < (2 * (v26 222 1))) →
      (-2147483648 ≤ 2 + i1 ∧ 2 + i1 ≤ 2147483647) ∧
      (-2147483648 ≤ 26 + i1 ∧ 26 + i1 ≤ 2147483647) ∧
      (0 ≤ (26 + i1) ∧ (26 + i1) < 206) ∧
      (0 ≤ (2 + i1) ∧ (2 + i1) < 123) ∧
      ∀ v54 : VT, v54 = upd2 v26 243 (2 + i1).toNat (v26 222 (26 + i1).toNat) →
      (-2147483648 ≤ i1 + 1 ∧ i1 + 1 ≤ 2147483647) ∧
      X26 (i1 + 1) v54)) → X26 i1 v26) →
  X26 0 v23

def P_X11_octet (x1 : Int) (v : VT) (q : Int → Prop) : Prop :=
  (-2147483648 ≤ (v 218 43) - 1 ∧ (v 218 43) - 1 ≤ 2147483647) ∧
  P_X11_isIn x1 0 ((v 218 43) - 1) v (fun r10 =>
    ((r10 = 0) →
      q (-1)) ∧
    ((¬ r10 = 0) →
      (0 ≤ x1 ∧ x1 < 123) ∧
      q (v 243 x1.toNat)))

def P_X11_isImage (x1 : Int) (v : VT) (q : Int → VT → Prop) : Prop :=
  ((x1 < 3) →
    q 0 v) ∧
  ((3 ≤ x1) →
    P_X11_isIn (v 219 0) 1 24 v (fun r16 =>
      ((r16 = 0) →
        q 0 v) ∧
      ((¬ r16 = 0) →
        ((60 < (v 219 1)) →
          q 0 v) ∧
        (((v 219 1) ≤ 60) →
          (-2147483648 ≤ 2 * (v 219 1) ∧ 2 * (v 219 1) ≤ 2147483647) ∧
          (-2147483648 ≤ 3 + (2 * (v 219 1)) ∧ 3 + (2 * (v 219 1)) ≤ 2147483647) ∧
          ((¬ x1 = (3 + (2 * (v 219 1)))) →
            q 0 v) ∧
          ((x1 = (3 + (2 * (v 219 1)))) →
            (-2147483648 ≤ x1 - 1 ∧ x1 - 1 ≤ 2147483647) ∧
            (0 ≤ (x1 - 1) ∧ (x1 - 1) < 800) ∧
            (-2147483648 ≤ x1 - 1 ∧ x1 - 1 ≤ 2147483647) ∧
            P_X11_last 219 800 (x1 - 1) v (fun r62 =>
              (((v 219 (x1 - 1).toNat) = r62) →
                ∀ K92 : VT → Prop, (∀ (v92 : VT), (
                  ∀ v103 : VT, v103 = upd2 v92 223 0 (v92 219 0) →
                  ∀ X106 : Int → VT → Prop, (∀ (i2 : Int) (v106 : VT), (
                    (-2147483648 ≤ x1 - 1 ∧ x1 - 1 ≤ 2147483647) ∧
                    (((x1 - 1) ≤ i2) →
                      q 1 v106) ∧
                    ((i2 < (x1 - 1)) →
                      (0 ≤ i2 ∧ i2 < 800) ∧
                      (-2147483648 ≤ i2 + 1 ∧ i2 + 1 ≤ 2147483647) ∧
                      (0 ≤ (i2 + 1) ∧ (i2 + 1) < 800) ∧
                      (((v106 219 (i2 + 1).toNat) ≤ (v106 219 i2.toNat)) →
                        q 0 v106) ∧
                      (((v106 219 i2.toNat) < (v106 219 (i2 + 1).toNat)) →
                        (-2147483648 ≤ i2 + 1 ∧ i2 + 1 ≤ 2147483647) ∧
                        (0 ≤ (i2 + 1) ∧ (i2 + 1) < 800) ∧
                        (((v106 219 0) ≤ (v106 219 (i2 + 1).toNat)) →
                          q 0 v106) ∧
                        (((v106 219 (i2 + 1).toNat) < (v106 219 0)) →
                          (0 ≤ i2 ∧ i2 < 800) ∧
                          (-2147483648 ≤ i2 + 1 ∧ i2 + 1 ≤ 2147483647) ∧
                          (0 ≤ (i2 + 1) ∧ (i2 + 1) < 800) ∧
                          P_X11_lineOf 223 (v106 219 i2.toNat) (v106 219 (i2 + 1).toNat) v106 (fun r165 =>
                            ((r165 = (-1)) →
                              (0 ≤ i2 ∧ i2 < 800) ∧
                              (-2147483648 ≤ i2 + 1 ∧ i2 + 1 ≤ 2147483647) ∧
                              (0 ≤ (i2 + 1) ∧ (i2 + 1) < 800) ∧
                              P_X11_adds 223 (v106 219 i2.toNat) (v106 219 (i2 + 1).toNat) 1 v106 (fun v193 =>
                                (-2147483648 ≤ i2 + 2 ∧ i2 + 2 ≤ 2147483647) ∧
                                X106 (i2 + 2) v193)) ∧
                            ((¬ r165 = (-1)) →
                              q 0 v106)))))) → X106 i2 v106) →
                  X106 2 v103) → K92 v92) →
                ∀ X72 : Int → VT → Prop, (∀ (i2_1 : Int) (v72 : VT), (
                  ((206 ≤ i2_1) →
                    K92 v72) ∧
                  ((i2_1 < 206) →
                    (0 ≤ i2_1 ∧ i2_1 < 206) ∧
                    ∀ v85 : VT, v85 = upd2 v72 223 i2_1.toNat 0 →
                    (-2147483648 ≤ i2_1 + 1 ∧ i2_1 + 1 ≤ 2147483647) ∧
                    X72 (i2_1 + 1) v85)) → X72 i2_1 v72) →
                X72 0 v) ∧
              ((¬ (v 219 (x1 - 1).toNat) = r62) →
                q 0 v)))))))

def P_X11_on  (v : VT) (q : Int → VT → Prop) : Prop :=
  ∀ v7 : VT, v7 = upd2 v 218 1 0 →
  P_X11_isImage (v 218 1) v7 (fun r12 v12 =>
    ((¬ r12 = 0) →
      P_X11_isNext  v12 (fun v25 =>
        ∀ v30 : VT, v30 = upd2 v25 218 36 0 →
        q 1 v30)) ∧
    ((r12 = 0) →
      P_X11_isRefused 5 v12 (fun r20 v20 =>
        (r20 = 0 ∨ r20 = 1) ∧
        q r20 v20)))

def P_L_law (G : GT) (v : VT) (q : Int → VT → Prop) : Prop :=
  ∀ X18 : Int → VT → Prop, (∀ (i3 : Int) (v18 : VT), (
    (-2147483648 ≤ (g_L G : Int) - 6 ∧ (g_L G : Int) - 6 ≤ 2147483647) ∧
    ((((g_L G : Int) - 6) < i3) →
      q 1 v18) ∧
    ((i3 ≤ ((g_L G : Int) - 6)) →
      (0 ≤ i3 ∧ i3 < (g_L G : Int)) ∧
      (((i_and (w32 (g_xs G i3.toNat)) 63) = 0) →
        (-2147483648 ≤ i3 + 1 ∧ i3 + 1 ≤ 2147483647) ∧
        (0 ≤ (i3 + 1) ∧ (i3 + 1) < (g_L G : Int)) ∧
        (-2147483648 ≤ i3 + 2 ∧ i3 + 2 ≤ 2147483647) ∧
        (0 ≤ (i3 + 2) ∧ (i3 + 2) < (g_L G : Int)) ∧
        (-2147483648 ≤ i3 + 3 ∧ i3 + 3 ≤ 2147483647) ∧
        (0 ≤ (i3 + 3) ∧ (i3 + 3) < (g_L G : Int)) ∧
        (-2147483648 ≤ i3 + 4 ∧ i3 + 4 ≤ 2147483647) ∧
        (0 ≤ (i3 + 4) ∧ (i3 + 4) < (g_L G : Int)) ∧
        (-2147483648 ≤ i3 + 5 ∧ i3 + 5 ≤ 2147483647) ∧
        (0 ≤ (i3 + 5) ∧ (i3 + 5) < (g_L G : Int)) ∧
        P_X10_feed (w32 (g_xs G (i3 + 1).toNat)) (w32 (g_xs G (i3 + 2).toNat)) (w32 (g_xs G (i3 + 3).toNat)) (w32 (g_xs G (i3 + 4).toNat)) (w32 (g_xs G (i3 + 5).toNat)) v18 (fun r282 v282 =>
          (-2147483648 ≤ i3 + 1 ∧ i3 + 1 ≤ 2147483647) ∧
          (0 ≤ (i3 + 1) ∧ (i3 + 1) < (g_L G : Int)) ∧
          (-2147483648 ≤ i3 + 2 ∧ i3 + 2 ≤ 2147483647) ∧
          (0 ≤ (i3 + 2) ∧ (i3 + 2) < (g_L G : Int)) ∧
          (-2147483648 ≤ i3 + 3 ∧ i3 + 3 ≤ 2147483647) ∧
          (0 ≤ (i3 + 3) ∧ (i3 + 3) < (g_L G : Int)) ∧
          (-2147483648 ≤ i3 + 4 ∧ i3 + 4 ≤ 2147483647) ∧
          (0 ≤ (i3 + 4) ∧ (i3 + 4) < (g_L G : Int)) ∧
          (-2147483648 ≤ i3 + 5 ∧ i3 + 5 ≤ 2147483647) ∧
          (0 ≤ (i3 + 5) ∧ (i3 + 5) < (g_L G : Int)) ∧
          P_X11_feed (w32 (g_xs G (i3 + 1).toNat)) (w32 (g_xs G (i3 + 2).toNat)) (w32 (g_xs G (i3 + 3).toNat)) (w32 (g_xs G (i3 + 4).toNat)) (w32 (g_xs G (i3 + 5).toNat)) v282 (fun r311 v311 =>
            ((r282 = r311) →
              (-2147483648 ≤ i3 + 6 ∧ i3 + 6 ≤ 2147483647) ∧
              X18 (i3 + 6) v311) ∧
            ((¬ r282 = r311) →
              q 0 v311)))) ∧
      (((i_and (w32 (g_xs G i3.toNat)) 63) = 1) →
        (-2147483648 ≤ i3 + 1 ∧ i3 + 1 ≤ 2147483647) ∧
        (0 ≤ (i3 + 1) ∧ (i3 + 1) < (g_L G : Int)) ∧
        P_X10_end (w32 (g_xs G (i3 + 1).toNat)) v18 (fun r325 v325 =>
          (-2147483648 ≤ i3 + 1 ∧ i3 + 1 ≤ 2147483647) ∧
          (0 ≤ (i3 + 1) ∧ (i3 + 1) < (g_L G : Int)) ∧
          P_X11_end (w32 (g_xs G (i3 + 1).toNat)) v325 (fun r334 v334 =>
            ((r325 = r334) →
              (-2147483648 ≤ i3 + 6 ∧ i3 + 6 ≤ 2147483647) ∧
              X18 (i3 + 6) v334) ∧
            ((¬ r325 = r334) →
              q 0 v334)))) ∧
      (((i_and (w32 (g_xs G i3.toNat)) 63) = 2) →
        P_X10_net  v18 (fun r343 v343 =>
          P_X11_net  v343 (fun r347 v347 =>
            ((r343 = r347) →
              (-2147483648 ≤ i3 + 6 ∧ i3 + 6 ≤ 2147483647) ∧
              X18 (i3 + 6) v347) ∧
            ((¬ r343 = r347) →
              q 0 v347)))) ∧
      (((i_and (w32 (g_xs G i3.toNat)) 63) = 3) →
        (-2147483648 ≤ i3 + 1 ∧ i3 + 1 ≤ 2147483647) ∧
        (0 ≤ (i3 + 1) ∧ (i3 + 1) < (g_L G : Int)) ∧
        P_X10_fault (w32 (g_xs G (i3 + 1).toNat)) v18 (fun r361 =>
          (-2147483648 ≤ i3 + 1 ∧ i3 + 1 ≤ 2147483647) ∧
          (0 ≤ (i3 + 1) ∧ (i3 + 1) < (g_L G : Int)) ∧
          P_X11_fault (w32 (g_xs G (i3 + 1).toNat)) v18 (fun r370 =>
            ((r361 = r370) →
              (-2147483648 ≤ i3 + 6 ∧ i3 + 6 ≤ 2147483647) ∧
              X18 (i3 + 6) v18) ∧
            ((¬ r361 = r370) →
              q 0 v18)))) ∧
      (((i_and (w32 (g_xs G i3.toNat)) 63) = 4) →
        (-2147483648 ≤ i3 + 1 ∧ i3 + 1 ≤ 2147483647) ∧
        (0 ≤ (i3 + 1) ∧ (i3 + 1) < (g_L G : Int)) ∧
        P_X10_has (w32 (g_xs G (i3 + 1).toNat)) v18 (fun r384 v384 =>
          (-2147483648 ≤ i3 + 1 ∧ i3 + 1 ≤ 2147483647) ∧
          (0 ≤ (i3 + 1) ∧ (i3 + 1) < (g_L G : Int)) ∧
          P_X11_has (w32 (g_xs G (i3 + 1).toNat)) v384 (fun r393 v393 =>
            ((r384 = r393) →
              (-2147483648 ≤ i3 + 6 ∧ i3 + 6 ≤ 2147483647) ∧
              X18 (i3 + 6) v393) ∧
            ((¬ r384 = r393) →
              q 0 v393)))) ∧
      (((i_and (w32 (g_xs G i3.toNat)) 63) = 5) →
        (-2147483648 ≤ i3 + 1 ∧ i3 + 1 ≤ 2147483647) ∧
        (0 ≤ (i3 + 1) ∧ (i3 + 1) < (g_L G : Int)) ∧
        (-2147483648 ≤ i3 + 2 ∧ i3 + 2 ≤ 2147483647) ∧
        (0 ≤ (i3 + 2) ∧ (i3 + 2) < (g_L G : Int)) ∧
        P_X10_letter (w32 (g_xs G (i3 + 1).toNat)) (w32 (g_xs G (i3 + 2).toNat)) v18 (fun r412 =>
          (-2147483648 ≤ i3 + 1 ∧ i3 + 1 ≤ 2147483647) ∧
          (0 ≤ (i3 + 1) ∧ (i3 + 1) < (g_L G : Int)) ∧
          (-2147483648 ≤ i3 + 2 ∧ i3 + 2 ≤ 2147483647) ∧
          (0 ≤ (i3 + 2) ∧ (i3 + 2) < (g_L G : Int)) ∧
          P_X11_letter (w32 (g_xs G (i3 + 1).toNat)) (w32 (g_xs G (i3 + 2).toNat)) v18 (fun r426 =>
            ((r412 = r426) →
              (-2147483648 ≤ i3 + 6 ∧ i3 + 6 ≤ 2147483647) ∧
              X18 (i3 + 6) v18) ∧
            ((¬ r412 = r426) →
              q 0 v18)))) ∧
      (((i_and (w32 (g_xs G i3.toNat)) 63) = 6) →
        P_X10_named  v18 (fun r435 v435 =>
          P_X11_named  v435 (fun r439 v439 =>
            ((r435 = r439) →
              (-2147483648 ≤ i3 + 6 ∧ i3 + 6 ≤ 2147483647) ∧
              X18 (i3 + 6) v439) ∧
            ((¬ r435 = r439) →
              q 0 v439)))) ∧
      (((i_and (w32 (g_xs G i3.toNat)) 63) = 7) →
        (-2147483648 ≤ i3 + 1 ∧ i3 + 1 ≤ 2147483647) ∧
        (0 ≤ (i3 + 1) ∧ (i3 + 1) < (g_L G : Int)) ∧
        (-2147483648 ≤ i3 + 2 ∧ i3 + 2 ≤ 2147483647) ∧
        (0 ≤ (i3 + 2) ∧ (i3 + 2) < (g_L G : Int)) ∧
        P_X10_line (w32 (g_xs G (i3 + 1).toNat)) (w32 (g_xs G (i3 + 2).toNat)) v18 (fun r458 v458 =>
          (-2147483648 ≤ i3 + 1 ∧ i3 + 1 ≤ 2147483647) ∧
          (0 ≤ (i3 + 1) ∧ (i3 + 1) < (g_L G : Int)) ∧
          (-2147483648 ≤ i3 + 2 ∧ i3 + 2 ≤ 2147483647) ∧
          (0 ≤ (i3 + 2) ∧ (i3 + 2) < (g_L G : Int)) ∧
          P_X11_line (w32 (g_xs G (i3 + 1).toNat)) (w32 (g_xs G (i3 + 2).toNat)) v458 (fun r472 v472 =>
            ((r458 = r472) →
              (-2147483648 ≤ i3 + 6 ∧ i3 + 6 ≤ 2147483647) ∧
              X18 (i3 + 6) v472) ∧
            ((¬ r458 = r472) →
              q 0 v472)))) ∧
      (((i_and (w32 (g_xs G i3.toNat)) 63) = 8) →
        (-2147483648 ≤ i3 + 1 ∧ i3 + 1 ≤ 2147483647) ∧
        (0 ≤ (i3 + 1) ∧ (i3 + 1) < (g_L G : Int)) ∧
        P_X10_degree (w32 (g_xs G (i3 + 1).toNat)) v18 (fun r486 v486 =>
          (-2147483648 ≤ i3 + 1 ∧ i3 + 1 ≤ 2147483647) ∧
          (0 ≤ (i3 + 1) ∧ (i3 + 1) < (g_L G : Int)) ∧
          P_X11_degree (w32 (g_xs G (i3 + 1).toNat)) v486 (fun r495 =>
            ((r486 = r495) →
              (-2147483648 ≤ i3 + 6 ∧ i3 + 6 ≤ 2147483647) ∧
              X18 (i3 + 6) v486) ∧
            ((¬ r486 = r495) →
              q 0 v486)))) ∧
      (((i_and (w32 (g_xs G i3.toNat)) 63) = 9) →
        (-2147483648 ≤ i3 + 1 ∧ i3 + 1 ≤ 2147483647) ∧
        (0 ≤ (i3 + 1) ∧ (i3 + 1) < (g_L G : Int)) ∧
        (-2147483648 ≤ i3 + 2 ∧ i3 + 2 ≤ 2147483647) ∧
        (0 ≤ (i3 + 2) ∧ (i3 + 2) < (g_L G : Int)) ∧
        P_X10_far (w32 (g_xs G (i3 + 1).toNat)) (w32 (g_xs G (i3 + 2).toNat)) v18 (fun r514 v514 =>
          (-2147483648 ≤ i3 + 1 ∧ i3 + 1 ≤ 2147483647) ∧
          (0 ≤ (i3 + 1) ∧ (i3 + 1) < (g_L G : Int)) ∧
          (-2147483648 ≤ i3 + 2 ∧ i3 + 2 ≤ 2147483647) ∧
          (0 ≤ (i3 + 2) ∧ (i3 + 2) < (g_L G : Int)) ∧
          P_X11_far (w32 (g_xs G (i3 + 1).toNat)) (w32 (g_xs G (i3 + 2).toNat)) v514 (fun r528 v528 =>
            ((r514 = r528) →
              (-2147483648 ≤ i3 + 6 ∧ i3 + 6 ≤ 2147483647) ∧
              X18 (i3 + 6) v528) ∧
            ((¬ r514 = r528) →
              q 0 v528)))) ∧
      (((i_and (w32 (g_xs G i3.toNat)) 63) = 10) →
        (-2147483648 ≤ i3 + 1 ∧ i3 + 1 ≤ 2147483647) ∧
        (0 ≤ (i3 + 1) ∧ (i3 + 1) < (g_L G : Int)) ∧
        (-2147483648 ≤ i3 + 2 ∧ i3 + 2 ≤ 2147483647) ∧
        (0 ≤ (i3 + 2) ∧ (i3 + 2) < (g_L G : Int)) ∧
        P_X10_ways (w32 (g_xs G (i3 + 1).toNat)) (w32 (g_xs G (i3 + 2).toNat)) v18 (fun r547 v547 =>
          (-2147483648 ≤ i3 + 1 ∧ i3 + 1 ≤ 2147483647) ∧
          (0 ≤ (i3 + 1) ∧ (i3 + 1) < (g_L G : Int)) ∧
          (-2147483648 ≤ i3 + 2 ∧ i3 + 2 ≤ 2147483647) ∧
          (0 ≤ (i3 + 2) ∧ (i3 + 2) < (g_L G : Int)) ∧
          P_X11_ways (w32 (g_xs G (i3 + 1).toNat)) (w32 (g_xs G (i3 + 2).toNat)) v547 (fun r561 v561 =>
            ((r547 = r561) →
              (-2147483648 ≤ i3 + 6 ∧ i3 + 6 ≤ 2147483647) ∧
              X18 (i3 + 6) v561) ∧
            ((¬ r547 = r561) →
              q 0 v561)))) ∧
      (((i_and (w32 (g_xs G i3.toNat)) 63) = 11) →
        (-2147483648 ≤ i3 + 1 ∧ i3 + 1 ≤ 2147483647) ∧
        (0 ≤ (i3 + 1) ∧ (i3 + 1) < (g_L G : Int)) ∧
        (-2147483648 ≤ i3 + 2 ∧ i3 + 2 ≤ 2147483647) ∧
        (0 ≤ (i3 + 2) ∧ (i3 + 2) < (g_L G : Int)) ∧
        P_X10_between (w32 (g_xs G (i3 + 1).toNat)) (w32 (g_xs G (i3 + 2).toNat)) v18 (fun r580 v580 =>
          (-2147483648 ≤ i3 + 1 ∧ i3 + 1 ≤ 2147483647) ∧
          (0 ≤ (i3 + 1) ∧ (i3 + 1) < (g_L G : Int)) ∧
          (-2147483648 ≤ i3 + 2 ∧ i3 + 2 ≤ 2147483647) ∧
          (0 ≤ (i3 + 2) ∧ (i3 + 2) < (g_L G : Int)) ∧
          P_X11_between (w32 (g_xs G (i3 + 1).toNat)) (w32 (g_xs G (i3 + 2).toNat)) v580 (fun r594 v594 =>
            ((r580 = r594) →
              (-2147483648 ≤ i3 + 6 ∧ i3 + 6 ≤ 2147483647) ∧
              X18 (i3 + 6) v594) ∧
            ((¬ r580 = r594) →
              q 0 v594)))) ∧
      (((i_and (w32 (g_xs G i3.toNat)) 63) = 12) →
        (-2147483648 ≤ i3 + 1 ∧ i3 + 1 ≤ 2147483647) ∧
        (0 ≤ (i3 + 1) ∧ (i3 + 1) < (g_L G : Int)) ∧
        P_X10_reach (w32 (g_xs G (i3 + 1).toNat)) v18 (fun r608 v608 =>
          (-2147483648 ≤ i3 + 1 ∧ i3 + 1 ≤ 2147483647) ∧
          (0 ≤ (i3 + 1) ∧ (i3 + 1) < (g_L G : Int)) ∧
          P_X11_reach (w32 (g_xs G (i3 + 1).toNat)) v608 (fun r617 v617 =>
            ((r608 = r617) →
              (-2147483648 ≤ i3 + 6 ∧ i3 + 6 ≤ 2147483647) ∧
              X18 (i3 + 6) v617) ∧
            ((¬ r608 = r617) →
              q 0 v617)))) ∧
      (((i_and (w32 (g_xs G i3.toNat)) 63) = 13) →
        (-2147483648 ≤ i3 + 1 ∧ i3 + 1 ≤ 2147483647) ∧
        (0 ≤ (i3 + 1) ∧ (i3 + 1) < (g_L G : Int)) ∧
        (-2147483648 ≤ i3 + 2 ∧ i3 + 2 ≤ 2147483647) ∧
        (0 ≤ (i3 + 2) ∧ (i3 + 2) < (g_L G : Int)) ∧
        (-2147483648 ≤ i3 + 3 ∧ i3 + 3 ≤ 2147483647) ∧
        (0 ≤ (i3 + 3) ∧ (i3 + 3) < (g_L G : Int)) ∧
        P_X10_price (w32 (g_xs G (i3 + 1).toNat)) (w32 (g_xs G (i3 + 2).toNat)) (w32 (g_xs G (i3 + 3).toNat)) v18 (fun r641 v641 =>
          (-2147483648 ≤ i3 + 1 ∧ i3 + 1 ≤ 2147483647) ∧
          (0 ≤ (i3 + 1) ∧ (i3 + 1) < (g_L G : Int)) ∧
          (-2147483648 ≤ i3 + 2 ∧ i3 + 2 ≤ 2147483647) ∧
          (0 ≤ (i3 + 2) ∧ (i3 + 2) < (g_L G : Int)) ∧
          (-2147483648 ≤ i3 + 3 ∧ i3 + 3 ≤ 2147483647) ∧
          (0 ≤ (i3 + 3) ∧ (i3 + 3) < (g_L G : Int)) ∧
          P_X11_price (w32 (g_xs G (i3 + 1).toNat)) (w32 (g_xs G (i3 + 2).toNat)) (w32 (g_xs G (i3 + 3).toNat)) v641 (fun r660 v660 =>
            ((r641 = r660) →
              (-2147483648 ≤ i3 + 6 ∧ i3 + 6 ≤ 2147483647) ∧
              X18 (i3 + 6) v660) ∧
            ((¬ r641 = r660) →
              q 0 v660)))) ∧
      (((i_and (w32 (g_xs G i3.toNat)) 63) = 14) →
        (-2147483648 ≤ i3 + 1 ∧ i3 + 1 ≤ 2147483647) ∧
        (0 ≤ (i3 + 1) ∧ (i3 + 1) < (g_L G : Int)) ∧
        (-2147483648 ≤ i3 + 2 ∧ i3 + 2 ≤ 2147483647) ∧
        (0 ≤ (i3 + 2) ∧ (i3 + 2) < (g_L G : Int)) ∧
        (-2147483648 ≤ i3 + 3 ∧ i3 + 3 ≤ 2147483647) ∧
        (0 ≤ (i3 + 3) ∧ (i3 + 3) < (g_L G : Int)) ∧
        P_X10_road (w32 (g_xs G (i3 + 1).toNat)) (w32 (g_xs G (i3 + 2).toNat)) (w32 (g_xs G (i3 + 3).toNat)) v18 (fun r684 v684 =>
          (-2147483648 ≤ i3 + 1 ∧ i3 + 1 ≤ 2147483647) ∧
          (0 ≤ (i3 + 1) ∧ (i3 + 1) < (g_L G : Int)) ∧
          (-2147483648 ≤ i3 + 2 ∧ i3 + 2 ≤ 2147483647) ∧
          (0 ≤ (i3 + 2) ∧ (i3 + 2) < (g_L G : Int)) ∧
          (-2147483648 ≤ i3 + 3 ∧ i3 + 3 ≤ 2147483647) ∧
          (0 ≤ (i3 + 3) ∧ (i3 + 3) < (g_L G : Int)) ∧
          P_X11_road (w32 (g_xs G (i3 + 1).toNat)) (w32 (g_xs G (i3 + 2).toNat)) (w32 (g_xs G (i3 + 3).toNat)) v684 (fun r703 v703 =>
            ((r684 = r703) →
              (-2147483648 ≤ i3 + 6 ∧ i3 + 6 ≤ 2147483647) ∧
              X18 (i3 + 6) v703) ∧
            ((¬ r684 = r703) →
              q 0 v703)))) ∧
      (((i_and (w32 (g_xs G i3.toNat)) 63) = 15) →
        P_X10_spread  v18 (fun r712 v712 =>
          P_X11_spread  v712 (fun r716 v716 =>
            ((r712 = r716) →
              (-2147483648 ≤ i3 + 6 ∧ i3 + 6 ≤ 2147483647) ∧
              X18 (i3 + 6) v716) ∧
            ((¬ r712 = r716) →
              q 0 v716)))) ∧
      (((i_and (w32 (g_xs G i3.toNat)) 63) = 16) →
        (-2147483648 ≤ i3 + 1 ∧ i3 + 1 ≤ 2147483647) ∧
        (0 ≤ (i3 + 1) ∧ (i3 + 1) < (g_L G : Int)) ∧
        (-2147483648 ≤ i3 + 2 ∧ i3 + 2 ≤ 2147483647) ∧
        (0 ≤ (i3 + 2) ∧ (i3 + 2) < (g_L G : Int)) ∧
        P_X10_alike (w32 (g_xs G (i3 + 1).toNat)) (w32 (g_xs G (i3 + 2).toNat)) v18 (fun r735 v735 =>
          (-2147483648 ≤ i3 + 1 ∧ i3 + 1 ≤ 2147483647) ∧
          (0 ≤ (i3 + 1) ∧ (i3 + 1) < (g_L G : Int)) ∧
          (-2147483648 ≤ i3 + 2 ∧ i3 + 2 ≤ 2147483647) ∧
          (0 ≤ (i3 + 2) ∧ (i3 + 2) < (g_L G : Int)) ∧
          P_X11_alike (w32 (g_xs G (i3 + 1).toNat)) (w32 (g_xs G (i3 + 2).toNat)) v735 (fun r749 v749 =>
            ((r735 = r749) →
              (-2147483648 ≤ i3 + 6 ∧ i3 + 6 ≤ 2147483647) ∧
              X18 (i3 + 6) v749) ∧
            ((¬ r735 = r749) →
              q 0 v749)))) ∧
      (((i_and (w32 (g_xs G i3.toNat)) 63) = 17) →
        (-2147483648 ≤ i3 + 1 ∧ i3 + 1 ≤ 2147483647) ∧
        (0 ≤ (i3 + 1) ∧ (i3 + 1) < (g_L G : Int)) ∧
        (-2147483648 ≤ i3 + 2 ∧ i3 + 2 ≤ 2147483647) ∧
        (0 ≤ (i3 + 2) ∧ (i3 + 2) < (g_L G : Int)) ∧
        P_X10_sort (w32 (g_xs G (i3 + 1).toNat)) (w32 (g_xs G (i3 + 2).toNat)) v18 (fun r768 v768 =>
          (-2147483648 ≤ i3 + 1 ∧ i3 + 1 ≤ 2147483647) ∧
          (0 ≤ (i3 + 1) ∧ (i3 + 1) < (g_L G : Int)) ∧
          (-2147483648 ≤ i3 + 2 ∧ i3 + 2 ≤ 2147483647) ∧
          (0 ≤ (i3 + 2) ∧ (i3 + 2) < (g_L G : Int)) ∧
          P_X11_sort (w32 (g_xs G (i3 + 1).toNat)) (w32 (g_xs G (i3 + 2).toNat)) v768 (fun r782 v782 =>
            ((r768 = r782) →
              (-2147483648 ≤ i3 + 6 ∧ i3 + 6 ≤ 2147483647) ∧
              X18 (i3 + 6) v782) ∧
            ((¬ r768 = r782) →
              q 0 v782)))) ∧
      (((i_and (w32 (g_xs G i3.toNat)) 63) = 18) →
        (-2147483648 ≤ i3 + 1 ∧ i3 + 1 ≤ 2147483647) ∧
        (0 ≤ (i3 + 1) ∧ (i3 + 1) < (g_L G : Int)) ∧
        P_X10_shows (w32 (g_xs G (i3 + 1).toNat)) v18 (fun r796 v796 =>
          (-2147483648 ≤ i3 + 1 ∧ i3 + 1 ≤ 2147483647) ∧
          (0 ≤ (i3 + 1) ∧ (i3 + 1) < (g_L G : Int)) ∧
          P_X11_shows (w32 (g_xs G (i3 + 1).toNat)) v796 (fun r805 v805 =>
            ((r796 = r805) →
              (-2147483648 ≤ i3 + 6 ∧ i3 + 6 ≤ 2147483647) ∧
              X18 (i3 + 6) v805) ∧
            ((¬ r796 = r805) →
              q 0 v805)))) ∧
      (((i_and (w32 (g_xs G i3.toNat)) 63) = 19) →
        (-2147483648 ≤ i3 + 1 ∧ i3 + 1 ≤ 2147483647) ∧
        (0 ≤ (i3 + 1) ∧ (i3 + 1) < (g_L G : Int)) ∧
        P_X10_sides (w32 (g_xs G (i3 + 1).toNat)) v18 (fun r819 v819 =>
          (-2147483648 ≤ i3 + 1 ∧ i3 + 1 ≤ 2147483647) ∧
          (0 ≤ (i3 + 1) ∧ (i3 + 1) < (g_L G : Int)) ∧
          P_X11_sides (w32 (g_xs G (i3 + 1).toNat)) v819 (fun r828 v828 =>
            ((r819 = r828) →
              (-2147483648 ≤ i3 + 6 ∧ i3 + 6 ≤ 2147483647) ∧
              X18 (i3 + 6) v828) ∧
            ((¬ r819 = r828) →
              q 0 v828)))) ∧
      (((i_and (w32 (g_xs G i3.toNat)) 63) = 20) →
        (-2147483648 ≤ i3 + 1 ∧ i3 + 1 ≤ 2147483647) ∧
        (0 ≤ (i3 + 1) ∧ (i3 + 1) < (g_L G : Int)) ∧
        P_X10_at (w32 (g_xs G (i3 + 1).toNat)) v18 (fun r842 v842 =>
          (-2147483648 ≤ i3 + 1 ∧ i3 + 1 ≤ 2147483647) ∧
          (0 ≤ (i3 + 1) ∧ (i3 + 1) < (g_L G : Int)) ∧
          P_X11_at (w32 (g_xs G (i3 + 1).toNat)) v842 (fun r851 v851 =>
            ((r842 = r851) →
              (-2147483648 ≤ i3 + 6 ∧ i3 + 6 ≤ 2147483647) ∧
              X18 (i3 + 6) v851) ∧
            ((¬ r842 = r851) →
              q 0 v851)))) ∧
      (((i_and (w32 (g_xs G i3.toNat)) 63) = 21) →
        (-2147483648 ≤ i3 + 1 ∧ i3 + 1 ≤ 2147483647) ∧
        (0 ≤ (i3 + 1) ∧ (i3 + 1) < (g_L G : Int)) ∧
        (-2147483648 ≤ i3 + 2 ∧ i3 + 2 ≤ 2147483647) ∧
        (0 ≤ (i3 + 2) ∧ (i3 + 2) < (g_L G : Int)) ∧
        P_X10_cross (w32 (g_xs G (i3 + 1).toNat)) (w32 (g_xs G (i3 + 2).toNat)) v18 (fun r870 v870 =>
          (-2147483648 ≤ i3 + 1 ∧ i3 + 1 ≤ 2147483647) ∧
          (0 ≤ (i3 + 1) ∧ (i3 + 1) < (g_L G : Int)) ∧
          (-2147483648 ≤ i3 + 2 ∧ i3 + 2 ≤ 2147483647) ∧
          (0 ≤ (i3 + 2) ∧ (i3 + 2) < (g_L G : Int)) ∧
          P_X11_cross (w32 (g_xs G (i3 + 1).toNat)) (w32 (g_xs G (i3 + 2).toNat)) v870 (fun r884 v884 =>
            ((r870 = r884) →
              (-2147483648 ≤ i3 + 6 ∧ i3 + 6 ≤ 2147483647) ∧
              X18 (i3 + 6) v884) ∧
            ((¬ r870 = r884) →
              q 0 v884)))) ∧
      (((i_and (w32 (g_xs G i3.toNat)) 63) = 22) →
        (-2147483648 ≤ i3 + 1 ∧ i3 + 1 ≤ 2147483647) ∧
        (0 ≤ (i3 + 1) ∧ (i3 + 1) < (g_L G : Int)) ∧
        (-2147483648 ≤ i3 + 2 ∧ i3 + 2 ≤ 2147483647) ∧
        (0 ≤ (i3 + 2) ∧ (i3 + 2) < (g_L G : Int)) ∧
        P_X10_fit (w32 (g_xs G (i3 + 1).toNat)) (w32 (g_xs G (i3 + 2).toNat)) v18 (fun r903 v903 =>
          (-2147483648 ≤ i3 + 1 ∧ i3 + 1 ≤ 2147483647) ∧
          (0 ≤ (i3 + 1) ∧ (i3 + 1) < (g_L G : Int)) ∧
          (-2147483648 ≤ i3 + 2 ∧ i3 + 2 ≤ 2147483647) ∧
          (0 ≤ (i3 + 2) ∧ (i3 + 2) < (g_L G : Int)) ∧
          P_X11_fit (w32 (g_xs G (i3 + 1).toNat)) (w32 (g_xs G (i3 + 2).toNat)) v903 (fun r917 v917 =>
            ((r903 = r917) →
              (-2147483648 ≤ i3 + 6 ∧ i3 + 6 ≤ 2147483647) ∧
              X18 (i3 + 6) v917) ∧
            ((¬ r903 = r917) →
              q 0 v917)))) ∧
      (((i_and (w32 (g_xs G i3.toNat)) 63) = 23) →
        (-2147483648 ≤ i3 + 1 ∧ i3 + 1 ≤ 2147483647) ∧
        (0 ≤ (i3 + 1) ∧ (i3 + 1) < (g_L G : Int)) ∧
        P_X10_cubes (w32 (g_xs G (i3 + 1).toNat)) v18 (fun r931 v931 =>
          (-2147483648 ≤ i3 + 1 ∧ i3 + 1 ≤ 2147483647) ∧
          (0 ≤ (i3 + 1) ∧ (i3 + 1) < (g_L G : Int)) ∧
          P_X11_cubes (w32 (g_xs G (i3 + 1).toNat)) v931 (fun r940 v940 =>
            ((r931 = r940) →
              (-2147483648 ≤ i3 + 6 ∧ i3 + 6 ≤ 2147483647) ∧
              X18 (i3 + 6) v940) ∧
            ((¬ r931 = r940) →
              q 0 v940)))) ∧
      (((i_and (w32 (g_xs G i3.toNat)) 63) = 24) →
        (-2147483648 ≤ i3 + 1 ∧ i3 + 1 ≤ 2147483647) ∧
        (0 ≤ (i3 + 1) ∧ (i3 + 1) < (g_L G : Int)) ∧
        P_X10_most (w32 (g_xs G (i3 + 1).toNat)) v18 (fun r954 v954 =>
          (-2147483648 ≤ i3 + 1 ∧ i3 + 1 ≤ 2147483647) ∧
          (0 ≤ (i3 + 1) ∧ (i3 + 1) < (g_L G : Int)) ∧
          P_X11_most (w32 (g_xs G (i3 + 1).toNat)) v954 (fun r963 v963 =>
            ((r954 = r963) →
              (-2147483648 ≤ i3 + 6 ∧ i3 + 6 ≤ 2147483647) ∧
              X18 (i3 + 6) v963) ∧
            ((¬ r954 = r963) →
              q 0 v963)))) ∧
      (((i_and (w32 (g_xs G i3.toNat)) 63) = 25) →
        (-2147483648 ≤ i3 + 1 ∧ i3 + 1 ≤ 2147483647) ∧
        (0 ≤ (i3 + 1) ∧ (i3 + 1) < (g_L G : Int)) ∧
        P_X10_opposite (w32 (g_xs G (i3 + 1).toNat)) v18 (fun r977 v977 =>
          (-2147483648 ≤ i3 + 1 ∧ i3 + 1 ≤ 2147483647) ∧
          (0 ≤ (i3 + 1) ∧ (i3 + 1) < (g_L G : Int)) ∧
          P_X11_opposite (w32 (g_xs G (i3 + 1).toNat)) v977 (fun r986 v986 =>
            ((r977 = r986) →
              (-2147483648 ≤ i3 + 6 ∧ i3 + 6 ≤ 2147483647) ∧
              X18 (i3 + 6) v986) ∧
            ((¬ r977 = r986) →
              q 0 v986)))) ∧
      (((i_and (w32 (g_xs G i3.toNat)) 63) = 26) →
        (-2147483648 ≤ i3 + 1 ∧ i3 + 1 ≤ 2147483647) ∧
        (0 ≤ (i3 + 1) ∧ (i3 + 1) < (g_L G : Int)) ∧
        P_X10_even (w32 (g_xs G (i3 + 1).toNat)) v18 (fun r1000 v1000 =>
          (-2147483648 ≤ i3 + 1 ∧ i3 + 1 ≤ 2147483647) ∧
          (0 ≤ (i3 + 1) ∧ (i3 + 1) < (g_L G : Int)) ∧
          P_X11_even (w32 (g_xs G (i3 + 1).toNat)) v1000 (fun r1009 v1009 =>
            ((r1000 = r1009) →
              (-2147483648 ≤ i3 + 6 ∧ i3 + 6 ≤ 2147483647) ∧
              X18 (i3 + 6) v1009) ∧
            ((¬ r1000 = r1009) →
              q 0 v1009)))) ∧
      (((i_and (w32 (g_xs G i3.toNat)) 63) = 27) →
        P_X10_few  v18 (fun r1018 v1018 =>
          P_X11_few  v1018 (fun r1022 v1022 =>
            ((r1018 = r1022) →
              (-2147483648 ≤ i3 + 6 ∧ i3 + 6 ≤ 2147483647) ∧
              X18 (i3 + 6) v1022) ∧
            ((¬ r1018 = r1022) →
              q 0 v1022)))) ∧
      (((i_and (w32 (g_xs G i3.toNat)) 63) = 28) →
        (-2147483648 ≤ i3 + 1 ∧ i3 + 1 ≤ 2147483647) ∧
        (0 ≤ (i3 + 1) ∧ (i3 + 1) < (g_L G : Int)) ∧
        (-2147483648 ≤ i3 + 2 ∧ i3 + 2 ≤ 2147483647) ∧
        (0 ≤ (i3 + 2) ∧ (i3 + 2) < (g_L G : Int)) ∧
        (-2147483648 ≤ i3 + 3 ∧ i3 + 3 ≤ 2147483647) ∧
        (0 ≤ (i3 + 3) ∧ (i3 + 3) < (g_L G : Int)) ∧
        P_X10_median (w32 (g_xs G (i3 + 1).toNat)) (w32 (g_xs G (i3 + 2).toNat)) (w32 (g_xs G (i3 + 3).toNat)) v18 (fun r1046 v1046 =>
          (-2147483648 ≤ i3 + 1 ∧ i3 + 1 ≤ 2147483647) ∧
          (0 ≤ (i3 + 1) ∧ (i3 + 1) < (g_L G : Int)) ∧
          (-2147483648 ≤ i3 + 2 ∧ i3 + 2 ≤ 2147483647) ∧
          (0 ≤ (i3 + 2) ∧ (i3 + 2) < (g_L G : Int)) ∧
          (-2147483648 ≤ i3 + 3 ∧ i3 + 3 ≤ 2147483647) ∧
          (0 ≤ (i3 + 3) ∧ (i3 + 3) < (g_L G : Int)) ∧
          P_X11_median (w32 (g_xs G (i3 + 1).toNat)) (w32 (g_xs G (i3 + 2).toNat)) (w32 (g_xs G (i3 + 3).toNat)) v1046 (fun r1065 v1065 =>
            ((r1046 = r1065) →
              (-2147483648 ≤ i3 + 6 ∧ i3 + 6 ≤ 2147483647) ∧
              X18 (i3 + 6) v1065) ∧
            ((¬ r1046 = r1065) →
              q 0 v1065)))) ∧
      (((i_and (w32 (g_xs G i3.toNat)) 63) = 29) →
        (-2147483648 ≤ i3 + 1 ∧ i3 + 1 ≤ 2147483647) ∧
        (0 ≤ (i3 + 1) ∧ (i3 + 1) < (g_L G : Int)) ∧
        P_X10_medians (w32 (g_xs G (i3 + 1).toNat)) v18 (fun r1079 v1079 =>
          (-2147483648 ≤ i3 + 1 ∧ i3 + 1 ≤ 2147483647) ∧
          (0 ≤ (i3 + 1) ∧ (i3 + 1) < (g_L G : Int)) ∧
          P_X11_medians (w32 (g_xs G (i3 + 1).toNat)) v1079 (fun r1088 v1088 =>
            ((r1079 = r1088) →
              (-2147483648 ≤ i3 + 6 ∧ i3 + 6 ≤ 2147483647) ∧
              X18 (i3 + 6) v1088) ∧
            ((¬ r1079 = r1088) →
              q 0 v1088)))) ∧
      (((i_and (w32 (g_xs G i3.toNat)) 63) = 30) →
        P_X10_vote  v18 (fun r1097 v1097 =>
          P_X11_vote  v1097 (fun r1101 v1101 =>
            ((r1097 = r1101) →
              (-2147483648 ≤ i3 + 6 ∧ i3 + 6 ≤ 2147483647) ∧
              X18 (i3 + 6) v1101) ∧
            ((¬ r1097 = r1101) →
              q 0 v1101)))) ∧
      (((i_and (w32 (g_xs G i3.toNat)) 63) = 31) →
        (-2147483648 ≤ i3 + 1 ∧ i3 + 1 ≤ 2147483647) ∧
        (0 ≤ (i3 + 1) ∧ (i3 + 1) < (g_L G : Int)) ∧
        P_X10_winner (w32 (g_xs G (i3 + 1).toNat)) v18 (fun r1115 v1115 =>
          (-2147483648 ≤ i3 + 1 ∧ i3 + 1 ≤ 2147483647) ∧
          (0 ≤ (i3 + 1) ∧ (i3 + 1) < (g_L G : Int)) ∧
          P_X11_winner (w32 (g_xs G (i3 + 1).toNat)) v1115 (fun r1124 v1124 =>
            ((r1115 = r1124) →
              (-2147483648 ≤ i3 + 6 ∧ i3 + 6 ≤ 2147483647) ∧
              X18 (i3 + 6) v1124) ∧
            ((¬ r1115 = r1124) →
              q 0 v1124)))) ∧
      (((i_and (w32 (g_xs G i3.toNat)) 63) = 32) →
        (-2147483648 ≤ i3 + 1 ∧ i3 + 1 ≤ 2147483647) ∧
        (0 ≤ (i3 + 1) ∧ (i3 + 1) < (g_L G : Int)) ∧
        (-2147483648 ≤ i3 + 2 ∧ i3 + 2 ≤ 2147483647) ∧
        (0 ≤ (i3 + 2) ∧ (i3 + 2) < (g_L G : Int)) ∧
        P_X10_set (w32 (g_xs G (i3 + 1).toNat)) (w32 (g_xs G (i3 + 2).toNat)) v18 (fun r1143 v1143 =>
          (-2147483648 ≤ i3 + 1 ∧ i3 + 1 ≤ 2147483647) ∧
          (0 ≤ (i3 + 1) ∧ (i3 + 1) < (g_L G : Int)) ∧
          (-2147483648 ≤ i3 + 2 ∧ i3 + 2 ≤ 2147483647) ∧
          (0 ≤ (i3 + 2) ∧ (i3 + 2) < (g_L G : Int)) ∧
          P_X11_set (w32 (g_xs G (i3 + 1).toNat)) (w32 (g_xs G (i3 + 2).toNat)) v1143 (fun r1157 v1157 =>
            ((r1143 = r1157) →
              (-2147483648 ≤ i3 + 6 ∧ i3 + 6 ≤ 2147483647) ∧
              X18 (i3 + 6) v1157) ∧
            ((¬ r1143 = r1157) →
              q 0 v1157)))) ∧
      (((i_and (w32 (g_xs G i3.toNat)) 63) = 33) →
        (-2147483648 ≤ i3 + 1 ∧ i3 + 1 ≤ 2147483647) ∧
        (0 ≤ (i3 + 1) ∧ (i3 + 1) < (g_L G : Int)) ∧
        P_X10_hull (w32 (g_xs G (i3 + 1).toNat)) v18 (fun r1171 v1171 =>
          (-2147483648 ≤ i3 + 1 ∧ i3 + 1 ≤ 2147483647) ∧
          (0 ≤ (i3 + 1) ∧ (i3 + 1) < (g_L G : Int)) ∧
          P_X11_hull (w32 (g_xs G (i3 + 1).toNat)) v1171 (fun r1180 v1180 =>
            ((r1171 = r1180) →
              (-2147483648 ≤ i3 + 6 ∧ i3 + 6 ≤ 2147483647) ∧
              X18 (i3 + 6) v1180) ∧
            ((¬ r1171 = r1180) →
              q 0 v1180)))) ∧
      (((i_and (w32 (g_xs G i3.toNat)) 63) = 34) →
        (-2147483648 ≤ i3 + 1 ∧ i3 + 1 ≤ 2147483647) ∧
        (0 ≤ (i3 + 1) ∧ (i3 + 1) < (g_L G : Int)) ∧
        (-2147483648 ≤ i3 + 2 ∧ i3 + 2 ≤ 2147483647) ∧
        (0 ≤ (i3 + 2) ∧ (i3 + 2) < (g_L G : Int)) ∧
        P_X10_gate (w32 (g_xs G (i3 + 1).toNat)) (w32 (g_xs G (i3 + 2).toNat)) v18 (fun r1199 v1199 =>
          (-2147483648 ≤ i3 + 1 ∧ i3 + 1 ≤ 2147483647) ∧
          (0 ≤ (i3 + 1) ∧ (i3 + 1) < (g_L G : Int)) ∧
          (-2147483648 ≤ i3 + 2 ∧ i3 + 2 ≤ 2147483647) ∧
          (0 ≤ (i3 + 2) ∧ (i3 + 2) < (g_L G : Int)) ∧
          P_X11_gate (w32 (g_xs G (i3 + 1).toNat)) (w32 (g_xs G (i3 + 2).toNat)) v1199 (fun r1213 v1213 =>
            ((r1199 = r1213) →
              (-2147483648 ≤ i3 + 6 ∧ i3 + 6 ≤ 2147483647) ∧
              X18 (i3 + 6) v1213) ∧
            ((¬ r1199 = r1213) →
              q 0 v1213)))) ∧
      (((i_and (w32 (g_xs G i3.toNat)) 63) = 35) →
        P_X10_see  v18 (fun r1222 v1222 =>
          P_X11_see  v1222 (fun r1226 v1226 =>
            ((r1222 = r1226) →
              (-2147483648 ≤ i3 + 6 ∧ i3 + 6 ≤ 2147483647) ∧
              X18 (i3 + 6) v1226) ∧
            ((¬ r1222 = r1226) →
              q 0 v1226)))) ∧
      (((i_and (w32 (g_xs G i3.toNat)) 63) = 36) →
        P_X10_fits  v18 (fun r1235 v1235 =>
          P_X11_fits  v1235 (fun r1239 v1239 =>
            ((r1235 = r1239) →
              (-2147483648 ≤ i3 + 6 ∧ i3 + 6 ≤ 2147483647) ∧
              X18 (i3 + 6) v1239) ∧
            ((¬ r1235 = r1239) →
              q 0 v1239)))) ∧
      (((i_and (w32 (g_xs G i3.toNat)) 63) = 37) →
        (-2147483648 ≤ i3 + 1 ∧ i3 + 1 ≤ 2147483647) ∧
        (0 ≤ (i3 + 1) ∧ (i3 + 1) < (g_L G : Int)) ∧
        P_X10_tells (w32 (g_xs G (i3 + 1).toNat)) v18 (fun r1253 v1253 =>
          (-2147483648 ≤ i3 + 1 ∧ i3 + 1 ≤ 2147483647) ∧
          (0 ≤ (i3 + 1) ∧ (i3 + 1) < (g_L G : Int)) ∧
          P_X11_tells (w32 (g_xs G (i3 + 1).toNat)) v1253 (fun r1262 v1262 =>
            ((r1253 = r1262) →
              (-2147483648 ≤ i3 + 6 ∧ i3 + 6 ≤ 2147483647) ∧
              X18 (i3 + 6) v1262) ∧
            ((¬ r1253 = r1262) →
              q 0 v1262)))) ∧
      (((i_and (w32 (g_xs G i3.toNat)) 63) = 38) →
        (-2147483648 ≤ i3 + 1 ∧ i3 + 1 ≤ 2147483647) ∧
        (0 ≤ (i3 + 1) ∧ (i3 + 1) < (g_L G : Int)) ∧
        (-2147483648 ≤ i3 + 2 ∧ i3 + 2 ≤ 2147483647) ∧
        (0 ≤ (i3 + 2) ∧ (i3 + 2) < (g_L G : Int)) ∧
        P_X10_join (w32 (g_xs G (i3 + 1).toNat)) (w32 (g_xs G (i3 + 2).toNat)) v18 (fun r1281 v1281 =>
          (-2147483648 ≤ i3 + 1 ∧ i3 + 1 ≤ 2147483647) ∧
          (0 ≤ (i3 + 1) ∧ (i3 + 1) < (g_L G : Int)) ∧
          (-2147483648 ≤ i3 + 2 ∧ i3 + 2 ≤ 2147483647) ∧
          (0 ≤ (i3 + 2) ∧ (i3 + 2) < (g_L G : Int)) ∧
          P_X11_join (w32 (g_xs G (i3 + 1).toNat)) (w32 (g_xs G (i3 + 2).toNat)) v1281 (fun r1295 v1295 =>
            ((r1281 = r1295) →
              (-2147483648 ≤ i3 + 6 ∧ i3 + 6 ≤ 2147483647) ∧
              X18 (i3 + 6) v1295) ∧
            ((¬ r1281 = r1295) →
              q 0 v1295)))) ∧
      (((i_and (w32 (g_xs G i3.toNat)) 63) = 39) →
        (-2147483648 ≤ i3 + 1 ∧ i3 + 1 ≤ 2147483647) ∧
        (0 ≤ (i3 + 1) ∧ (i3 + 1) < (g_L G : Int)) ∧
        P_X10_cut (w32 (g_xs G (i3 + 1).toNat)) v18 (fun r1309 v1309 =>
          (-2147483648 ≤ i3 + 1 ∧ i3 + 1 ≤ 2147483647) ∧
          (0 ≤ (i3 + 1) ∧ (i3 + 1) < (g_L G : Int)) ∧
          P_X11_cut (w32 (g_xs G (i3 + 1).toNat)) v1309 (fun r1318 v1318 =>
            ((r1309 = r1318) →
              (-2147483648 ≤ i3 + 6 ∧ i3 + 6 ≤ 2147483647) ∧
              X18 (i3 + 6) v1318) ∧
            ((¬ r1309 = r1318) →
              q 0 v1318)))) ∧
      (((i_and (w32 (g_xs G i3.toNat)) 63) = 40) →
        (-2147483648 ≤ i3 + 1 ∧ i3 + 1 ≤ 2147483647) ∧
        (0 ≤ (i3 + 1) ∧ (i3 + 1) < (g_L G : Int)) ∧
        (-2147483648 ≤ i3 + 2 ∧ i3 + 2 ≤ 2147483647) ∧
        (0 ≤ (i3 + 2) ∧ (i3 + 2) < (g_L G : Int)) ∧
        P_X10_toll (w32 (g_xs G (i3 + 1).toNat)) (w32 (g_xs G (i3 + 2).toNat)) v18 (fun r1337 v1337 =>
          (-2147483648 ≤ i3 + 1 ∧ i3 + 1 ≤ 2147483647) ∧
          (0 ≤ (i3 + 1) ∧ (i3 + 1) < (g_L G : Int)) ∧
          (-2147483648 ≤ i3 + 2 ∧ i3 + 2 ≤ 2147483647) ∧
          (0 ≤ (i3 + 2) ∧ (i3 + 2) < (g_L G : Int)) ∧
          P_X11_toll (w32 (g_xs G (i3 + 1).toNat)) (w32 (g_xs G (i3 + 2).toNat)) v1337 (fun r1351 v1351 =>
            ((r1337 = r1351) →
              (-2147483648 ≤ i3 + 6 ∧ i3 + 6 ≤ 2147483647) ∧
              X18 (i3 + 6) v1351) ∧
            ((¬ r1337 = r1351) →
              q 0 v1351)))) ∧
      (((i_and (w32 (g_xs G i3.toNat)) 63) = 41) →
        (-2147483648 ≤ i3 + 1 ∧ i3 + 1 ≤ 2147483647) ∧
        (0 ≤ (i3 + 1) ∧ (i3 + 1) < (g_L G : Int)) ∧
        P_X10_grow (w32 (g_xs G (i3 + 1).toNat)) v18 (fun r1365 v1365 =>
          (-2147483648 ≤ i3 + 1 ∧ i3 + 1 ≤ 2147483647) ∧
          (0 ≤ (i3 + 1) ∧ (i3 + 1) < (g_L G : Int)) ∧
          P_X11_grow (w32 (g_xs G (i3 + 1).toNat)) v1365 (fun r1374 v1374 =>
            ((r1365 = r1374) →
              (-2147483648 ≤ i3 + 6 ∧ i3 + 6 ≤ 2147483647) ∧
              X18 (i3 + 6) v1374) ∧
            ((¬ r1365 = r1374) →
              q 0 v1374)))) ∧
      (((i_and (w32 (g_xs G i3.toNat)) 63) = 42) →
        (-2147483648 ≤ i3 + 1 ∧ i3 + 1 ≤ 2147483647) ∧
        (0 ≤ (i3 + 1) ∧ (i3 + 1) < (g_L G : Int)) ∧
        P_X10_drop (w32 (g_xs G (i3 + 1).toNat)) v18 (fun r1388 v1388 =>
          (-2147483648 ≤ i3 + 1 ∧ i3 + 1 ≤ 2147483647) ∧
          (0 ≤ (i3 + 1) ∧ (i3 + 1) < (g_L G : Int)) ∧
          P_X11_drop (w32 (g_xs G (i3 + 1).toNat)) v1388 (fun r1397 v1397 =>
            ((r1388 = r1397) →
              (-2147483648 ≤ i3 + 6 ∧ i3 + 6 ≤ 2147483647) ∧
              X18 (i3 + 6) v1397) ∧
            ((¬ r1388 = r1397) →
              q 0 v1397)))) ∧
      (((i_and (w32 (g_xs G i3.toNat)) 63) = 43) →
        (-2147483648 ≤ i3 + 1 ∧ i3 + 1 ≤ 2147483647) ∧
        (0 ≤ (i3 + 1) ∧ (i3 + 1) < (g_L G : Int)) ∧
        P_X10_press (w32 (g_xs G (i3 + 1).toNat)) v18 (fun r1411 v1411 =>
          (-2147483648 ≤ i3 + 1 ∧ i3 + 1 ≤ 2147483647) ∧
          (0 ≤ (i3 + 1) ∧ (i3 + 1) < (g_L G : Int)) ∧
          P_X11_press (w32 (g_xs G (i3 + 1).toNat)) v1411 (fun r1420 v1420 =>
            ((r1411 = r1420) →
              (-2147483648 ≤ i3 + 6 ∧ i3 + 6 ≤ 2147483647) ∧
              X18 (i3 + 6) v1420) ∧
            ((¬ r1411 = r1420) →
              q 0 v1420)))) ∧
      (((i_and (w32 (g_xs G i3.toNat)) 63) = 44) →
        (-2147483648 ≤ i3 + 1 ∧ i3 + 1 ≤ 2147483647) ∧
        (0 ≤ (i3 + 1) ∧ (i3 + 1) < (g_L G : Int)) ∧
        (-2147483648 ≤ i3 + 2 ∧ i3 + 2 ≤ 2147483647) ∧
        (0 ≤ (i3 + 2) ∧ (i3 + 2) < (g_L G : Int)) ∧
        P_X10_open (w32 (g_xs G (i3 + 1).toNat)) (w32 (g_xs G (i3 + 2).toNat)) v18 (fun r1439 v1439 =>
          (-2147483648 ≤ i3 + 1 ∧ i3 + 1 ≤ 2147483647) ∧
          (0 ≤ (i3 + 1) ∧ (i3 + 1) < (g_L G : Int)) ∧
          (-2147483648 ≤ i3 + 2 ∧ i3 + 2 ≤ 2147483647) ∧
          (0 ≤ (i3 + 2) ∧ (i3 + 2) < (g_L G : Int)) ∧
          P_X11_open (w32 (g_xs G (i3 + 1).toNat)) (w32 (g_xs G (i3 + 2).toNat)) v1439 (fun r1453 v1453 =>
            ((r1439 = r1453) →
              (-2147483648 ≤ i3 + 6 ∧ i3 + 6 ≤ 2147483647) ∧
              X18 (i3 + 6) v1453) ∧
            ((¬ r1439 = r1453) →
              q 0 v1453)))) ∧
      (((i_and (w32 (g_xs G i3.toNat)) 63) = 45) →
        (-2147483648 ≤ i3 + 1 ∧ i3 + 1 ≤ 2147483647) ∧
        (0 ≤ (i3 + 1) ∧ (i3 + 1) < (g_L G : Int)) ∧
        P_X10_chance (w32 (g_xs G (i3 + 1).toNat)) v18 (fun r1467 v1467 =>
          (-2147483648 ≤ i3 + 1 ∧ i3 + 1 ≤ 2147483647) ∧
          (0 ≤ (i3 + 1) ∧ (i3 + 1) < (g_L G : Int)) ∧
          P_X11_chance (w32 (g_xs G (i3 + 1).toNat)) v1467 (fun r1476 v1476 =>
            ((r1467 = r1476) →
              (-2147483648 ≤ i3 + 6 ∧ i3 + 6 ≤ 2147483647) ∧
              X18 (i3 + 6) v1476) ∧
            ((¬ r1467 = r1476) →
              q 0 v1476)))) ∧
      (((i_and (w32 (g_xs G i3.toNat)) 63) = 46) →
        P_X10_undo  v18 (fun r1485 v1485 =>
          P_X11_undo  v1485 (fun r1489 v1489 =>
            ((r1485 = r1489) →
              (-2147483648 ≤ i3 + 6 ∧ i3 + 6 ≤ 2147483647) ∧
              X18 (i3 + 6) v1489) ∧
            ((¬ r1485 = r1489) →
              q 0 v1489)))) ∧
      (((i_and (w32 (g_xs G i3.toNat)) 63) = 47) →
        (-2147483648 ≤ i3 + 1 ∧ i3 + 1 ≤ 2147483647) ∧
        (0 ≤ (i3 + 1) ∧ (i3 + 1) < (g_L G : Int)) ∧
        P_X10_seed (w32 (g_xs G (i3 + 1).toNat)) v18 (fun r1503 v1503 =>
          (-2147483648 ≤ i3 + 1 ∧ i3 + 1 ≤ 2147483647) ∧
          (0 ≤ (i3 + 1) ∧ (i3 + 1) < (g_L G : Int)) ∧
          P_X11_seed (w32 (g_xs G (i3 + 1).toNat)) v1503 (fun r1512 v1512 =>
            ((r1503 = r1512) →
              (-2147483648 ≤ i3 + 6 ∧ i3 + 6 ≤ 2147483647) ∧
              X18 (i3 + 6) v1512) ∧
            ((¬ r1503 = r1512) →
              q 0 v1512)))) ∧
      (((i_and (w32 (g_xs G i3.toNat)) 63) = 48) →
        P_X10_image  v18 (fun r1521 v1521 =>
          P_X11_image  v1521 (fun r1525 v1525 =>
            ((r1521 = r1525) →
              (-2147483648 ≤ i3 + 6 ∧ i3 + 6 ≤ 2147483647) ∧
              X18 (i3 + 6) v1525) ∧
            ((¬ r1521 = r1525) →
              q 0 v1525)))) ∧
      (((i_and (w32 (g_xs G i3.toNat)) 63) = 49) →
        (-2147483648 ≤ i3 + 1 ∧ i3 + 1 ≤ 2147483647) ∧
        (0 ≤ (i3 + 1) ∧ (i3 + 1) < (g_L G : Int)) ∧
        P_X10_octet (w32 (g_xs G (i3 + 1).toNat)) v18 (fun r1539 =>
          (-2147483648 ≤ i3 + 1 ∧ i3 + 1 ≤ 2147483647) ∧
          (0 ≤ (i3 + 1) ∧ (i3 + 1) < (g_L G : Int)) ∧
          P_X11_octet (w32 (g_xs G (i3 + 1).toNat)) v18 (fun r1548 =>
            ((r1539 = r1548) →
              (-2147483648 ≤ i3 + 6 ∧ i3 + 6 ≤ 2147483647) ∧
              X18 (i3 + 6) v18) ∧
            ((¬ r1539 = r1548) →
              q 0 v18)))) ∧
      (((i_and (w32 (g_xs G i3.toNat)) 63) = 50) →
        P_X10_on  v18 (fun r1557 v1557 =>
          P_X11_on  v1557 (fun r1561 v1561 =>
            ((r1557 = r1561) →
              (-2147483648 ≤ i3 + 6 ∧ i3 + 6 ≤ 2147483647) ∧
              X18 (i3 + 6) v1561) ∧
            ((¬ r1557 = r1561) →
              q 0 v1561)))) ∧
      (((i_and (w32 (g_xs G i3.toNat)) 63) = 51) →
        (-2147483648 ≤ i3 + 1 ∧ i3 + 1 ≤ 2147483647) ∧
        (0 ≤ (i3 + 1) ∧ (i3 + 1) < (g_L G : Int)) ∧
        P_X10_status (w32 (g_xs G (i3 + 1).toNat)) v18 (fun r1575 =>
          (-2147483648 ≤ i3 + 1 ∧ i3 + 1 ≤ 2147483647) ∧
          (0 ≤ (i3 + 1) ∧ (i3 + 1) < (g_L G : Int)) ∧
          P_X11_status (w32 (g_xs G (i3 + 1).toNat)) v18 (fun r1584 =>
            ((r1575 = r1584) →
              (-2147483648 ≤ i3 + 6 ∧ i3 + 6 ≤ 2147483647) ∧
              X18 (i3 + 6) v18) ∧
            ((¬ r1575 = r1584) →
              q 0 v18)))) ∧
      (((i_and (w32 (g_xs G i3.toNat)) 63) < 0 ∨ 51 < (i_and (w32 (g_xs G i3.toNat)) 63)) →
        (-2147483648 ≤ i3 + 6 ∧ i3 + 6 ≤ 2147483647) ∧
        X18 (i3 + 6) v18))) → X18 i3 v18) →
  X18 0 v

