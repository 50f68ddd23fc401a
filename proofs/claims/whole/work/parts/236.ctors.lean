def SNX12_1 (S : List IK) (o : Nat) : List IK := S ++ [(0, 40, [])]
def SNX12_2 (S : List IK) (o : Nat) : List IK := (SNX12_1 S o).set o (14, 53, [none, some (some S.length), some none, none, some none, none, none, some none, none, none, none, some none, some none, some none, none, none, none, none, none, some none, some none, some none, some none, some none, some none, some none, some none, none, none, none, some none, none, none, none, none, none, none, some none, none, some none, some none, some none, some none, some none, some none, some none, some none, some none, some none, none, none, none, some none])
def SNX12_3 (S : List IK) (o : Nat) : List IK := (SNX12_2 S o) ++ [(0, 240, [])]
def SNX12_4 (S : List IK) (o : Nat) : List IK := (SNX12_3 S o).set o (14, 53, [none, some (some S.length), some (some (SNX12_2 S o).length), none, some none, none, none, some none, none, none, none, some none, some none, some none, none, none, none, none, none, some none, some none, some none, some none, some none, some none, some none, some none, none, none, none, some none, none, none, none, none, none, none, some none, none, some none, some none, some none, some none, some none, some none, some none, some none, some none, some none, none, none, none, some none])
def SNX12_5 (S : List IK) (o : Nat) : List IK := (SNX12_4 S o) ++ [(0, 40, [])]
def SNX12_6 (S : List IK) (o : Nat) : List IK := (SNX12_5 S o).set o (14, 53, [none, some (some S.length), some (some (SNX12_2 S o).length), none, some (some (SNX12_4 S o).length), none, none, some none, none, none, none, some none, some none, some none, none, none, none, none, none, some none, some none, some none, some none, some none, some none, some none, some none, none, none, none, some none, none, none, none, none, none, none, some none, none, some none, some none, some none, some none, some none, some none, some none, some none, some none, some none, none, none, none, some none])
def SNX12_7 (S : List IK) (o : Nat) : List IK := (SNX12_6 S o) ++ [(0, 10, [])]
def SNX12_8 (S : List IK) (o : Nat) : List IK := (SNX12_7 S o).set o (14, 53, [none, some (some S.length), some (some (SNX12_2 S o).length), none, some (some (SNX12_4 S o).length), none, none, some (some (SNX12_6 S o).length), none, none, none, some none, some none, some none, none, none, none, none, none, some none, some none, some none, some none, some none, some none, some none, some none, none, none, none, some none, none, none, none, none, none, none, some none, none, some none, some none, some none, some none, some none, some none, some none, some none, some none, some none, none, none, none, some none])
def SNX12_9 (S : List IK) (o : Nat) : List IK := (SNX12_8 S o) ++ [(0, 64, [])]
def SNX12_10 (S : List IK) (o : Nat) : List IK := (SNX12_9 S o).set o (14, 53, [none, some (some S.length), some (some (SNX12_2 S o).length), none, some (some (SNX12_4 S o).length), none, none, some (some (SNX12_6 S o).length), none, none, none, some (some (SNX12_8 S o).length), some none, some none, none, none, none, none, none, some none, some none, some none, some none, some none, some none, some none, some none, none, none, none, some none, none, none, none, none, none, none, some none, none, some none, some none, some none, some none, some none, some none, some none, some none, some none, some none, none, none, none, some none])
def SNX12_11 (S : List IK) (o : Nat) : List IK := (SNX12_10 S o) ++ [(0, 450, [])]
def SNX12_12 (S : List IK) (o : Nat) : List IK := (SNX12_11 S o).set o (14, 53, [none, some (some S.length), some (some (SNX12_2 S o).length), none, some (some (SNX12_4 S o).length), none, none, some (some (SNX12_6 S o).length), none, none, none, some (some (SNX12_8 S o).length), some (some (SNX12_10 S o).length), some none, none, none, none, none, none, some none, some none, some none, some none, some none, some none, some none, some none, none, none, none, some none, none, none, none, none, none, none, some none, none, some none, some none, some none, some none, some none, some none, some none, some none, some none, some none, none, none, none, some none])
def SNX12_13 (S : List IK) (o : Nat) : List IK := (SNX12_12 S o) ++ [(0, 400, [])]
def SNX12_14 (S : List IK) (o : Nat) : List IK := (SNX12_13 S o).set o (14, 53, [none, some (some S.length), some (some (SNX12_2 S o).length), none, some (some (SNX12_4 S o).length), none, none, some (some (SNX12_6 S o).length), none, none, none, some (some (SNX12_8 S o).length), some (some (SNX12_10 S o).length), some (some (SNX12_12 S o).length), none, none, none, none, none, some none, some none, some none, some none, some none, some none, some none, some none, none, none, none, some none, none, none, none, none, none, none, some none, none, some none, some none, some none, some none, some none, some none, some none, some none, some none, some none, none, none, none, some none])
def SNX12_15 (S : List IK) (o : Nat) : List IK := (SNX12_14 S o) ++ [(0, 104, [])]
def SNX12_16 (S : List IK) (o : Nat) : List IK := (SNX12_15 S o).set o (14, 53, [none, some (some S.length), some (some (SNX12_2 S o).length), none, some (some (SNX12_4 S o).length), none, none, some (some (SNX12_6 S o).length), none, none, none, some (some (SNX12_8 S o).length), some (some (SNX12_10 S o).length), some (some (SNX12_12 S o).length), none, none, none, none, none, some (some (SNX12_14 S o).length), some none, some none, some none, some none, some none, some none, some none, none, none, none, some none, none, none, none, none, none, none, some none, none, some none, some none, some none, some none, some none, some none, some none, some none, some none, some none, none, none, none, some none])
def SNX12_17 (S : List IK) (o : Nat) : List IK := (SNX12_16 S o) ++ [(0, 2, [])]
def SNX12_18 (S : List IK) (o : Nat) : List IK := (SNX12_17 S o).set o (14, 53, [none, some (some S.length), some (some (SNX12_2 S o).length), none, some (some (SNX12_4 S o).length), none, none, some (some (SNX12_6 S o).length), none, none, none, some (some (SNX12_8 S o).length), some (some (SNX12_10 S o).length), some (some (SNX12_12 S o).length), none, none, none, none, none, some (some (SNX12_14 S o).length), some (some (SNX12_16 S o).length), some none, some none, some none, some none, some none, some none, none, none, none, some none, none, none, none, none, none, none, some none, none, some none, some none, some none, some none, some none, some none, some none, some none, some none, some none, none, none, none, some none])
def SNX12_19 (S : List IK) (o : Nat) : List IK := (SNX12_18 S o) ++ [(0, 48, [])]
def SNX12_20 (S : List IK) (o : Nat) : List IK := (SNX12_19 S o).set o (14, 53, [none, some (some S.length), some (some (SNX12_2 S o).length), none, some (some (SNX12_4 S o).length), none, none, some (some (SNX12_6 S o).length), none, none, none, some (some (SNX12_8 S o).length), some (some (SNX12_10 S o).length), some (some (SNX12_12 S o).length), none, none, none, none, none, some (some (SNX12_14 S o).length), some (some (SNX12_16 S o).length), some (some (SNX12_18 S o).length), some none, some none, some none, some none, some none, none, none, none, some none, none, none, none, none, none, none, some none, none, some none, some none, some none, some none, some none, some none, some none, some none, some none, some none, none, none, none, some none])
def SNX12_21 (S : List IK) (o : Nat) : List IK := (SNX12_20 S o) ++ [(0, 48, [])]
def SNX12_22 (S : List IK) (o : Nat) : List IK := (SNX12_21 S o).set o (14, 53, [none, some (some S.length), some (some (SNX12_2 S o).length), none, some (some (SNX12_4 S o).length), none, none, some (some (SNX12_6 S o).length), none, none, none, some (some (SNX12_8 S o).length), some (some (SNX12_10 S o).length), some (some (SNX12_12 S o).length), none, none, none, none, none, some (some (SNX12_14 S o).length), some (some (SNX12_16 S o).length), some (some (SNX12_18 S o).length), some (some (SNX12_20 S o).length), some none, some none, some none, some none, none, none, none, some none, none, none, none, none, none, none, some none, none, some none, some none, some none, some none, some none, some none, some none, some none, some none, some none, none, none, none, some none])
def SNX12_23 (S : List IK) (o : Nat) : List IK := (SNX12_22 S o) ++ [(0, 48, [])]
def SNX12_24 (S : List IK) (o : Nat) : List IK := (SNX12_23 S o).set o (14, 53, [none, some (some S.length), some (some (SNX12_2 S o).length), none, some (some (SNX12_4 S o).length), none, none, some (some (SNX12_6 S o).length), none, none, none, some (some (SNX12_8 S o).length), some (some (SNX12_10 S o).length), some (some (SNX12_12 S o).length), none, none, none, none, none, some (some (SNX12_14 S o).length), some (some (SNX12_16 S o).length), some (some (SNX12_18 S o).length), some (some (SNX12_20 S o).length), some (some (SNX12_22 S o).length), some none, some none, some none, none, none, none, some none, none, none, none, none, none, none, some none, none, some none, some none, some none, some none, some none, some none, some none, some none, some none, some none, none, none, none, some none])
def SNX12_25 (S : List IK) (o : Nat) : List IK := (SNX12_24 S o) ++ [(0, 48, [])]
def SNX12_26 (S : List IK) (o : Nat) : List IK := (SNX12_25 S o).set o (14, 53, [none, some (some S.length), some (some (SNX12_2 S o).length), none, some (some (SNX12_4 S o).length), none, none, some (some (SNX12_6 S o).length), none, none, none, some (some (SNX12_8 S o).length), some (some (SNX12_10 S o).length), some (some (SNX12_12 S o).length), none, none, none, none, none, some (some (SNX12_14 S o).length), some (some (SNX12_16 S o).length), some (some (SNX12_18 S o).length), some (some (SNX12_20 S o).length), some (some (SNX12_22 S o).length), some (some (SNX12_24 S o).length), some none, some none, none, none, none, some none, none, none, none, none, none, none, some none, none, some none, some none, some none, some none, some none, some none, some none, some none, some none, some none, none, none, none, some none])
def SNX12_27 (S : List IK) (o : Nat) : List IK := (SNX12_26 S o) ++ [(0, 1200, [])]
def SNX12_28 (S : List IK) (o : Nat) : List IK := (SNX12_27 S o).set o (14, 53, [none, some (some S.length), some (some (SNX12_2 S o).length), none, some (some (SNX12_4 S o).length), none, none, some (some (SNX12_6 S o).length), none, none, none, some (some (SNX12_8 S o).length), some (some (SNX12_10 S o).length), some (some (SNX12_12 S o).length), none, none, none, none, none, some (some (SNX12_14 S o).length), some (some (SNX12_16 S o).length), some (some (SNX12_18 S o).length), some (some (SNX12_20 S o).length), some (some (SNX12_22 S o).length), some (some (SNX12_24 S o).length), some (some (SNX12_26 S o).length), some none, none, none, none, some none, none, none, none, none, none, none, some none, none, some none, some none, some none, some none, some none, some none, some none, some none, some none, some none, none, none, none, some none])
def SNX12_29 (S : List IK) (o : Nat) : List IK := (SNX12_28 S o) ++ [(0, 1200, [])]
def SNX12_30 (S : List IK) (o : Nat) : List IK := (SNX12_29 S o).set o (14, 53, [none, some (some S.length), some (some (SNX12_2 S o).length), none, some (some (SNX12_4 S o).length), none, none, some (some (SNX12_6 S o).length), none, none, none, some (some (SNX12_8 S o).length), some (some (SNX12_10 S o).length), some (some (SNX12_12 S o).length), none, none, none, none, none, some (some (SNX12_14 S o).length), some (some (SNX12_16 S o).length), some (some (SNX12_18 S o).length), some (some (SNX12_20 S o).length), some (some (SNX12_22 S o).length), some (some (SNX12_24 S o).length), some (some (SNX12_26 S o).length), some (some (SNX12_28 S o).length), none, none, none, some none, none, none, none, none, none, none, some none, none, some none, some none, some none, some none, some none, some none, some none, some none, some none, some none, none, none, none, some none])
def SNX12_31 (S : List IK) (o : Nat) : List IK := (SNX12_30 S o) ++ [(0, 40, [])]
def SNX12_32 (S : List IK) (o : Nat) : List IK := (SNX12_31 S o).set o (14, 53, [none, some (some S.length), some (some (SNX12_2 S o).length), none, some (some (SNX12_4 S o).length), none, none, some (some (SNX12_6 S o).length), none, none, none, some (some (SNX12_8 S o).length), some (some (SNX12_10 S o).length), some (some (SNX12_12 S o).length), none, none, none, none, none, some (some (SNX12_14 S o).length), some (some (SNX12_16 S o).length), some (some (SNX12_18 S o).length), some (some (SNX12_20 S o).length), some (some (SNX12_22 S o).length), some (some (SNX12_24 S o).length), some (some (SNX12_26 S o).length), some (some (SNX12_28 S o).length), none, none, none, some (some (SNX12_30 S o).length), none, none, none, none, none, none, some none, none, some none, some none, some none, some none, some none, some none, some none, some none, some none, some none, none, none, none, some none])
def SNX12_33 (S : List IK) (o : Nat) : List IK := (SNX12_32 S o) ++ [(0, 64, [])]
def SNX12_34 (S : List IK) (o : Nat) : List IK := (SNX12_33 S o).set o (14, 53, [none, some (some S.length), some (some (SNX12_2 S o).length), none, some (some (SNX12_4 S o).length), none, none, some (some (SNX12_6 S o).length), none, none, none, some (some (SNX12_8 S o).length), some (some (SNX12_10 S o).length), some (some (SNX12_12 S o).length), none, none, none, none, none, some (some (SNX12_14 S o).length), some (some (SNX12_16 S o).length), some (some (SNX12_18 S o).length), some (some (SNX12_20 S o).length), some (some (SNX12_22 S o).length), some (some (SNX12_24 S o).length), some (some (SNX12_26 S o).length), some (some (SNX12_28 S o).length), none, none, none, some (some (SNX12_30 S o).length), none, none, none, none, none, none, some (some (SNX12_32 S o).length), none, some none, some none, some none, some none, some none, some none, some none, some none, some none, some none, none, none, none, some none])
def SNX12_35 (S : List IK) (o : Nat) : List IK := (SNX12_34 S o) ++ [(0, 96, [])]
def SNX12_36 (S : List IK) (o : Nat) : List IK := (SNX12_35 S o).set o (14, 53, [none, some (some S.length), some (some (SNX12_2 S o).length), none, some (some (SNX12_4 S o).length), none, none, some (some (SNX12_6 S o).length), none, none, none, some (some (SNX12_8 S o).length), some (some (SNX12_10 S o).length), some (some (SNX12_12 S o).length), none, none, none, none, none, some (some (SNX12_14 S o).length), some (some (SNX12_16 S o).length), some (some (SNX12_18 S o).length), some (some (SNX12_20 S o).length), some (some (SNX12_22 S o).length), some (some (SNX12_24 S o).length), some (some (SNX12_26 S o).length), some (some (SNX12_28 S o).length), none, none, none, some (some (SNX12_30 S o).length), none, none, none, none, none, none, some (some (SNX12_32 S o).length), none, some (some (SNX12_34 S o).length), some none, some none, some none, some none, some none, some none, some none, some none, some none, none, none, none, some none])
def SNX12_37 (S : List IK) (o : Nat) : List IK := (SNX12_36 S o) ++ [(0, 9, [])]
def SNX12_38 (S : List IK) (o : Nat) : List IK := (SNX12_37 S o).set o (14, 53, [none, some (some S.length), some (some (SNX12_2 S o).length), none, some (some (SNX12_4 S o).length), none, none, some (some (SNX12_6 S o).length), none, none, none, some (some (SNX12_8 S o).length), some (some (SNX12_10 S o).length), some (some (SNX12_12 S o).length), none, none, none, none, none, some (some (SNX12_14 S o).length), some (some (SNX12_16 S o).length), some (some (SNX12_18 S o).length), some (some (SNX12_20 S o).length), some (some (SNX12_22 S o).length), some (some (SNX12_24 S o).length), some (some (SNX12_26 S o).length), some (some (SNX12_28 S o).length), none, none, none, some (some (SNX12_30 S o).length), none, none, none, none, none, none, some (some (SNX12_32 S o).length), none, some (some (SNX12_34 S o).length), some (some (SNX12_36 S o).length), some none, some none, some none, some none, some none, some none, some none, some none, none, none, none, some none])
def SNX12_39 (S : List IK) (o : Nat) : List IK := (SNX12_38 S o) ++ [(0, 420, [])]
def SNX12_40 (S : List IK) (o : Nat) : List IK := (SNX12_39 S o).set o (14, 53, [none, some (some S.length), some (some (SNX12_2 S o).length), none, some (some (SNX12_4 S o).length), none, none, some (some (SNX12_6 S o).length), none, none, none, some (some (SNX12_8 S o).length), some (some (SNX12_10 S o).length), some (some (SNX12_12 S o).length), none, none, none, none, none, some (some (SNX12_14 S o).length), some (some (SNX12_16 S o).length), some (some (SNX12_18 S o).length), some (some (SNX12_20 S o).length), some (some (SNX12_22 S o).length), some (some (SNX12_24 S o).length), some (some (SNX12_26 S o).length), some (some (SNX12_28 S o).length), none, none, none, some (some (SNX12_30 S o).length), none, none, none, none, none, none, some (some (SNX12_32 S o).length), none, some (some (SNX12_34 S o).length), some (some (SNX12_36 S o).length), some (some (SNX12_38 S o).length), some none, some none, some none, some none, some none, some none, some none, none, none, none, some none])
def SNX12_41 (S : List IK) (o : Nat) : List IK := (SNX12_40 S o) ++ [(0, 10, [])]
def SNX12_42 (S : List IK) (o : Nat) : List IK := (SNX12_41 S o).set o (14, 53, [none, some (some S.length), some (some (SNX12_2 S o).length), none, some (some (SNX12_4 S o).length), none, none, some (some (SNX12_6 S o).length), none, none, none, some (some (SNX12_8 S o).length), some (some (SNX12_10 S o).length), some (some (SNX12_12 S o).length), none, none, none, none, none, some (some (SNX12_14 S o).length), some (some (SNX12_16 S o).length), some (some (SNX12_18 S o).length), some (some (SNX12_20 S o).length), some (some (SNX12_22 S o).length), some (some (SNX12_24 S o).length), some (some (SNX12_26 S o).length), some (some (SNX12_28 S o).length), none, none, none, some (some (SNX12_30 S o).length), none, none, none, none, none, none, some (some (SNX12_32 S o).length), none, some (some (SNX12_34 S o).length), some (some (SNX12_36 S o).length), some (some (SNX12_38 S o).length), some (some (SNX12_40 S o).length), some none, some none, some none, some none, some none, some none, none, none, none, some none])
def SNX12_43 (S : List IK) (o : Nat) : List IK := (SNX12_42 S o) ++ [(0, 16, [])]
def SNX12_44 (S : List IK) (o : Nat) : List IK := (SNX12_43 S o).set o (14, 53, [none, some (some S.length), some (some (SNX12_2 S o).length), none, some (some (SNX12_4 S o).length), none, none, some (some (SNX12_6 S o).length), none, none, none, some (some (SNX12_8 S o).length), some (some (SNX12_10 S o).length), some (some (SNX12_12 S o).length), none, none, none, none, none, some (some (SNX12_14 S o).length), some (some (SNX12_16 S o).length), some (some (SNX12_18 S o).length), some (some (SNX12_20 S o).length), some (some (SNX12_22 S o).length), some (some (SNX12_24 S o).length), some (some (SNX12_26 S o).length), some (some (SNX12_28 S o).length), none, none, none, some (some (SNX12_30 S o).length), none, none, none, none, none, none, some (some (SNX12_32 S o).length), none, some (some (SNX12_34 S o).length), some (some (SNX12_36 S o).length), some (some (SNX12_38 S o).length), some (some (SNX12_40 S o).length), some (some (SNX12_42 S o).length), some none, some none, some none, some none, some none, none, none, none, some none])
def SNX12_45 (S : List IK) (o : Nat) : List IK := (SNX12_44 S o) ++ [(0, 161051, [])]
def SNX12_46 (S : List IK) (o : Nat) : List IK := (SNX12_45 S o).set o (14, 53, [none, some (some S.length), some (some (SNX12_2 S o).length), none, some (some (SNX12_4 S o).length), none, none, some (some (SNX12_6 S o).length), none, none, none, some (some (SNX12_8 S o).length), some (some (SNX12_10 S o).length), some (some (SNX12_12 S o).length), none, none, none, none, none, some (some (SNX12_14 S o).length), some (some (SNX12_16 S o).length), some (some (SNX12_18 S o).length), some (some (SNX12_20 S o).length), some (some (SNX12_22 S o).length), some (some (SNX12_24 S o).length), some (some (SNX12_26 S o).length), some (some (SNX12_28 S o).length), none, none, none, some (some (SNX12_30 S o).length), none, none, none, none, none, none, some (some (SNX12_32 S o).length), none, some (some (SNX12_34 S o).length), some (some (SNX12_36 S o).length), some (some (SNX12_38 S o).length), some (some (SNX12_40 S o).length), some (some (SNX12_42 S o).length), some (some (SNX12_44 S o).length), some none, some none, some none, some none, none, none, none, some none])
def SNX12_47 (S : List IK) (o : Nat) : List IK := (SNX12_46 S o) ++ [(0, 40, [])]
def SNX12_48 (S : List IK) (o : Nat) : List IK := (SNX12_47 S o).set o (14, 53, [none, some (some S.length), some (some (SNX12_2 S o).length), none, some (some (SNX12_4 S o).length), none, none, some (some (SNX12_6 S o).length), none, none, none, some (some (SNX12_8 S o).length), some (some (SNX12_10 S o).length), some (some (SNX12_12 S o).length), none, none, none, none, none, some (some (SNX12_14 S o).length), some (some (SNX12_16 S o).length), some (some (SNX12_18 S o).length), some (some (SNX12_20 S o).length), some (some (SNX12_22 S o).length), some (some (SNX12_24 S o).length), some (some (SNX12_26 S o).length), some (some (SNX12_28 S o).length), none, none, none, some (some (SNX12_30 S o).length), none, none, none, none, none, none, some (some (SNX12_32 S o).length), none, some (some (SNX12_34 S o).length), some (some (SNX12_36 S o).length), some (some (SNX12_38 S o).length), some (some (SNX12_40 S o).length), some (some (SNX12_42 S o).length), some (some (SNX12_44 S o).length), some (some (SNX12_46 S o).length), some none, some none, some none, none, none, none, some none])
def SNX12_49 (S : List IK) (o : Nat) : List IK := (SNX12_48 S o) ++ [(0, 2048, [])]
def SNX12_50 (S : List IK) (o : Nat) : List IK := (SNX12_49 S o).set o (14, 53, [none, some (some S.length), some (some (SNX12_2 S o).length), none, some (some (SNX12_4 S o).length), none, none, some (some (SNX12_6 S o).length), none, none, none, some (some (SNX12_8 S o).length), some (some (SNX12_10 S o).length), some (some (SNX12_12 S o).length), none, none, none, none, none, some (some (SNX12_14 S o).length), some (some (SNX12_16 S o).length), some (some (SNX12_18 S o).length), some (some (SNX12_20 S o).length), some (some (SNX12_22 S o).length), some (some (SNX12_24 S o).length), some (some (SNX12_26 S o).length), some (some (SNX12_28 S o).length), none, none, none, some (some (SNX12_30 S o).length), none, none, none, none, none, none, some (some (SNX12_32 S o).length), none, some (some (SNX12_34 S o).length), some (some (SNX12_36 S o).length), some (some (SNX12_38 S o).length), some (some (SNX12_40 S o).length), some (some (SNX12_42 S o).length), some (some (SNX12_44 S o).length), some (some (SNX12_46 S o).length), some (some (SNX12_48 S o).length), some none, some none, none, none, none, some none])
def SNX12_51 (S : List IK) (o : Nat) : List IK := (SNX12_50 S o) ++ [(0, 13, [])]
def SNX12_52 (S : List IK) (o : Nat) : List IK := (SNX12_51 S o).set o (14, 53, [none, some (some S.length), some (some (SNX12_2 S o).length), none, some (some (SNX12_4 S o).length), none, none, some (some (SNX12_6 S o).length), none, none, none, some (some (SNX12_8 S o).length), some (some (SNX12_10 S o).length), some (some (SNX12_12 S o).length), none, none, none, none, none, some (some (SNX12_14 S o).length), some (some (SNX12_16 S o).length), some (some (SNX12_18 S o).length), some (some (SNX12_20 S o).length), some (some (SNX12_22 S o).length), some (some (SNX12_24 S o).length), some (some (SNX12_26 S o).length), some (some (SNX12_28 S o).length), none, none, none, some (some (SNX12_30 S o).length), none, none, none, none, none, none, some (some (SNX12_32 S o).length), none, some (some (SNX12_34 S o).length), some (some (SNX12_36 S o).length), some (some (SNX12_38 S o).length), some (some (SNX12_40 S o).length), some (some (SNX12_42 S o).length), some (some (SNX12_44 S o).length), some (some (SNX12_46 S o).length), some (some (SNX12_48 S o).length), some (some (SNX12_50 S o).length), some none, none, none, none, some none])
def SNX12_53 (S : List IK) (o : Nat) : List IK := (SNX12_52 S o) ++ [(0, 10, [])]
def SNX12_54 (S : List IK) (o : Nat) : List IK := (SNX12_53 S o).set o (14, 53, [none, some (some S.length), some (some (SNX12_2 S o).length), none, some (some (SNX12_4 S o).length), none, none, some (some (SNX12_6 S o).length), none, none, none, some (some (SNX12_8 S o).length), some (some (SNX12_10 S o).length), some (some (SNX12_12 S o).length), none, none, none, none, none, some (some (SNX12_14 S o).length), some (some (SNX12_16 S o).length), some (some (SNX12_18 S o).length), some (some (SNX12_20 S o).length), some (some (SNX12_22 S o).length), some (some (SNX12_24 S o).length), some (some (SNX12_26 S o).length), some (some (SNX12_28 S o).length), none, none, none, some (some (SNX12_30 S o).length), none, none, none, none, none, none, some (some (SNX12_32 S o).length), none, some (some (SNX12_34 S o).length), some (some (SNX12_36 S o).length), some (some (SNX12_38 S o).length), some (some (SNX12_40 S o).length), some (some (SNX12_42 S o).length), some (some (SNX12_44 S o).length), some (some (SNX12_46 S o).length), some (some (SNX12_48 S o).length), some (some (SNX12_50 S o).length), some (some (SNX12_52 S o).length), none, none, none, some none])
def SNX12_55 (S : List IK) (o : Nat) : List IK := (SNX12_54 S o) ++ [(0, 2500, [])]
def SNX12_56 (S : List IK) (o : Nat) : List IK := (SNX12_55 S o).set o (14, 53, [none, some (some S.length), some (some (SNX12_2 S o).length), none, some (some (SNX12_4 S o).length), none, none, some (some (SNX12_6 S o).length), none, none, none, some (some (SNX12_8 S o).length), some (some (SNX12_10 S o).length), some (some (SNX12_12 S o).length), none, none, none, none, none, some (some (SNX12_14 S o).length), some (some (SNX12_16 S o).length), some (some (SNX12_18 S o).length), some (some (SNX12_20 S o).length), some (some (SNX12_22 S o).length), some (some (SNX12_24 S o).length), some (some (SNX12_26 S o).length), some (some (SNX12_28 S o).length), none, none, none, some (some (SNX12_30 S o).length), none, none, none, none, none, none, some (some (SNX12_32 S o).length), none, some (some (SNX12_34 S o).length), some (some (SNX12_36 S o).length), some (some (SNX12_38 S o).length), some (some (SNX12_40 S o).length), some (some (SNX12_42 S o).length), some (some (SNX12_44 S o).length), some (some (SNX12_46 S o).length), some (some (SNX12_48 S o).length), some (some (SNX12_50 S o).length), some (some (SNX12_52 S o).length), none, none, none, some (some (SNX12_54 S o).length)])
def SNX12 (S : List IK) (o : Nat) : List IK := (SNX12_56 S o)
def MNX12_1 (S : List IK) (M : IM) (o : Nat) : IM := ms M (SNX12_14 S o).length 0 32
def MNX12_2 (S : List IK) (M : IM) (o : Nat) : IM := ms (MNX12_1 S M o) (SNX12_14 S o).length 1 103
def MNX12_3 (S : List IK) (M : IM) (o : Nat) : IM := ms (MNX12_2 S M o) (SNX12_14 S o).length 2 111
def MNX12_4 (S : List IK) (M : IM) (o : Nat) : IM := ms (MNX12_3 S M o) (SNX12_14 S o).length 3 32
def MNX12_5 (S : List IK) (M : IM) (o : Nat) : IM := ms (MNX12_4 S M o) (SNX12_14 S o).length 4 115
def MNX12_6 (S : List IK) (M : IM) (o : Nat) : IM := ms (MNX12_5 S M o) (SNX12_14 S o).length 5 116
def MNX12_7 (S : List IK) (M : IM) (o : Nat) : IM := ms (MNX12_6 S M o) (SNX12_14 S o).length 6 97
def MNX12_8 (S : List IK) (M : IM) (o : Nat) : IM := ms (MNX12_7 S M o) (SNX12_14 S o).length 7 121
def MNX12_9 (S : List IK) (M : IM) (o : Nat) : IM := ms (MNX12_8 S M o) (SNX12_14 S o).length 8 32
def MNX12_10 (S : List IK) (M : IM) (o : Nat) : IM := ms (MNX12_9 S M o) (SNX12_14 S o).length 9 116
def MNX12_11 (S : List IK) (M : IM) (o : Nat) : IM := ms (MNX12_10 S M o) (SNX12_14 S o).length 10 105
def MNX12_12 (S : List IK) (M : IM) (o : Nat) : IM := ms (MNX12_11 S M o) (SNX12_14 S o).length 11 114
def MNX12_13 (S : List IK) (M : IM) (o : Nat) : IM := ms (MNX12_12 S M o) (SNX12_14 S o).length 12 101
def MNX12_14 (S : List IK) (M : IM) (o : Nat) : IM := ms (MNX12_13 S M o) (SNX12_14 S o).length 13 32
def MNX12_15 (S : List IK) (M : IM) (o : Nat) : IM := ms (MNX12_14 S M o) (SNX12_14 S o).length 14 101
def MNX12_16 (S : List IK) (M : IM) (o : Nat) : IM := ms (MNX12_15 S M o) (SNX12_14 S o).length 15 97
def MNX12_17 (S : List IK) (M : IM) (o : Nat) : IM := ms (MNX12_16 S M o) (SNX12_14 S o).length 16 115
def MNX12_18 (S : List IK) (M : IM) (o : Nat) : IM := ms (MNX12_17 S M o) (SNX12_14 S o).length 17 101
def MNX12_19 (S : List IK) (M : IM) (o : Nat) : IM := ms (MNX12_18 S M o) (SNX12_14 S o).length 18 32
def MNX12_20 (S : List IK) (M : IM) (o : Nat) : IM := ms (MNX12_19 S M o) (SNX12_14 S o).length 19 101
def MNX12_21 (S : List IK) (M : IM) (o : Nat) : IM := ms (MNX12_20 S M o) (SNX12_14 S o).length 20 97
def MNX12_22 (S : List IK) (M : IM) (o : Nat) : IM := ms (MNX12_21 S M o) (SNX12_14 S o).length 21 116
def MNX12_23 (S : List IK) (M : IM) (o : Nat) : IM := ms (MNX12_22 S M o) (SNX12_14 S o).length 22 32
def MNX12_24 (S : List IK) (M : IM) (o : Nat) : IM := ms (MNX12_23 S M o) (SNX12_14 S o).length 23 119
def MNX12_25 (S : List IK) (M : IM) (o : Nat) : IM := ms (MNX12_24 S M o) (SNX12_14 S o).length 24 104
def MNX12_26 (S : List IK) (M : IM) (o : Nat) : IM := ms (MNX12_25 S M o) (SNX12_14 S o).length 25 101
def MNX12_27 (S : List IK) (M : IM) (o : Nat) : IM := ms (MNX12_26 S M o) (SNX12_14 S o).length 26 110
def MNX12_28 (S : List IK) (M : IM) (o : Nat) : IM := ms (MNX12_27 S M o) (SNX12_14 S o).length 27 32
def MNX12_29 (S : List IK) (M : IM) (o : Nat) : IM := ms (MNX12_28 S M o) (SNX12_14 S o).length 28 111
def MNX12_30 (S : List IK) (M : IM) (o : Nat) : IM := ms (MNX12_29 S M o) (SNX12_14 S o).length 29 114
def MNX12_31 (S : List IK) (M : IM) (o : Nat) : IM := ms (MNX12_30 S M o) (SNX12_14 S o).length 30 32
def MNX12_32 (S : List IK) (M : IM) (o : Nat) : IM := ms (MNX12_31 S M o) (SNX12_14 S o).length 31 97
def MNX12_33 (S : List IK) (M : IM) (o : Nat) : IM := ms (MNX12_32 S M o) (SNX12_14 S o).length 32 110
def MNX12_34 (S : List IK) (M : IM) (o : Nat) : IM := ms (MNX12_33 S M o) (SNX12_14 S o).length 33 100
def MNX12_35 (S : List IK) (M : IM) (o : Nat) : IM := ms (MNX12_34 S M o) (SNX12_14 S o).length 34 32
def MNX12_36 (S : List IK) (M : IM) (o : Nat) : IM := ms (MNX12_35 S M o) (SNX12_14 S o).length 35 110
def MNX12_37 (S : List IK) (M : IM) (o : Nat) : IM := ms (MNX12_36 S M o) (SNX12_14 S o).length 36 111
def MNX12_38 (S : List IK) (M : IM) (o : Nat) : IM := ms (MNX12_37 S M o) (SNX12_14 S o).length 37 116
def MNX12_39 (S : List IK) (M : IM) (o : Nat) : IM := ms (MNX12_38 S M o) (SNX12_14 S o).length 38 32
def MNX12_40 (S : List IK) (M : IM) (o : Nat) : IM := ms (MNX12_39 S M o) (SNX12_14 S o).length 39 102
def MNX12_41 (S : List IK) (M : IM) (o : Nat) : IM := ms (MNX12_40 S M o) (SNX12_14 S o).length 40 101
def MNX12_42 (S : List IK) (M : IM) (o : Nat) : IM := ms (MNX12_41 S M o) (SNX12_14 S o).length 41 101
def MNX12_43 (S : List IK) (M : IM) (o : Nat) : IM := ms (MNX12_42 S M o) (SNX12_14 S o).length 42 116
def MNX12_44 (S : List IK) (M : IM) (o : Nat) : IM := ms (MNX12_43 S M o) (SNX12_14 S o).length 43 32
def MNX12_45 (S : List IK) (M : IM) (o : Nat) : IM := ms (MNX12_44 S M o) (SNX12_14 S o).length 44 114
def MNX12_46 (S : List IK) (M : IM) (o : Nat) : IM := ms (MNX12_45 S M o) (SNX12_14 S o).length 45 111
def MNX12_47 (S : List IK) (M : IM) (o : Nat) : IM := ms (MNX12_46 S M o) (SNX12_14 S o).length 46 119
def MNX12_48 (S : List IK) (M : IM) (o : Nat) : IM := ms (MNX12_47 S M o) (SNX12_14 S o).length 47 32
def MNX12_49 (S : List IK) (M : IM) (o : Nat) : IM := ms (MNX12_48 S M o) (SNX12_14 S o).length 48 108
def MNX12_50 (S : List IK) (M : IM) (o : Nat) : IM := ms (MNX12_49 S M o) (SNX12_14 S o).length 49 97
def MNX12_51 (S : List IK) (M : IM) (o : Nat) : IM := ms (MNX12_50 S M o) (SNX12_14 S o).length 50 109
def MNX12_52 (S : List IK) (M : IM) (o : Nat) : IM := ms (MNX12_51 S M o) (SNX12_14 S o).length 51 101
def MNX12_53 (S : List IK) (M : IM) (o : Nat) : IM := ms (MNX12_52 S M o) (SNX12_14 S o).length 52 32
def MNX12_54 (S : List IK) (M : IM) (o : Nat) : IM := ms (MNX12_53 S M o) (SNX12_14 S o).length 53 99
def MNX12_55 (S : List IK) (M : IM) (o : Nat) : IM := ms (MNX12_54 S M o) (SNX12_14 S o).length 54 108
def MNX12_56 (S : List IK) (M : IM) (o : Nat) : IM := ms (MNX12_55 S M o) (SNX12_14 S o).length 55 111
def MNX12_57 (S : List IK) (M : IM) (o : Nat) : IM := ms (MNX12_56 S M o) (SNX12_14 S o).length 56 99
def MNX12_58 (S : List IK) (M : IM) (o : Nat) : IM := ms (MNX12_57 S M o) (SNX12_14 S o).length 57 107
def MNX12_59 (S : List IK) (M : IM) (o : Nat) : IM := ms (MNX12_58 S M o) (SNX12_14 S o).length 58 32
def MNX12_60 (S : List IK) (M : IM) (o : Nat) : IM := ms (MNX12_59 S M o) (SNX12_14 S o).length 59 100
def MNX12_61 (S : List IK) (M : IM) (o : Nat) : IM := ms (MNX12_60 S M o) (SNX12_14 S o).length 60 97
def MNX12_62 (S : List IK) (M : IM) (o : Nat) : IM := ms (MNX12_61 S M o) (SNX12_14 S o).length 61 121
def MNX12_63 (S : List IK) (M : IM) (o : Nat) : IM := ms (MNX12_62 S M o) (SNX12_14 S o).length 62 32
def MNX12_64 (S : List IK) (M : IM) (o : Nat) : IM := ms (MNX12_63 S M o) (SNX12_14 S o).length 63 111
def MNX12_65 (S : List IK) (M : IM) (o : Nat) : IM := ms (MNX12_64 S M o) (SNX12_14 S o).length 64 119
def MNX12_66 (S : List IK) (M : IM) (o : Nat) : IM := ms (MNX12_65 S M o) (SNX12_14 S o).length 65 110
def MNX12_67 (S : List IK) (M : IM) (o : Nat) : IM := ms (MNX12_66 S M o) (SNX12_14 S o).length 66 32
def MNX12_68 (S : List IK) (M : IM) (o : Nat) : IM := ms (MNX12_67 S M o) (SNX12_14 S o).length 67 108
def MNX12_69 (S : List IK) (M : IM) (o : Nat) : IM := ms (MNX12_68 S M o) (SNX12_14 S o).length 68 101
def MNX12_70 (S : List IK) (M : IM) (o : Nat) : IM := ms (MNX12_69 S M o) (SNX12_14 S o).length 69 103
def MNX12_71 (S : List IK) (M : IM) (o : Nat) : IM := ms (MNX12_70 S M o) (SNX12_14 S o).length 70 32
def MNX12_72 (S : List IK) (M : IM) (o : Nat) : IM := ms (MNX12_71 S M o) (SNX12_14 S o).length 71 114
def MNX12_73 (S : List IK) (M : IM) (o : Nat) : IM := ms (MNX12_72 S M o) (SNX12_14 S o).length 72 105
def MNX12_74 (S : List IK) (M : IM) (o : Nat) : IM := ms (MNX12_73 S M o) (SNX12_14 S o).length 73 118
def MNX12_75 (S : List IK) (M : IM) (o : Nat) : IM := ms (MNX12_74 S M o) (SNX12_14 S o).length 74 101
def MNX12_76 (S : List IK) (M : IM) (o : Nat) : IM := ms (MNX12_75 S M o) (SNX12_14 S o).length 75 114
def MNX12_77 (S : List IK) (M : IM) (o : Nat) : IM := ms (MNX12_76 S M o) (SNX12_14 S o).length 76 32
def MNX12_78 (S : List IK) (M : IM) (o : Nat) : IM := ms (MNX12_77 S M o) (SNX12_14 S o).length 77 102
def MNX12_79 (S : List IK) (M : IM) (o : Nat) : IM := ms (MNX12_78 S M o) (SNX12_14 S o).length 78 111
def MNX12_80 (S : List IK) (M : IM) (o : Nat) : IM := ms (MNX12_79 S M o) (SNX12_14 S o).length 79 111
def MNX12_81 (S : List IK) (M : IM) (o : Nat) : IM := ms (MNX12_80 S M o) (SNX12_14 S o).length 80 100
def MNX12_82 (S : List IK) (M : IM) (o : Nat) : IM := ms (MNX12_81 S M o) (SNX12_14 S o).length 81 32
def MNX12_83 (S : List IK) (M : IM) (o : Nat) : IM := ms (MNX12_82 S M o) (SNX12_14 S o).length 82 115
def MNX12_84 (S : List IK) (M : IM) (o : Nat) : IM := ms (MNX12_83 S M o) (SNX12_14 S o).length 83 116
def MNX12_85 (S : List IK) (M : IM) (o : Nat) : IM := ms (MNX12_84 S M o) (SNX12_14 S o).length 84 111
def MNX12_86 (S : List IK) (M : IM) (o : Nat) : IM := ms (MNX12_85 S M o) (SNX12_14 S o).length 85 110
def MNX12_87 (S : List IK) (M : IM) (o : Nat) : IM := ms (MNX12_86 S M o) (SNX12_14 S o).length 86 101
def MNX12_88 (S : List IK) (M : IM) (o : Nat) : IM := ms (MNX12_87 S M o) (SNX12_14 S o).length 87 32
def MNX12_89 (S : List IK) (M : IM) (o : Nat) : IM := ms (MNX12_88 S M o) (SNX12_14 S o).length 88 102
def MNX12_90 (S : List IK) (M : IM) (o : Nat) : IM := ms (MNX12_89 S M o) (SNX12_14 S o).length 89 111
def MNX12_91 (S : List IK) (M : IM) (o : Nat) : IM := ms (MNX12_90 S M o) (SNX12_14 S o).length 90 114
def MNX12_92 (S : List IK) (M : IM) (o : Nat) : IM := ms (MNX12_91 S M o) (SNX12_14 S o).length 91 32
def MNX12_93 (S : List IK) (M : IM) (o : Nat) : IM := ms (MNX12_92 S M o) (SNX12_14 S o).length 92 119
def MNX12_94 (S : List IK) (M : IM) (o : Nat) : IM := ms (MNX12_93 S M o) (SNX12_14 S o).length 93 97
def MNX12_95 (S : List IK) (M : IM) (o : Nat) : IM := ms (MNX12_94 S M o) (SNX12_14 S o).length 94 108
def MNX12_96 (S : List IK) (M : IM) (o : Nat) : IM := ms (MNX12_95 S M o) (SNX12_14 S o).length 95 107
def MNX12_97 (S : List IK) (M : IM) (o : Nat) : IM := ms (MNX12_96 S M o) (SNX12_14 S o).length 96 101
def MNX12_98 (S : List IK) (M : IM) (o : Nat) : IM := ms (MNX12_97 S M o) (SNX12_14 S o).length 97 114
def MNX12_99 (S : List IK) (M : IM) (o : Nat) : IM := ms (MNX12_98 S M o) (SNX12_14 S o).length 98 32
def MNX12_100 (S : List IK) (M : IM) (o : Nat) : IM := ms (MNX12_99 S M o) (SNX12_14 S o).length 99 102
def MNX12_101 (S : List IK) (M : IM) (o : Nat) : IM := ms (MNX12_100 S M o) (SNX12_14 S o).length 100 114
def MNX12_102 (S : List IK) (M : IM) (o : Nat) : IM := ms (MNX12_101 S M o) (SNX12_14 S o).length 101 111
def MNX12_103 (S : List IK) (M : IM) (o : Nat) : IM := ms (MNX12_102 S M o) (SNX12_14 S o).length 102 109
def MNX12_104 (S : List IK) (M : IM) (o : Nat) : IM := ms (MNX12_103 S M o) (SNX12_14 S o).length 103 32
def MNX12_105 (S : List IK) (M : IM) (o : Nat) : IM := ms (MNX12_104 S M o) o 35 (-1)
def MNX12 (S : List IK) (M : IM) (o : Nat) : IM := (MNX12_105 S M o)
def RNX12_1 (S : List IK) (o : Nat) : Nat := S.length
def RNX12_2 (S : List IK) (o : Nat) : Nat := (SNX12_2 S o).length
def RNX12_4 (S : List IK) (o : Nat) : Nat := (SNX12_4 S o).length
def RNX12_7 (S : List IK) (o : Nat) : Nat := (SNX12_6 S o).length
def RNX12_11 (S : List IK) (o : Nat) : Nat := (SNX12_8 S o).length
def RNX12_12 (S : List IK) (o : Nat) : Nat := (SNX12_10 S o).length
def RNX12_13 (S : List IK) (o : Nat) : Nat := (SNX12_12 S o).length
def RNX12_19 (S : List IK) (o : Nat) : Nat := (SNX12_14 S o).length
def RNX12_20 (S : List IK) (o : Nat) : Nat := (SNX12_16 S o).length
def RNX12_21 (S : List IK) (o : Nat) : Nat := (SNX12_18 S o).length
def RNX12_22 (S : List IK) (o : Nat) : Nat := (SNX12_20 S o).length
def RNX12_23 (S : List IK) (o : Nat) : Nat := (SNX12_22 S o).length
def RNX12_24 (S : List IK) (o : Nat) : Nat := (SNX12_24 S o).length
def RNX12_25 (S : List IK) (o : Nat) : Nat := (SNX12_26 S o).length
def RNX12_26 (S : List IK) (o : Nat) : Nat := (SNX12_28 S o).length
def RNX12_30 (S : List IK) (o : Nat) : Nat := (SNX12_30 S o).length
def RNX12_37 (S : List IK) (o : Nat) : Nat := (SNX12_32 S o).length
def RNX12_39 (S : List IK) (o : Nat) : Nat := (SNX12_34 S o).length
def RNX12_40 (S : List IK) (o : Nat) : Nat := (SNX12_36 S o).length
def RNX12_41 (S : List IK) (o : Nat) : Nat := (SNX12_38 S o).length
def RNX12_42 (S : List IK) (o : Nat) : Nat := (SNX12_40 S o).length
def RNX12_43 (S : List IK) (o : Nat) : Nat := (SNX12_42 S o).length
def RNX12_44 (S : List IK) (o : Nat) : Nat := (SNX12_44 S o).length
def RNX12_45 (S : List IK) (o : Nat) : Nat := (SNX12_46 S o).length
def RNX12_46 (S : List IK) (o : Nat) : Nat := (SNX12_48 S o).length
def RNX12_47 (S : List IK) (o : Nat) : Nat := (SNX12_50 S o).length
def RNX12_48 (S : List IK) (o : Nat) : Nat := (SNX12_52 S o).length
def RNX12_52 (S : List IK) (o : Nat) : Nat := (SNX12_54 S o).length
def CBX12 (S : List IK) (M : IM) (o : Nat) : Prop := (SNX12 S o)[o]? = some (14, 53, [none, some (some (RNX12_1 S o)), some (some (RNX12_2 S o)), none, some (some (RNX12_4 S o)), none, none, some (some (RNX12_7 S o)), none, none, none, some (some (RNX12_11 S o)), some (some (RNX12_12 S o)), some (some (RNX12_13 S o)), none, none, none, none, none, some (some (RNX12_19 S o)), some (some (RNX12_20 S o)), some (some (RNX12_21 S o)), some (some (RNX12_22 S o)), some (some (RNX12_23 S o)), some (some (RNX12_24 S o)), some (some (RNX12_25 S o)), some (some (RNX12_26 S o)), none, none, none, some (some (RNX12_30 S o)), none, none, none, none, none, none, some (some (RNX12_37 S o)), none, some (some (RNX12_39 S o)), some (some (RNX12_40 S o)), some (some (RNX12_41 S o)), some (some (RNX12_42 S o)), some (some (RNX12_43 S o)), some (some (RNX12_44 S o)), some (some (RNX12_45 S o)), some (some (RNX12_46 S o)), some (some (RNX12_47 S o)), some (some (RNX12_48 S o)), none, none, none, some (some (RNX12_52 S o))]) ∧ ie_wf (SNX12 S o) (MNX12 S M o) ∧ ie_zr (SNX12 S o) (MNX12 S M o) ∧ (SNX12 S o).length = S.length + 28 ∧ ∀ (p : Nat) (x : IK), ¬ p = o → S[p]? = some x → (SNX12 S o)[p]? = some x
set_option maxRecDepth 100000 in
set_option maxHeartbeats 4000000 in
theorem cb_X12 {S : List IK} {M : IM} {o : Nat} (ho : S[o]? = some (14, 53, [none, some none, some none, none, some none, none, none, some none, none, none, none, some none, some none, some none, none, none, none, none, none, some none, some none, some none, some none, some none, some none, some none, some none, none, none, none, some none, none, none, none, none, none, none, some none, none, some none, some none, some none, some none, some none, some none, some none, some none, some none, some none, none, none, none, some none])) (hwf : ie_wf S M) (hz : ie_zr S M) : CBX12 S M o := by
  have len1 : (SNX12_1 S o).length = S.length + 1 := l_app rfl
  have len2 : (SNX12_2 S o).length = S.length + 1 := l_set len1
  have len3 : (SNX12_3 S o).length = S.length + 2 := l_app len2
  have len4 : (SNX12_4 S o).length = S.length + 2 := l_set len3
  have len5 : (SNX12_5 S o).length = S.length + 3 := l_app len4
  have len6 : (SNX12_6 S o).length = S.length + 3 := l_set len5
  have len7 : (SNX12_7 S o).length = S.length + 4 := l_app len6
  have len8 : (SNX12_8 S o).length = S.length + 4 := l_set len7
  have len9 : (SNX12_9 S o).length = S.length + 5 := l_app len8
  have len10 : (SNX12_10 S o).length = S.length + 5 := l_set len9
  have len11 : (SNX12_11 S o).length = S.length + 6 := l_app len10
  have len12 : (SNX12_12 S o).length = S.length + 6 := l_set len11
  have len13 : (SNX12_13 S o).length = S.length + 7 := l_app len12
  have len14 : (SNX12_14 S o).length = S.length + 7 := l_set len13
  have len15 : (SNX12_15 S o).length = S.length + 8 := l_app len14
  have len16 : (SNX12_16 S o).length = S.length + 8 := l_set len15
  have len17 : (SNX12_17 S o).length = S.length + 9 := l_app len16
  have len18 : (SNX12_18 S o).length = S.length + 9 := l_set len17
  have len19 : (SNX12_19 S o).length = S.length + 10 := l_app len18
  have len20 : (SNX12_20 S o).length = S.length + 10 := l_set len19
  have len21 : (SNX12_21 S o).length = S.length + 11 := l_app len20
  have len22 : (SNX12_22 S o).length = S.length + 11 := l_set len21
  have len23 : (SNX12_23 S o).length = S.length + 12 := l_app len22
  have len24 : (SNX12_24 S o).length = S.length + 12 := l_set len23
  have len25 : (SNX12_25 S o).length = S.length + 13 := l_app len24
  have len26 : (SNX12_26 S o).length = S.length + 13 := l_set len25
  have len27 : (SNX12_27 S o).length = S.length + 14 := l_app len26
  have len28 : (SNX12_28 S o).length = S.length + 14 := l_set len27
  have len29 : (SNX12_29 S o).length = S.length + 15 := l_app len28
  have len30 : (SNX12_30 S o).length = S.length + 15 := l_set len29
  have len31 : (SNX12_31 S o).length = S.length + 16 := l_app len30
  have len32 : (SNX12_32 S o).length = S.length + 16 := l_set len31
  have len33 : (SNX12_33 S o).length = S.length + 17 := l_app len32
  have len34 : (SNX12_34 S o).length = S.length + 17 := l_set len33
  have len35 : (SNX12_35 S o).length = S.length + 18 := l_app len34
  have len36 : (SNX12_36 S o).length = S.length + 18 := l_set len35
  have len37 : (SNX12_37 S o).length = S.length + 19 := l_app len36
  have len38 : (SNX12_38 S o).length = S.length + 19 := l_set len37
  have len39 : (SNX12_39 S o).length = S.length + 20 := l_app len38
  have len40 : (SNX12_40 S o).length = S.length + 20 := l_set len39
  have len41 : (SNX12_41 S o).length = S.length + 21 := l_app len40
  have len42 : (SNX12_42 S o).length = S.length + 21 := l_set len41
  have len43 : (SNX12_43 S o).length = S.length + 22 := l_app len42
  have len44 : (SNX12_44 S o).length = S.length + 22 := l_set len43
  have len45 : (SNX12_45 S o).length = S.length + 23 := l_app len44
  have len46 : (SNX12_46 S o).length = S.length + 23 := l_set len45
  have len47 : (SNX12_47 S o).length = S.length + 24 := l_app len46
  have len48 : (SNX12_48 S o).length = S.length + 24 := l_set len47
  have len49 : (SNX12_49 S o).length = S.length + 25 := l_app len48
  have len50 : (SNX12_50 S o).length = S.length + 25 := l_set len49
  have len51 : (SNX12_51 S o).length = S.length + 26 := l_app len50
  have len52 : (SNX12_52 S o).length = S.length + 26 := l_set len51
  have len53 : (SNX12_53 S o).length = S.length + 27 := l_app len52
  have len54 : (SNX12_54 S o).length = S.length + 27 := l_set len53
  have len55 : (SNX12_55 S o).length = S.length + 28 := l_app len54
  have len56 : (SNX12_56 S o).length = S.length + 28 := l_set len55
  have hf1 : (SNX12_1 S o)[o]? = some (14, 53, [none, some none, some none, none, some none, none, none, some none, none, none, none, some none, some none, some none, none, none, none, none, none, some none, some none, some none, some none, some none, some none, some none, some none, none, none, none, some none, none, none, none, none, none, none, some none, none, some none, some none, some none, some none, some none, some none, some none, some none, some none, some none, none, none, none, some none]) := ap_at ho
  have hf2 : (SNX12_1 S o)[S.length]? = some (0, 40, []) := nw_at
  have hw3 : ie_wf (SNX12_1 S o) M := wf_app hwf (by simp) hz
  have hz4 : ie_zr (SNX12_1 S o) M := zr_app hz
  have hf5 : (SNX12_2 S o)[o]? = some (14, 53, [none, some (some S.length), some none, none, some none, none, none, some none, none, none, none, some none, some none, some none, none, none, none, none, none, some none, some none, some none, some none, some none, some none, some none, some none, none, none, none, some none, none, none, none, none, none, none, some none, none, some none, some none, some none, some none, some none, some none, some none, some none, some none, some none, none, none, none, some none]) := st_at hf1
  have hf6 : (SNX12_2 S o)[S.length]? = some (0, 40, []) := st_at' hf2 (Nat.ne_of_lt (List.getElem?_eq_some_iff.mp ho).1)
  have hw7 : ie_wf (SNX12_2 S o) M := by have zz := wf_set (i := 1) (r := S.length) hw3 hf1 ((List.getElem?_eq_some_iff.mp hf2).1); exact zz
  have hz8 : ie_zr (SNX12_2 S o) M := zr_set hz4
  have hf9 : (SNX12_3 S o)[o]? = some (14, 53, [none, some (some S.length), some none, none, some none, none, none, some none, none, none, none, some none, some none, some none, none, none, none, none, none, some none, some none, some none, some none, some none, some none, some none, some none, none, none, none, some none, none, none, none, none, none, none, some none, none, some none, some none, some none, some none, some none, some none, some none, some none, some none, some none, none, none, none, some none]) := ap_at hf5
  have hf10 : (SNX12_3 S o)[(SNX12_2 S o).length]? = some (0, 240, []) := nw_at
  have hw11 : ie_wf (SNX12_3 S o) M := wf_app hw7 (by simp) hz8
  have hz12 : ie_zr (SNX12_3 S o) M := zr_app hz8
  have hf13 : (SNX12_4 S o)[o]? = some (14, 53, [none, some (some S.length), some (some (SNX12_2 S o).length), none, some none, none, none, some none, none, none, none, some none, some none, some none, none, none, none, none, none, some none, some none, some none, some none, some none, some none, some none, some none, none, none, none, some none, none, none, none, none, none, none, some none, none, some none, some none, some none, some none, some none, some none, some none, some none, some none, some none, none, none, none, some none]) := st_at hf9
  have hf14 : (SNX12_4 S o)[(SNX12_2 S o).length]? = some (0, 240, []) := st_at' hf10 (Nat.ne_of_lt (List.getElem?_eq_some_iff.mp hf5).1)
  have hw15 : ie_wf (SNX12_4 S o) M := by have zz := wf_set (i := 2) (r := (SNX12_2 S o).length) hw11 hf9 ((List.getElem?_eq_some_iff.mp hf10).1); exact zz
  have hz16 : ie_zr (SNX12_4 S o) M := zr_set hz12
  have hf17 : (SNX12_5 S o)[o]? = some (14, 53, [none, some (some S.length), some (some (SNX12_2 S o).length), none, some none, none, none, some none, none, none, none, some none, some none, some none, none, none, none, none, none, some none, some none, some none, some none, some none, some none, some none, some none, none, none, none, some none, none, none, none, none, none, none, some none, none, some none, some none, some none, some none, some none, some none, some none, some none, some none, some none, none, none, none, some none]) := ap_at hf13
  have hf18 : (SNX12_5 S o)[(SNX12_4 S o).length]? = some (0, 40, []) := nw_at
  have hw19 : ie_wf (SNX12_5 S o) M := wf_app hw15 (by simp) hz16
  have hz20 : ie_zr (SNX12_5 S o) M := zr_app hz16
  have hf21 : (SNX12_6 S o)[o]? = some (14, 53, [none, some (some S.length), some (some (SNX12_2 S o).length), none, some (some (SNX12_4 S o).length), none, none, some none, none, none, none, some none, some none, some none, none, none, none, none, none, some none, some none, some none, some none, some none, some none, some none, some none, none, none, none, some none, none, none, none, none, none, none, some none, none, some none, some none, some none, some none, some none, some none, some none, some none, some none, some none, none, none, none, some none]) := st_at hf17
  have hf22 : (SNX12_6 S o)[(SNX12_4 S o).length]? = some (0, 40, []) := st_at' hf18 (Nat.ne_of_lt (List.getElem?_eq_some_iff.mp hf13).1)
  have hw23 : ie_wf (SNX12_6 S o) M := by have zz := wf_set (i := 4) (r := (SNX12_4 S o).length) hw19 hf17 ((List.getElem?_eq_some_iff.mp hf18).1); exact zz
  have hz24 : ie_zr (SNX12_6 S o) M := zr_set hz20
  have hf25 : (SNX12_7 S o)[o]? = some (14, 53, [none, some (some S.length), some (some (SNX12_2 S o).length), none, some (some (SNX12_4 S o).length), none, none, some none, none, none, none, some none, some none, some none, none, none, none, none, none, some none, some none, some none, some none, some none, some none, some none, some none, none, none, none, some none, none, none, none, none, none, none, some none, none, some none, some none, some none, some none, some none, some none, some none, some none, some none, some none, none, none, none, some none]) := ap_at hf21
  have hf26 : (SNX12_7 S o)[(SNX12_6 S o).length]? = some (0, 10, []) := nw_at
  have hw27 : ie_wf (SNX12_7 S o) M := wf_app hw23 (by simp) hz24
  have hz28 : ie_zr (SNX12_7 S o) M := zr_app hz24
  have hf29 : (SNX12_8 S o)[o]? = some (14, 53, [none, some (some S.length), some (some (SNX12_2 S o).length), none, some (some (SNX12_4 S o).length), none, none, some (some (SNX12_6 S o).length), none, none, none, some none, some none, some none, none, none, none, none, none, some none, some none, some none, some none, some none, some none, some none, some none, none, none, none, some none, none, none, none, none, none, none, some none, none, some none, some none, some none, some none, some none, some none, some none, some none, some none, some none, none, none, none, some none]) := st_at hf25
  have hf30 : (SNX12_8 S o)[(SNX12_6 S o).length]? = some (0, 10, []) := st_at' hf26 (Nat.ne_of_lt (List.getElem?_eq_some_iff.mp hf21).1)
  have hw31 : ie_wf (SNX12_8 S o) M := by have zz := wf_set (i := 7) (r := (SNX12_6 S o).length) hw27 hf25 ((List.getElem?_eq_some_iff.mp hf26).1); exact zz
  have hz32 : ie_zr (SNX12_8 S o) M := zr_set hz28
  have hf33 : (SNX12_9 S o)[o]? = some (14, 53, [none, some (some S.length), some (some (SNX12_2 S o).length), none, some (some (SNX12_4 S o).length), none, none, some (some (SNX12_6 S o).length), none, none, none, some none, some none, some none, none, none, none, none, none, some none, some none, some none, some none, some none, some none, some none, some none, none, none, none, some none, none, none, none, none, none, none, some none, none, some none, some none, some none, some none, some none, some none, some none, some none, some none, some none, none, none, none, some none]) := ap_at hf29
  have hf34 : (SNX12_9 S o)[(SNX12_8 S o).length]? = some (0, 64, []) := nw_at
  have hw35 : ie_wf (SNX12_9 S o) M := wf_app hw31 (by simp) hz32
  have hz36 : ie_zr (SNX12_9 S o) M := zr_app hz32
  have hf37 : (SNX12_10 S o)[o]? = some (14, 53, [none, some (some S.length), some (some (SNX12_2 S o).length), none, some (some (SNX12_4 S o).length), none, none, some (some (SNX12_6 S o).length), none, none, none, some (some (SNX12_8 S o).length), some none, some none, none, none, none, none, none, some none, some none, some none, some none, some none, some none, some none, some none, none, none, none, some none, none, none, none, none, none, none, some none, none, some none, some none, some none, some none, some none, some none, some none, some none, some none, some none, none, none, none, some none]) := st_at hf33
  have hf38 : (SNX12_10 S o)[(SNX12_8 S o).length]? = some (0, 64, []) := st_at' hf34 (Nat.ne_of_lt (List.getElem?_eq_some_iff.mp hf29).1)
  have hw39 : ie_wf (SNX12_10 S o) M := by have zz := wf_set (i := 11) (r := (SNX12_8 S o).length) hw35 hf33 ((List.getElem?_eq_some_iff.mp hf34).1); exact zz
  have hz40 : ie_zr (SNX12_10 S o) M := zr_set hz36
  have hf41 : (SNX12_11 S o)[o]? = some (14, 53, [none, some (some S.length), some (some (SNX12_2 S o).length), none, some (some (SNX12_4 S o).length), none, none, some (some (SNX12_6 S o).length), none, none, none, some (some (SNX12_8 S o).length), some none, some none, none, none, none, none, none, some none, some none, some none, some none, some none, some none, some none, some none, none, none, none, some none, none, none, none, none, none, none, some none, none, some none, some none, some none, some none, some none, some none, some none, some none, some none, some none, none, none, none, some none]) := ap_at hf37
  have hf42 : (SNX12_11 S o)[(SNX12_10 S o).length]? = some (0, 450, []) := nw_at
  have hw43 : ie_wf (SNX12_11 S o) M := wf_app hw39 (by simp) hz40
  have hz44 : ie_zr (SNX12_11 S o) M := zr_app hz40
  have hf45 : (SNX12_12 S o)[o]? = some (14, 53, [none, some (some S.length), some (some (SNX12_2 S o).length), none, some (some (SNX12_4 S o).length), none, none, some (some (SNX12_6 S o).length), none, none, none, some (some (SNX12_8 S o).length), some (some (SNX12_10 S o).length), some none, none, none, none, none, none, some none, some none, some none, some none, some none, some none, some none, some none, none, none, none, some none, none, none, none, none, none, none, some none, none, some none, some none, some none, some none, some none, some none, some none, some none, some none, some none, none, none, none, some none]) := st_at hf41
  have hf46 : (SNX12_12 S o)[(SNX12_10 S o).length]? = some (0, 450, []) := st_at' hf42 (Nat.ne_of_lt (List.getElem?_eq_some_iff.mp hf37).1)
  have hw47 : ie_wf (SNX12_12 S o) M := by have zz := wf_set (i := 12) (r := (SNX12_10 S o).length) hw43 hf41 ((List.getElem?_eq_some_iff.mp hf42).1); exact zz
  have hz48 : ie_zr (SNX12_12 S o) M := zr_set hz44
  have hf49 : (SNX12_13 S o)[o]? = some (14, 53, [none, some (some S.length), some (some (SNX12_2 S o).length), none, some (some (SNX12_4 S o).length), none, none, some (some (SNX12_6 S o).length), none, none, none, some (some (SNX12_8 S o).length), some (some (SNX12_10 S o).length), some none, none, none, none, none, none, some none, some none, some none, some none, some none, some none, some none, some none, none, none, none, some none, none, none, none, none, none, none, some none, none, some none, some none, some none, some none, some none, some none, some none, some none, some none, some none, none, none, none, some none]) := ap_at hf45
  have hf50 : (SNX12_13 S o)[(SNX12_12 S o).length]? = some (0, 400, []) := nw_at
  have hw51 : ie_wf (SNX12_13 S o) M := wf_app hw47 (by simp) hz48
  have hz52 : ie_zr (SNX12_13 S o) M := zr_app hz48
  have hf53 : (SNX12_14 S o)[o]? = some (14, 53, [none, some (some S.length), some (some (SNX12_2 S o).length), none, some (some (SNX12_4 S o).length), none, none, some (some (SNX12_6 S o).length), none, none, none, some (some (SNX12_8 S o).length), some (some (SNX12_10 S o).length), some (some (SNX12_12 S o).length), none, none, none, none, none, some none, some none, some none, some none, some none, some none, some none, some none, none, none, none, some none, none, none, none, none, none, none, some none, none, some none, some none, some none, some none, some none, some none, some none, some none, some none, some none, none, none, none, some none]) := st_at hf49
  have hf54 : (SNX12_14 S o)[(SNX12_12 S o).length]? = some (0, 400, []) := st_at' hf50 (Nat.ne_of_lt (List.getElem?_eq_some_iff.mp hf45).1)
  have hw55 : ie_wf (SNX12_14 S o) M := by have zz := wf_set (i := 13) (r := (SNX12_12 S o).length) hw51 hf49 ((List.getElem?_eq_some_iff.mp hf50).1); exact zz
  have hz56 : ie_zr (SNX12_14 S o) M := zr_set hz52
  have hf57 : (SNX12_15 S o)[o]? = some (14, 53, [none, some (some S.length), some (some (SNX12_2 S o).length), none, some (some (SNX12_4 S o).length), none, none, some (some (SNX12_6 S o).length), none, none, none, some (some (SNX12_8 S o).length), some (some (SNX12_10 S o).length), some (some (SNX12_12 S o).length), none, none, none, none, none, some none, some none, some none, some none, some none, some none, some none, some none, none, none, none, some none, none, none, none, none, none, none, some none, none, some none, some none, some none, some none, some none, some none, some none, some none, some none, some none, none, none, none, some none]) := ap_at hf53
  have hf58 : (SNX12_15 S o)[(SNX12_14 S o).length]? = some (0, 104, []) := nw_at
  have hw59 : ie_wf (SNX12_15 S o) M := wf_app hw55 (by simp) hz56
  have hz60 : ie_zr (SNX12_15 S o) M := zr_app hz56
  have hw61 : ie_wf (SNX12_15 S o) (MNX12_1 S M o) := wf_ms hw59 hf58 (Or.inl (by decide))
  have hz62 : ie_zr (SNX12_15 S o) (MNX12_1 S M o) := zr_ms hz60 ((List.getElem?_eq_some_iff.mp hf58).1)
  have hw63 : ie_wf (SNX12_15 S o) (MNX12_2 S M o) := wf_ms hw61 hf58 (Or.inl (by decide))
  have hz64 : ie_zr (SNX12_15 S o) (MNX12_2 S M o) := zr_ms hz62 ((List.getElem?_eq_some_iff.mp hf58).1)
  have hw65 : ie_wf (SNX12_15 S o) (MNX12_3 S M o) := wf_ms hw63 hf58 (Or.inl (by decide))
  have hz66 : ie_zr (SNX12_15 S o) (MNX12_3 S M o) := zr_ms hz64 ((List.getElem?_eq_some_iff.mp hf58).1)
  have hw67 : ie_wf (SNX12_15 S o) (MNX12_4 S M o) := wf_ms hw65 hf58 (Or.inl (by decide))
  have hz68 : ie_zr (SNX12_15 S o) (MNX12_4 S M o) := zr_ms hz66 ((List.getElem?_eq_some_iff.mp hf58).1)
  have hw69 : ie_wf (SNX12_15 S o) (MNX12_5 S M o) := wf_ms hw67 hf58 (Or.inl (by decide))
  have hz70 : ie_zr (SNX12_15 S o) (MNX12_5 S M o) := zr_ms hz68 ((List.getElem?_eq_some_iff.mp hf58).1)
  have hw71 : ie_wf (SNX12_15 S o) (MNX12_6 S M o) := wf_ms hw69 hf58 (Or.inl (by decide))
  have hz72 : ie_zr (SNX12_15 S o) (MNX12_6 S M o) := zr_ms hz70 ((List.getElem?_eq_some_iff.mp hf58).1)
  have hw73 : ie_wf (SNX12_15 S o) (MNX12_7 S M o) := wf_ms hw71 hf58 (Or.inl (by decide))
  have hz74 : ie_zr (SNX12_15 S o) (MNX12_7 S M o) := zr_ms hz72 ((List.getElem?_eq_some_iff.mp hf58).1)
  have hw75 : ie_wf (SNX12_15 S o) (MNX12_8 S M o) := wf_ms hw73 hf58 (Or.inl (by decide))
  have hz76 : ie_zr (SNX12_15 S o) (MNX12_8 S M o) := zr_ms hz74 ((List.getElem?_eq_some_iff.mp hf58).1)
  have hw77 : ie_wf (SNX12_15 S o) (MNX12_9 S M o) := wf_ms hw75 hf58 (Or.inl (by decide))
  have hz78 : ie_zr (SNX12_15 S o) (MNX12_9 S M o) := zr_ms hz76 ((List.getElem?_eq_some_iff.mp hf58).1)
  have hw79 : ie_wf (SNX12_15 S o) (MNX12_10 S M o) := wf_ms hw77 hf58 (Or.inl (by decide))
  have hz80 : ie_zr (SNX12_15 S o) (MNX12_10 S M o) := zr_ms hz78 ((List.getElem?_eq_some_iff.mp hf58).1)
  have hw81 : ie_wf (SNX12_15 S o) (MNX12_11 S M o) := wf_ms hw79 hf58 (Or.inl (by decide))
  have hz82 : ie_zr (SNX12_15 S o) (MNX12_11 S M o) := zr_ms hz80 ((List.getElem?_eq_some_iff.mp hf58).1)
  have hw83 : ie_wf (SNX12_15 S o) (MNX12_12 S M o) := wf_ms hw81 hf58 (Or.inl (by decide))
  have hz84 : ie_zr (SNX12_15 S o) (MNX12_12 S M o) := zr_ms hz82 ((List.getElem?_eq_some_iff.mp hf58).1)
  have hw85 : ie_wf (SNX12_15 S o) (MNX12_13 S M o) := wf_ms hw83 hf58 (Or.inl (by decide))
  have hz86 : ie_zr (SNX12_15 S o) (MNX12_13 S M o) := zr_ms hz84 ((List.getElem?_eq_some_iff.mp hf58).1)
  have hw87 : ie_wf (SNX12_15 S o) (MNX12_14 S M o) := wf_ms hw85 hf58 (Or.inl (by decide))
  have hz88 : ie_zr (SNX12_15 S o) (MNX12_14 S M o) := zr_ms hz86 ((List.getElem?_eq_some_iff.mp hf58).1)
  have hw89 : ie_wf (SNX12_15 S o) (MNX12_15 S M o) := wf_ms hw87 hf58 (Or.inl (by decide))
  have hz90 : ie_zr (SNX12_15 S o) (MNX12_15 S M o) := zr_ms hz88 ((List.getElem?_eq_some_iff.mp hf58).1)
  have hw91 : ie_wf (SNX12_15 S o) (MNX12_16 S M o) := wf_ms hw89 hf58 (Or.inl (by decide))
  have hz92 : ie_zr (SNX12_15 S o) (MNX12_16 S M o) := zr_ms hz90 ((List.getElem?_eq_some_iff.mp hf58).1)
  have hw93 : ie_wf (SNX12_15 S o) (MNX12_17 S M o) := wf_ms hw91 hf58 (Or.inl (by decide))
  have hz94 : ie_zr (SNX12_15 S o) (MNX12_17 S M o) := zr_ms hz92 ((List.getElem?_eq_some_iff.mp hf58).1)
  have hw95 : ie_wf (SNX12_15 S o) (MNX12_18 S M o) := wf_ms hw93 hf58 (Or.inl (by decide))
  have hz96 : ie_zr (SNX12_15 S o) (MNX12_18 S M o) := zr_ms hz94 ((List.getElem?_eq_some_iff.mp hf58).1)
  have hw97 : ie_wf (SNX12_15 S o) (MNX12_19 S M o) := wf_ms hw95 hf58 (Or.inl (by decide))
  have hz98 : ie_zr (SNX12_15 S o) (MNX12_19 S M o) := zr_ms hz96 ((List.getElem?_eq_some_iff.mp hf58).1)
  have hw99 : ie_wf (SNX12_15 S o) (MNX12_20 S M o) := wf_ms hw97 hf58 (Or.inl (by decide))
  have hz100 : ie_zr (SNX12_15 S o) (MNX12_20 S M o) := zr_ms hz98 ((List.getElem?_eq_some_iff.mp hf58).1)
  have hw101 : ie_wf (SNX12_15 S o) (MNX12_21 S M o) := wf_ms hw99 hf58 (Or.inl (by decide))
  have hz102 : ie_zr (SNX12_15 S o) (MNX12_21 S M o) := zr_ms hz100 ((List.getElem?_eq_some_iff.mp hf58).1)
  have hw103 : ie_wf (SNX12_15 S o) (MNX12_22 S M o) := wf_ms hw101 hf58 (Or.inl (by decide))
  have hz104 : ie_zr (SNX12_15 S o) (MNX12_22 S M o) := zr_ms hz102 ((List.getElem?_eq_some_iff.mp hf58).1)
  have hw105 : ie_wf (SNX12_15 S o) (MNX12_23 S M o) := wf_ms hw103 hf58 (Or.inl (by decide))
  have hz106 : ie_zr (SNX12_15 S o) (MNX12_23 S M o) := zr_ms hz104 ((List.getElem?_eq_some_iff.mp hf58).1)
  have hw107 : ie_wf (SNX12_15 S o) (MNX12_24 S M o) := wf_ms hw105 hf58 (Or.inl (by decide))
  have hz108 : ie_zr (SNX12_15 S o) (MNX12_24 S M o) := zr_ms hz106 ((List.getElem?_eq_some_iff.mp hf58).1)
  have hw109 : ie_wf (SNX12_15 S o) (MNX12_25 S M o) := wf_ms hw107 hf58 (Or.inl (by decide))
  have hz110 : ie_zr (SNX12_15 S o) (MNX12_25 S M o) := zr_ms hz108 ((List.getElem?_eq_some_iff.mp hf58).1)
  have hw111 : ie_wf (SNX12_15 S o) (MNX12_26 S M o) := wf_ms hw109 hf58 (Or.inl (by decide))
  have hz112 : ie_zr (SNX12_15 S o) (MNX12_26 S M o) := zr_ms hz110 ((List.getElem?_eq_some_iff.mp hf58).1)
  have hw113 : ie_wf (SNX12_15 S o) (MNX12_27 S M o) := wf_ms hw111 hf58 (Or.inl (by decide))
  have hz114 : ie_zr (SNX12_15 S o) (MNX12_27 S M o) := zr_ms hz112 ((List.getElem?_eq_some_iff.mp hf58).1)
  have hw115 : ie_wf (SNX12_15 S o) (MNX12_28 S M o) := wf_ms hw113 hf58 (Or.inl (by decide))
  have hz116 : ie_zr (SNX12_15 S o) (MNX12_28 S M o) := zr_ms hz114 ((List.getElem?_eq_some_iff.mp hf58).1)
  have hw117 : ie_wf (SNX12_15 S o) (MNX12_29 S M o) := wf_ms hw115 hf58 (Or.inl (by decide))
  have hz118 : ie_zr (SNX12_15 S o) (MNX12_29 S M o) := zr_ms hz116 ((List.getElem?_eq_some_iff.mp hf58).1)
  have hw119 : ie_wf (SNX12_15 S o) (MNX12_30 S M o) := wf_ms hw117 hf58 (Or.inl (by decide))
  have hz120 : ie_zr (SNX12_15 S o) (MNX12_30 S M o) := zr_ms hz118 ((List.getElem?_eq_some_iff.mp hf58).1)
  have hw121 : ie_wf (SNX12_15 S o) (MNX12_31 S M o) := wf_ms hw119 hf58 (Or.inl (by decide))
  have hz122 : ie_zr (SNX12_15 S o) (MNX12_31 S M o) := zr_ms hz120 ((List.getElem?_eq_some_iff.mp hf58).1)
  have hw123 : ie_wf (SNX12_15 S o) (MNX12_32 S M o) := wf_ms hw121 hf58 (Or.inl (by decide))
  have hz124 : ie_zr (SNX12_15 S o) (MNX12_32 S M o) := zr_ms hz122 ((List.getElem?_eq_some_iff.mp hf58).1)
  have hw125 : ie_wf (SNX12_15 S o) (MNX12_33 S M o) := wf_ms hw123 hf58 (Or.inl (by decide))
  have hz126 : ie_zr (SNX12_15 S o) (MNX12_33 S M o) := zr_ms hz124 ((List.getElem?_eq_some_iff.mp hf58).1)
  have hw127 : ie_wf (SNX12_15 S o) (MNX12_34 S M o) := wf_ms hw125 hf58 (Or.inl (by decide))
  have hz128 : ie_zr (SNX12_15 S o) (MNX12_34 S M o) := zr_ms hz126 ((List.getElem?_eq_some_iff.mp hf58).1)
  have hw129 : ie_wf (SNX12_15 S o) (MNX12_35 S M o) := wf_ms hw127 hf58 (Or.inl (by decide))
  have hz130 : ie_zr (SNX12_15 S o) (MNX12_35 S M o) := zr_ms hz128 ((List.getElem?_eq_some_iff.mp hf58).1)
  have hw131 : ie_wf (SNX12_15 S o) (MNX12_36 S M o) := wf_ms hw129 hf58 (Or.inl (by decide))
  have hz132 : ie_zr (SNX12_15 S o) (MNX12_36 S M o) := zr_ms hz130 ((List.getElem?_eq_some_iff.mp hf58).1)
  have hw133 : ie_wf (SNX12_15 S o) (MNX12_37 S M o) := wf_ms hw131 hf58 (Or.inl (by decide))
  have hz134 : ie_zr (SNX12_15 S o) (MNX12_37 S M o) := zr_ms hz132 ((List.getElem?_eq_some_iff.mp hf58).1)
  have hw135 : ie_wf (SNX12_15 S o) (MNX12_38 S M o) := wf_ms hw133 hf58 (Or.inl (by decide))
  have hz136 : ie_zr (SNX12_15 S o) (MNX12_38 S M o) := zr_ms hz134 ((List.getElem?_eq_some_iff.mp hf58).1)
  have hw137 : ie_wf (SNX12_15 S o) (MNX12_39 S M o) := wf_ms hw135 hf58 (Or.inl (by decide))
  have hz138 : ie_zr (SNX12_15 S o) (MNX12_39 S M o) := zr_ms hz136 ((List.getElem?_eq_some_iff.mp hf58).1)
  have hw139 : ie_wf (SNX12_15 S o) (MNX12_40 S M o) := wf_ms hw137 hf58 (Or.inl (by decide))
  have hz140 : ie_zr (SNX12_15 S o) (MNX12_40 S M o) := zr_ms hz138 ((List.getElem?_eq_some_iff.mp hf58).1)
  have hw141 : ie_wf (SNX12_15 S o) (MNX12_41 S M o) := wf_ms hw139 hf58 (Or.inl (by decide))
  have hz142 : ie_zr (SNX12_15 S o) (MNX12_41 S M o) := zr_ms hz140 ((List.getElem?_eq_some_iff.mp hf58).1)
  have hw143 : ie_wf (SNX12_15 S o) (MNX12_42 S M o) := wf_ms hw141 hf58 (Or.inl (by decide))
  have hz144 : ie_zr (SNX12_15 S o) (MNX12_42 S M o) := zr_ms hz142 ((List.getElem?_eq_some_iff.mp hf58).1)
  have hw145 : ie_wf (SNX12_15 S o) (MNX12_43 S M o) := wf_ms hw143 hf58 (Or.inl (by decide))
  have hz146 : ie_zr (SNX12_15 S o) (MNX12_43 S M o) := zr_ms hz144 ((List.getElem?_eq_some_iff.mp hf58).1)
  have hw147 : ie_wf (SNX12_15 S o) (MNX12_44 S M o) := wf_ms hw145 hf58 (Or.inl (by decide))
  have hz148 : ie_zr (SNX12_15 S o) (MNX12_44 S M o) := zr_ms hz146 ((List.getElem?_eq_some_iff.mp hf58).1)
  have hw149 : ie_wf (SNX12_15 S o) (MNX12_45 S M o) := wf_ms hw147 hf58 (Or.inl (by decide))
  have hz150 : ie_zr (SNX12_15 S o) (MNX12_45 S M o) := zr_ms hz148 ((List.getElem?_eq_some_iff.mp hf58).1)
  have hw151 : ie_wf (SNX12_15 S o) (MNX12_46 S M o) := wf_ms hw149 hf58 (Or.inl (by decide))
  have hz152 : ie_zr (SNX12_15 S o) (MNX12_46 S M o) := zr_ms hz150 ((List.getElem?_eq_some_iff.mp hf58).1)
  have hw153 : ie_wf (SNX12_15 S o) (MNX12_47 S M o) := wf_ms hw151 hf58 (Or.inl (by decide))
  have hz154 : ie_zr (SNX12_15 S o) (MNX12_47 S M o) := zr_ms hz152 ((List.getElem?_eq_some_iff.mp hf58).1)
  have hw155 : ie_wf (SNX12_15 S o) (MNX12_48 S M o) := wf_ms hw153 hf58 (Or.inl (by decide))
  have hz156 : ie_zr (SNX12_15 S o) (MNX12_48 S M o) := zr_ms hz154 ((List.getElem?_eq_some_iff.mp hf58).1)
  have hw157 : ie_wf (SNX12_15 S o) (MNX12_49 S M o) := wf_ms hw155 hf58 (Or.inl (by decide))
  have hz158 : ie_zr (SNX12_15 S o) (MNX12_49 S M o) := zr_ms hz156 ((List.getElem?_eq_some_iff.mp hf58).1)
  have hw159 : ie_wf (SNX12_15 S o) (MNX12_50 S M o) := wf_ms hw157 hf58 (Or.inl (by decide))
  have hz160 : ie_zr (SNX12_15 S o) (MNX12_50 S M o) := zr_ms hz158 ((List.getElem?_eq_some_iff.mp hf58).1)
  have hw161 : ie_wf (SNX12_15 S o) (MNX12_51 S M o) := wf_ms hw159 hf58 (Or.inl (by decide))
  have hz162 : ie_zr (SNX12_15 S o) (MNX12_51 S M o) := zr_ms hz160 ((List.getElem?_eq_some_iff.mp hf58).1)
  have hw163 : ie_wf (SNX12_15 S o) (MNX12_52 S M o) := wf_ms hw161 hf58 (Or.inl (by decide))
  have hz164 : ie_zr (SNX12_15 S o) (MNX12_52 S M o) := zr_ms hz162 ((List.getElem?_eq_some_iff.mp hf58).1)
  have hw165 : ie_wf (SNX12_15 S o) (MNX12_53 S M o) := wf_ms hw163 hf58 (Or.inl (by decide))
  have hz166 : ie_zr (SNX12_15 S o) (MNX12_53 S M o) := zr_ms hz164 ((List.getElem?_eq_some_iff.mp hf58).1)
  have hw167 : ie_wf (SNX12_15 S o) (MNX12_54 S M o) := wf_ms hw165 hf58 (Or.inl (by decide))
  have hz168 : ie_zr (SNX12_15 S o) (MNX12_54 S M o) := zr_ms hz166 ((List.getElem?_eq_some_iff.mp hf58).1)
  have hw169 : ie_wf (SNX12_15 S o) (MNX12_55 S M o) := wf_ms hw167 hf58 (Or.inl (by decide))
  have hz170 : ie_zr (SNX12_15 S o) (MNX12_55 S M o) := zr_ms hz168 ((List.getElem?_eq_some_iff.mp hf58).1)
  have hw171 : ie_wf (SNX12_15 S o) (MNX12_56 S M o) := wf_ms hw169 hf58 (Or.inl (by decide))
  have hz172 : ie_zr (SNX12_15 S o) (MNX12_56 S M o) := zr_ms hz170 ((List.getElem?_eq_some_iff.mp hf58).1)
  have hw173 : ie_wf (SNX12_15 S o) (MNX12_57 S M o) := wf_ms hw171 hf58 (Or.inl (by decide))
  have hz174 : ie_zr (SNX12_15 S o) (MNX12_57 S M o) := zr_ms hz172 ((List.getElem?_eq_some_iff.mp hf58).1)
  have hw175 : ie_wf (SNX12_15 S o) (MNX12_58 S M o) := wf_ms hw173 hf58 (Or.inl (by decide))
  have hz176 : ie_zr (SNX12_15 S o) (MNX12_58 S M o) := zr_ms hz174 ((List.getElem?_eq_some_iff.mp hf58).1)
  have hw177 : ie_wf (SNX12_15 S o) (MNX12_59 S M o) := wf_ms hw175 hf58 (Or.inl (by decide))
  have hz178 : ie_zr (SNX12_15 S o) (MNX12_59 S M o) := zr_ms hz176 ((List.getElem?_eq_some_iff.mp hf58).1)
  have hw179 : ie_wf (SNX12_15 S o) (MNX12_60 S M o) := wf_ms hw177 hf58 (Or.inl (by decide))
  have hz180 : ie_zr (SNX12_15 S o) (MNX12_60 S M o) := zr_ms hz178 ((List.getElem?_eq_some_iff.mp hf58).1)
  have hw181 : ie_wf (SNX12_15 S o) (MNX12_61 S M o) := wf_ms hw179 hf58 (Or.inl (by decide))
  have hz182 : ie_zr (SNX12_15 S o) (MNX12_61 S M o) := zr_ms hz180 ((List.getElem?_eq_some_iff.mp hf58).1)
  have hw183 : ie_wf (SNX12_15 S o) (MNX12_62 S M o) := wf_ms hw181 hf58 (Or.inl (by decide))
  have hz184 : ie_zr (SNX12_15 S o) (MNX12_62 S M o) := zr_ms hz182 ((List.getElem?_eq_some_iff.mp hf58).1)
  have hw185 : ie_wf (SNX12_15 S o) (MNX12_63 S M o) := wf_ms hw183 hf58 (Or.inl (by decide))
  have hz186 : ie_zr (SNX12_15 S o) (MNX12_63 S M o) := zr_ms hz184 ((List.getElem?_eq_some_iff.mp hf58).1)
  have hw187 : ie_wf (SNX12_15 S o) (MNX12_64 S M o) := wf_ms hw185 hf58 (Or.inl (by decide))
  have hz188 : ie_zr (SNX12_15 S o) (MNX12_64 S M o) := zr_ms hz186 ((List.getElem?_eq_some_iff.mp hf58).1)
  have hw189 : ie_wf (SNX12_15 S o) (MNX12_65 S M o) := wf_ms hw187 hf58 (Or.inl (by decide))
  have hz190 : ie_zr (SNX12_15 S o) (MNX12_65 S M o) := zr_ms hz188 ((List.getElem?_eq_some_iff.mp hf58).1)
  have hw191 : ie_wf (SNX12_15 S o) (MNX12_66 S M o) := wf_ms hw189 hf58 (Or.inl (by decide))
  have hz192 : ie_zr (SNX12_15 S o) (MNX12_66 S M o) := zr_ms hz190 ((List.getElem?_eq_some_iff.mp hf58).1)
  have hw193 : ie_wf (SNX12_15 S o) (MNX12_67 S M o) := wf_ms hw191 hf58 (Or.inl (by decide))
  have hz194 : ie_zr (SNX12_15 S o) (MNX12_67 S M o) := zr_ms hz192 ((List.getElem?_eq_some_iff.mp hf58).1)
  have hw195 : ie_wf (SNX12_15 S o) (MNX12_68 S M o) := wf_ms hw193 hf58 (Or.inl (by decide))
  have hz196 : ie_zr (SNX12_15 S o) (MNX12_68 S M o) := zr_ms hz194 ((List.getElem?_eq_some_iff.mp hf58).1)
  have hw197 : ie_wf (SNX12_15 S o) (MNX12_69 S M o) := wf_ms hw195 hf58 (Or.inl (by decide))
  have hz198 : ie_zr (SNX12_15 S o) (MNX12_69 S M o) := zr_ms hz196 ((List.getElem?_eq_some_iff.mp hf58).1)
  have hw199 : ie_wf (SNX12_15 S o) (MNX12_70 S M o) := wf_ms hw197 hf58 (Or.inl (by decide))
  have hz200 : ie_zr (SNX12_15 S o) (MNX12_70 S M o) := zr_ms hz198 ((List.getElem?_eq_some_iff.mp hf58).1)
  have hw201 : ie_wf (SNX12_15 S o) (MNX12_71 S M o) := wf_ms hw199 hf58 (Or.inl (by decide))
  have hz202 : ie_zr (SNX12_15 S o) (MNX12_71 S M o) := zr_ms hz200 ((List.getElem?_eq_some_iff.mp hf58).1)
  have hw203 : ie_wf (SNX12_15 S o) (MNX12_72 S M o) := wf_ms hw201 hf58 (Or.inl (by decide))
  have hz204 : ie_zr (SNX12_15 S o) (MNX12_72 S M o) := zr_ms hz202 ((List.getElem?_eq_some_iff.mp hf58).1)
  have hw205 : ie_wf (SNX12_15 S o) (MNX12_73 S M o) := wf_ms hw203 hf58 (Or.inl (by decide))
  have hz206 : ie_zr (SNX12_15 S o) (MNX12_73 S M o) := zr_ms hz204 ((List.getElem?_eq_some_iff.mp hf58).1)
  have hw207 : ie_wf (SNX12_15 S o) (MNX12_74 S M o) := wf_ms hw205 hf58 (Or.inl (by decide))
  have hz208 : ie_zr (SNX12_15 S o) (MNX12_74 S M o) := zr_ms hz206 ((List.getElem?_eq_some_iff.mp hf58).1)
  have hw209 : ie_wf (SNX12_15 S o) (MNX12_75 S M o) := wf_ms hw207 hf58 (Or.inl (by decide))
  have hz210 : ie_zr (SNX12_15 S o) (MNX12_75 S M o) := zr_ms hz208 ((List.getElem?_eq_some_iff.mp hf58).1)
  have hw211 : ie_wf (SNX12_15 S o) (MNX12_76 S M o) := wf_ms hw209 hf58 (Or.inl (by decide))
  have hz212 : ie_zr (SNX12_15 S o) (MNX12_76 S M o) := zr_ms hz210 ((List.getElem?_eq_some_iff.mp hf58).1)
  have hw213 : ie_wf (SNX12_15 S o) (MNX12_77 S M o) := wf_ms hw211 hf58 (Or.inl (by decide))
  have hz214 : ie_zr (SNX12_15 S o) (MNX12_77 S M o) := zr_ms hz212 ((List.getElem?_eq_some_iff.mp hf58).1)
  have hw215 : ie_wf (SNX12_15 S o) (MNX12_78 S M o) := wf_ms hw213 hf58 (Or.inl (by decide))
  have hz216 : ie_zr (SNX12_15 S o) (MNX12_78 S M o) := zr_ms hz214 ((List.getElem?_eq_some_iff.mp hf58).1)
  have hw217 : ie_wf (SNX12_15 S o) (MNX12_79 S M o) := wf_ms hw215 hf58 (Or.inl (by decide))
  have hz218 : ie_zr (SNX12_15 S o) (MNX12_79 S M o) := zr_ms hz216 ((List.getElem?_eq_some_iff.mp hf58).1)
  have hw219 : ie_wf (SNX12_15 S o) (MNX12_80 S M o) := wf_ms hw217 hf58 (Or.inl (by decide))
  have hz220 : ie_zr (SNX12_15 S o) (MNX12_80 S M o) := zr_ms hz218 ((List.getElem?_eq_some_iff.mp hf58).1)
  have hw221 : ie_wf (SNX12_15 S o) (MNX12_81 S M o) := wf_ms hw219 hf58 (Or.inl (by decide))
  have hz222 : ie_zr (SNX12_15 S o) (MNX12_81 S M o) := zr_ms hz220 ((List.getElem?_eq_some_iff.mp hf58).1)
  have hw223 : ie_wf (SNX12_15 S o) (MNX12_82 S M o) := wf_ms hw221 hf58 (Or.inl (by decide))
  have hz224 : ie_zr (SNX12_15 S o) (MNX12_82 S M o) := zr_ms hz222 ((List.getElem?_eq_some_iff.mp hf58).1)
  have hw225 : ie_wf (SNX12_15 S o) (MNX12_83 S M o) := wf_ms hw223 hf58 (Or.inl (by decide))
  have hz226 : ie_zr (SNX12_15 S o) (MNX12_83 S M o) := zr_ms hz224 ((List.getElem?_eq_some_iff.mp hf58).1)
  have hw227 : ie_wf (SNX12_15 S o) (MNX12_84 S M o) := wf_ms hw225 hf58 (Or.inl (by decide))
  have hz228 : ie_zr (SNX12_15 S o) (MNX12_84 S M o) := zr_ms hz226 ((List.getElem?_eq_some_iff.mp hf58).1)
  have hw229 : ie_wf (SNX12_15 S o) (MNX12_85 S M o) := wf_ms hw227 hf58 (Or.inl (by decide))
  have hz230 : ie_zr (SNX12_15 S o) (MNX12_85 S M o) := zr_ms hz228 ((List.getElem?_eq_some_iff.mp hf58).1)
  have hw231 : ie_wf (SNX12_15 S o) (MNX12_86 S M o) := wf_ms hw229 hf58 (Or.inl (by decide))
  have hz232 : ie_zr (SNX12_15 S o) (MNX12_86 S M o) := zr_ms hz230 ((List.getElem?_eq_some_iff.mp hf58).1)
  have hw233 : ie_wf (SNX12_15 S o) (MNX12_87 S M o) := wf_ms hw231 hf58 (Or.inl (by decide))
  have hz234 : ie_zr (SNX12_15 S o) (MNX12_87 S M o) := zr_ms hz232 ((List.getElem?_eq_some_iff.mp hf58).1)
  have hw235 : ie_wf (SNX12_15 S o) (MNX12_88 S M o) := wf_ms hw233 hf58 (Or.inl (by decide))
  have hz236 : ie_zr (SNX12_15 S o) (MNX12_88 S M o) := zr_ms hz234 ((List.getElem?_eq_some_iff.mp hf58).1)
  have hw237 : ie_wf (SNX12_15 S o) (MNX12_89 S M o) := wf_ms hw235 hf58 (Or.inl (by decide))
  have hz238 : ie_zr (SNX12_15 S o) (MNX12_89 S M o) := zr_ms hz236 ((List.getElem?_eq_some_iff.mp hf58).1)
  have hw239 : ie_wf (SNX12_15 S o) (MNX12_90 S M o) := wf_ms hw237 hf58 (Or.inl (by decide))
  have hz240 : ie_zr (SNX12_15 S o) (MNX12_90 S M o) := zr_ms hz238 ((List.getElem?_eq_some_iff.mp hf58).1)
  have hw241 : ie_wf (SNX12_15 S o) (MNX12_91 S M o) := wf_ms hw239 hf58 (Or.inl (by decide))
  have hz242 : ie_zr (SNX12_15 S o) (MNX12_91 S M o) := zr_ms hz240 ((List.getElem?_eq_some_iff.mp hf58).1)
  have hw243 : ie_wf (SNX12_15 S o) (MNX12_92 S M o) := wf_ms hw241 hf58 (Or.inl (by decide))
  have hz244 : ie_zr (SNX12_15 S o) (MNX12_92 S M o) := zr_ms hz242 ((List.getElem?_eq_some_iff.mp hf58).1)
  have hw245 : ie_wf (SNX12_15 S o) (MNX12_93 S M o) := wf_ms hw243 hf58 (Or.inl (by decide))
  have hz246 : ie_zr (SNX12_15 S o) (MNX12_93 S M o) := zr_ms hz244 ((List.getElem?_eq_some_iff.mp hf58).1)
  have hw247 : ie_wf (SNX12_15 S o) (MNX12_94 S M o) := wf_ms hw245 hf58 (Or.inl (by decide))
  have hz248 : ie_zr (SNX12_15 S o) (MNX12_94 S M o) := zr_ms hz246 ((List.getElem?_eq_some_iff.mp hf58).1)
  have hw249 : ie_wf (SNX12_15 S o) (MNX12_95 S M o) := wf_ms hw247 hf58 (Or.inl (by decide))
  have hz250 : ie_zr (SNX12_15 S o) (MNX12_95 S M o) := zr_ms hz248 ((List.getElem?_eq_some_iff.mp hf58).1)
  have hw251 : ie_wf (SNX12_15 S o) (MNX12_96 S M o) := wf_ms hw249 hf58 (Or.inl (by decide))
  have hz252 : ie_zr (SNX12_15 S o) (MNX12_96 S M o) := zr_ms hz250 ((List.getElem?_eq_some_iff.mp hf58).1)
  have hw253 : ie_wf (SNX12_15 S o) (MNX12_97 S M o) := wf_ms hw251 hf58 (Or.inl (by decide))
  have hz254 : ie_zr (SNX12_15 S o) (MNX12_97 S M o) := zr_ms hz252 ((List.getElem?_eq_some_iff.mp hf58).1)
  have hw255 : ie_wf (SNX12_15 S o) (MNX12_98 S M o) := wf_ms hw253 hf58 (Or.inl (by decide))
  have hz256 : ie_zr (SNX12_15 S o) (MNX12_98 S M o) := zr_ms hz254 ((List.getElem?_eq_some_iff.mp hf58).1)
  have hw257 : ie_wf (SNX12_15 S o) (MNX12_99 S M o) := wf_ms hw255 hf58 (Or.inl (by decide))
  have hz258 : ie_zr (SNX12_15 S o) (MNX12_99 S M o) := zr_ms hz256 ((List.getElem?_eq_some_iff.mp hf58).1)
  have hw259 : ie_wf (SNX12_15 S o) (MNX12_100 S M o) := wf_ms hw257 hf58 (Or.inl (by decide))
  have hz260 : ie_zr (SNX12_15 S o) (MNX12_100 S M o) := zr_ms hz258 ((List.getElem?_eq_some_iff.mp hf58).1)
  have hw261 : ie_wf (SNX12_15 S o) (MNX12_101 S M o) := wf_ms hw259 hf58 (Or.inl (by decide))
  have hz262 : ie_zr (SNX12_15 S o) (MNX12_101 S M o) := zr_ms hz260 ((List.getElem?_eq_some_iff.mp hf58).1)
  have hw263 : ie_wf (SNX12_15 S o) (MNX12_102 S M o) := wf_ms hw261 hf58 (Or.inl (by decide))
  have hz264 : ie_zr (SNX12_15 S o) (MNX12_102 S M o) := zr_ms hz262 ((List.getElem?_eq_some_iff.mp hf58).1)
  have hw265 : ie_wf (SNX12_15 S o) (MNX12_103 S M o) := wf_ms hw263 hf58 (Or.inl (by decide))
  have hz266 : ie_zr (SNX12_15 S o) (MNX12_103 S M o) := zr_ms hz264 ((List.getElem?_eq_some_iff.mp hf58).1)
  have hw267 : ie_wf (SNX12_15 S o) (MNX12_104 S M o) := wf_ms hw265 hf58 (Or.inl (by decide))
  have hz268 : ie_zr (SNX12_15 S o) (MNX12_104 S M o) := zr_ms hz266 ((List.getElem?_eq_some_iff.mp hf58).1)
  have hf269 : (SNX12_16 S o)[o]? = some (14, 53, [none, some (some S.length), some (some (SNX12_2 S o).length), none, some (some (SNX12_4 S o).length), none, none, some (some (SNX12_6 S o).length), none, none, none, some (some (SNX12_8 S o).length), some (some (SNX12_10 S o).length), some (some (SNX12_12 S o).length), none, none, none, none, none, some (some (SNX12_14 S o).length), some none, some none, some none, some none, some none, some none, some none, none, none, none, some none, none, none, none, none, none, none, some none, none, some none, some none, some none, some none, some none, some none, some none, some none, some none, some none, none, none, none, some none]) := st_at hf57
  have hf270 : (SNX12_16 S o)[(SNX12_14 S o).length]? = some (0, 104, []) := st_at' hf58 (Nat.ne_of_lt (List.getElem?_eq_some_iff.mp hf53).1)
  have hw271 : ie_wf (SNX12_16 S o) (MNX12_104 S M o) := by have zz := wf_set (i := 19) (r := (SNX12_14 S o).length) hw267 hf57 ((List.getElem?_eq_some_iff.mp hf58).1); exact zz
  have hz272 : ie_zr (SNX12_16 S o) (MNX12_104 S M o) := zr_set hz268
  have hf273 : (SNX12_17 S o)[o]? = some (14, 53, [none, some (some S.length), some (some (SNX12_2 S o).length), none, some (some (SNX12_4 S o).length), none, none, some (some (SNX12_6 S o).length), none, none, none, some (some (SNX12_8 S o).length), some (some (SNX12_10 S o).length), some (some (SNX12_12 S o).length), none, none, none, none, none, some (some (SNX12_14 S o).length), some none, some none, some none, some none, some none, some none, some none, none, none, none, some none, none, none, none, none, none, none, some none, none, some none, some none, some none, some none, some none, some none, some none, some none, some none, some none, none, none, none, some none]) := ap_at hf269
  have hf274 : (SNX12_17 S o)[(SNX12_16 S o).length]? = some (0, 2, []) := nw_at
  have hw275 : ie_wf (SNX12_17 S o) (MNX12_104 S M o) := wf_app hw271 (by simp) hz272
  have hz276 : ie_zr (SNX12_17 S o) (MNX12_104 S M o) := zr_app hz272
  have hf277 : (SNX12_18 S o)[o]? = some (14, 53, [none, some (some S.length), some (some (SNX12_2 S o).length), none, some (some (SNX12_4 S o).length), none, none, some (some (SNX12_6 S o).length), none, none, none, some (some (SNX12_8 S o).length), some (some (SNX12_10 S o).length), some (some (SNX12_12 S o).length), none, none, none, none, none, some (some (SNX12_14 S o).length), some (some (SNX12_16 S o).length), some none, some none, some none, some none, some none, some none, none, none, none, some none, none, none, none, none, none, none, some none, none, some none, some none, some none, some none, some none, some none, some none, some none, some none, some none, none, none, none, some none]) := st_at hf273
  have hf278 : (SNX12_18 S o)[(SNX12_16 S o).length]? = some (0, 2, []) := st_at' hf274 (Nat.ne_of_lt (List.getElem?_eq_some_iff.mp hf269).1)
  have hw279 : ie_wf (SNX12_18 S o) (MNX12_104 S M o) := by have zz := wf_set (i := 20) (r := (SNX12_16 S o).length) hw275 hf273 ((List.getElem?_eq_some_iff.mp hf274).1); exact zz
  have hz280 : ie_zr (SNX12_18 S o) (MNX12_104 S M o) := zr_set hz276
  have hf281 : (SNX12_19 S o)[o]? = some (14, 53, [none, some (some S.length), some (some (SNX12_2 S o).length), none, some (some (SNX12_4 S o).length), none, none, some (some (SNX12_6 S o).length), none, none, none, some (some (SNX12_8 S o).length), some (some (SNX12_10 S o).length), some (some (SNX12_12 S o).length), none, none, none, none, none, some (some (SNX12_14 S o).length), some (some (SNX12_16 S o).length), some none, some none, some none, some none, some none, some none, none, none, none, some none, none, none, none, none, none, none, some none, none, some none, some none, some none, some none, some none, some none, some none, some none, some none, some none, none, none, none, some none]) := ap_at hf277
  have hf282 : (SNX12_19 S o)[(SNX12_18 S o).length]? = some (0, 48, []) := nw_at
  have hw283 : ie_wf (SNX12_19 S o) (MNX12_104 S M o) := wf_app hw279 (by simp) hz280
  have hz284 : ie_zr (SNX12_19 S o) (MNX12_104 S M o) := zr_app hz280
  have hf285 : (SNX12_20 S o)[o]? = some (14, 53, [none, some (some S.length), some (some (SNX12_2 S o).length), none, some (some (SNX12_4 S o).length), none, none, some (some (SNX12_6 S o).length), none, none, none, some (some (SNX12_8 S o).length), some (some (SNX12_10 S o).length), some (some (SNX12_12 S o).length), none, none, none, none, none, some (some (SNX12_14 S o).length), some (some (SNX12_16 S o).length), some (some (SNX12_18 S o).length), some none, some none, some none, some none, some none, none, none, none, some none, none, none, none, none, none, none, some none, none, some none, some none, some none, some none, some none, some none, some none, some none, some none, some none, none, none, none, some none]) := st_at hf281
  have hf286 : (SNX12_20 S o)[(SNX12_18 S o).length]? = some (0, 48, []) := st_at' hf282 (Nat.ne_of_lt (List.getElem?_eq_some_iff.mp hf277).1)
  have hw287 : ie_wf (SNX12_20 S o) (MNX12_104 S M o) := by have zz := wf_set (i := 21) (r := (SNX12_18 S o).length) hw283 hf281 ((List.getElem?_eq_some_iff.mp hf282).1); exact zz
  have hz288 : ie_zr (SNX12_20 S o) (MNX12_104 S M o) := zr_set hz284
  have hf289 : (SNX12_21 S o)[o]? = some (14, 53, [none, some (some S.length), some (some (SNX12_2 S o).length), none, some (some (SNX12_4 S o).length), none, none, some (some (SNX12_6 S o).length), none, none, none, some (some (SNX12_8 S o).length), some (some (SNX12_10 S o).length), some (some (SNX12_12 S o).length), none, none, none, none, none, some (some (SNX12_14 S o).length), some (some (SNX12_16 S o).length), some (some (SNX12_18 S o).length), some none, some none, some none, some none, some none, none, none, none, some none, none, none, none, none, none, none, some none, none, some none, some none, some none, some none, some none, some none, some none, some none, some none, some none, none, none, none, some none]) := ap_at hf285
  have hf290 : (SNX12_21 S o)[(SNX12_20 S o).length]? = some (0, 48, []) := nw_at
  have hw291 : ie_wf (SNX12_21 S o) (MNX12_104 S M o) := wf_app hw287 (by simp) hz288
  have hz292 : ie_zr (SNX12_21 S o) (MNX12_104 S M o) := zr_app hz288
  have hf293 : (SNX12_22 S o)[o]? = some (14, 53, [none, some (some S.length), some (some (SNX12_2 S o).length), none, some (some (SNX12_4 S o).length), none, none, some (some (SNX12_6 S o).length), none, none, none, some (some (SNX12_8 S o).length), some (some (SNX12_10 S o).length), some (some (SNX12_12 S o).length), none, none, none, none, none, some (some (SNX12_14 S o).length), some (some (SNX12_16 S o).length), some (some (SNX12_18 S o).length), some (some (SNX12_20 S o).length), some none, some none, some none, some none, none, none, none, some none, none, none, none, none, none, none, some none, none, some none, some none, some none, some none, some none, some none, some none, some none, some none, some none, none, none, none, some none]) := st_at hf289
  have hf294 : (SNX12_22 S o)[(SNX12_20 S o).length]? = some (0, 48, []) := st_at' hf290 (Nat.ne_of_lt (List.getElem?_eq_some_iff.mp hf285).1)
  have hw295 : ie_wf (SNX12_22 S o) (MNX12_104 S M o) := by have zz := wf_set (i := 22) (r := (SNX12_20 S o).length) hw291 hf289 ((List.getElem?_eq_some_iff.mp hf290).1); exact zz
  have hz296 : ie_zr (SNX12_22 S o) (MNX12_104 S M o) := zr_set hz292
  have hf297 : (SNX12_23 S o)[o]? = some (14, 53, [none, some (some S.length), some (some (SNX12_2 S o).length), none, some (some (SNX12_4 S o).length), none, none, some (some (SNX12_6 S o).length), none, none, none, some (some (SNX12_8 S o).length), some (some (SNX12_10 S o).length), some (some (SNX12_12 S o).length), none, none, none, none, none, some (some (SNX12_14 S o).length), some (some (SNX12_16 S o).length), some (some (SNX12_18 S o).length), some (some (SNX12_20 S o).length), some none, some none, some none, some none, none, none, none, some none, none, none, none, none, none, none, some none, none, some none, some none, some none, some none, some none, some none, some none, some none, some none, some none, none, none, none, some none]) := ap_at hf293
  have hf298 : (SNX12_23 S o)[(SNX12_22 S o).length]? = some (0, 48, []) := nw_at
  have hw299 : ie_wf (SNX12_23 S o) (MNX12_104 S M o) := wf_app hw295 (by simp) hz296
  have hz300 : ie_zr (SNX12_23 S o) (MNX12_104 S M o) := zr_app hz296
  have hf301 : (SNX12_24 S o)[o]? = some (14, 53, [none, some (some S.length), some (some (SNX12_2 S o).length), none, some (some (SNX12_4 S o).length), none, none, some (some (SNX12_6 S o).length), none, none, none, some (some (SNX12_8 S o).length), some (some (SNX12_10 S o).length), some (some (SNX12_12 S o).length), none, none, none, none, none, some (some (SNX12_14 S o).length), some (some (SNX12_16 S o).length), some (some (SNX12_18 S o).length), some (some (SNX12_20 S o).length), some (some (SNX12_22 S o).length), some none, some none, some none, none, none, none, some none, none, none, none, none, none, none, some none, none, some none, some none, some none, some none, some none, some none, some none, some none, some none, some none, none, none, none, some none]) := st_at hf297
  have hf302 : (SNX12_24 S o)[(SNX12_22 S o).length]? = some (0, 48, []) := st_at' hf298 (Nat.ne_of_lt (List.getElem?_eq_some_iff.mp hf293).1)
  have hw303 : ie_wf (SNX12_24 S o) (MNX12_104 S M o) := by have zz := wf_set (i := 23) (r := (SNX12_22 S o).length) hw299 hf297 ((List.getElem?_eq_some_iff.mp hf298).1); exact zz
  have hz304 : ie_zr (SNX12_24 S o) (MNX12_104 S M o) := zr_set hz300
  have hf305 : (SNX12_25 S o)[o]? = some (14, 53, [none, some (some S.length), some (some (SNX12_2 S o).length), none, some (some (SNX12_4 S o).length), none, none, some (some (SNX12_6 S o).length), none, none, none, some (some (SNX12_8 S o).length), some (some (SNX12_10 S o).length), some (some (SNX12_12 S o).length), none, none, none, none, none, some (some (SNX12_14 S o).length), some (some (SNX12_16 S o).length), some (some (SNX12_18 S o).length), some (some (SNX12_20 S o).length), some (some (SNX12_22 S o).length), some none, some none, some none, none, none, none, some none, none, none, none, none, none, none, some none, none, some none, some none, some none, some none, some none, some none, some none, some none, some none, some none, none, none, none, some none]) := ap_at hf301
  have hf306 : (SNX12_25 S o)[(SNX12_24 S o).length]? = some (0, 48, []) := nw_at
  have hw307 : ie_wf (SNX12_25 S o) (MNX12_104 S M o) := wf_app hw303 (by simp) hz304
  have hz308 : ie_zr (SNX12_25 S o) (MNX12_104 S M o) := zr_app hz304
  have hf309 : (SNX12_26 S o)[o]? = some (14, 53, [none, some (some S.length), some (some (SNX12_2 S o).length), none, some (some (SNX12_4 S o).length), none, none, some (some (SNX12_6 S o).length), none, none, none, some (some (SNX12_8 S o).length), some (some (SNX12_10 S o).length), some (some (SNX12_12 S o).length), none, none, none, none, none, some (some (SNX12_14 S o).length), some (some (SNX12_16 S o).length), some (some (SNX12_18 S o).length), some (some (SNX12_20 S o).length), some (some (SNX12_22 S o).length), some (some (SNX12_24 S o).length), some none, some none, none, none, none, some none, none, none, none, none, none, none, some none, none, some none, some none, some none, some none, some none, some none, some none, some none, some none, some none, none, none, none, some none]) := st_at hf305
  have hf310 : (SNX12_26 S o)[(SNX12_24 S o).length]? = some (0, 48, []) := st_at' hf306 (Nat.ne_of_lt (List.getElem?_eq_some_iff.mp hf301).1)
  have hw311 : ie_wf (SNX12_26 S o) (MNX12_104 S M o) := by have zz := wf_set (i := 24) (r := (SNX12_24 S o).length) hw307 hf305 ((List.getElem?_eq_some_iff.mp hf306).1); exact zz
  have hz312 : ie_zr (SNX12_26 S o) (MNX12_104 S M o) := zr_set hz308
  have hf313 : (SNX12_27 S o)[o]? = some (14, 53, [none, some (some S.length), some (some (SNX12_2 S o).length), none, some (some (SNX12_4 S o).length), none, none, some (some (SNX12_6 S o).length), none, none, none, some (some (SNX12_8 S o).length), some (some (SNX12_10 S o).length), some (some (SNX12_12 S o).length), none, none, none, none, none, some (some (SNX12_14 S o).length), some (some (SNX12_16 S o).length), some (some (SNX12_18 S o).length), some (some (SNX12_20 S o).length), some (some (SNX12_22 S o).length), some (some (SNX12_24 S o).length), some none, some none, none, none, none, some none, none, none, none, none, none, none, some none, none, some none, some none, some none, some none, some none, some none, some none, some none, some none, some none, none, none, none, some none]) := ap_at hf309
  have hf314 : (SNX12_27 S o)[(SNX12_26 S o).length]? = some (0, 1200, []) := nw_at
  have hw315 : ie_wf (SNX12_27 S o) (MNX12_104 S M o) := wf_app hw311 (by simp) hz312
  have hz316 : ie_zr (SNX12_27 S o) (MNX12_104 S M o) := zr_app hz312
  have hf317 : (SNX12_28 S o)[o]? = some (14, 53, [none, some (some S.length), some (some (SNX12_2 S o).length), none, some (some (SNX12_4 S o).length), none, none, some (some (SNX12_6 S o).length), none, none, none, some (some (SNX12_8 S o).length), some (some (SNX12_10 S o).length), some (some (SNX12_12 S o).length), none, none, none, none, none, some (some (SNX12_14 S o).length), some (some (SNX12_16 S o).length), some (some (SNX12_18 S o).length), some (some (SNX12_20 S o).length), some (some (SNX12_22 S o).length), some (some (SNX12_24 S o).length), some (some (SNX12_26 S o).length), some none, none, none, none, some none, none, none, none, none, none, none, some none, none, some none, some none, some none, some none, some none, some none, some none, some none, some none, some none, none, none, none, some none]) := st_at hf313
  have hf318 : (SNX12_28 S o)[(SNX12_26 S o).length]? = some (0, 1200, []) := st_at' hf314 (Nat.ne_of_lt (List.getElem?_eq_some_iff.mp hf309).1)
  have hw319 : ie_wf (SNX12_28 S o) (MNX12_104 S M o) := by have zz := wf_set (i := 25) (r := (SNX12_26 S o).length) hw315 hf313 ((List.getElem?_eq_some_iff.mp hf314).1); exact zz
  have hz320 : ie_zr (SNX12_28 S o) (MNX12_104 S M o) := zr_set hz316
  have hf321 : (SNX12_29 S o)[o]? = some (14, 53, [none, some (some S.length), some (some (SNX12_2 S o).length), none, some (some (SNX12_4 S o).length), none, none, some (some (SNX12_6 S o).length), none, none, none, some (some (SNX12_8 S o).length), some (some (SNX12_10 S o).length), some (some (SNX12_12 S o).length), none, none, none, none, none, some (some (SNX12_14 S o).length), some (some (SNX12_16 S o).length), some (some (SNX12_18 S o).length), some (some (SNX12_20 S o).length), some (some (SNX12_22 S o).length), some (some (SNX12_24 S o).length), some (some (SNX12_26 S o).length), some none, none, none, none, some none, none, none, none, none, none, none, some none, none, some none, some none, some none, some none, some none, some none, some none, some none, some none, some none, none, none, none, some none]) := ap_at hf317
  have hf322 : (SNX12_29 S o)[(SNX12_28 S o).length]? = some (0, 1200, []) := nw_at
  have hw323 : ie_wf (SNX12_29 S o) (MNX12_104 S M o) := wf_app hw319 (by simp) hz320
  have hz324 : ie_zr (SNX12_29 S o) (MNX12_104 S M o) := zr_app hz320
  have hf325 : (SNX12_30 S o)[o]? = some (14, 53, [none, some (some S.length), some (some (SNX12_2 S o).length), none, some (some (SNX12_4 S o).length), none, none, some (some (SNX12_6 S o).length), none, none, none, some (some (SNX12_8 S o).length), some (some (SNX12_10 S o).length), some (some (SNX12_12 S o).length), none, none, none, none, none, some (some (SNX12_14 S o).length), some (some (SNX12_16 S o).length), some (some (SNX12_18 S o).length), some (some (SNX12_20 S o).length), some (some (SNX12_22 S o).length), some (some (SNX12_24 S o).length), some (some (SNX12_26 S o).length), some (some (SNX12_28 S o).length), none, none, none, some none, none, none, none, none, none, none, some none, none, some none, some none, some none, some none, some none, some none, some none, some none, some none, some none, none, none, none, some none]) := st_at hf321
  have hf326 : (SNX12_30 S o)[(SNX12_28 S o).length]? = some (0, 1200, []) := st_at' hf322 (Nat.ne_of_lt (List.getElem?_eq_some_iff.mp hf317).1)
  have hw327 : ie_wf (SNX12_30 S o) (MNX12_104 S M o) := by have zz := wf_set (i := 26) (r := (SNX12_28 S o).length) hw323 hf321 ((List.getElem?_eq_some_iff.mp hf322).1); exact zz
  have hz328 : ie_zr (SNX12_30 S o) (MNX12_104 S M o) := zr_set hz324
  have hf329 : (SNX12_31 S o)[o]? = some (14, 53, [none, some (some S.length), some (some (SNX12_2 S o).length), none, some (some (SNX12_4 S o).length), none, none, some (some (SNX12_6 S o).length), none, none, none, some (some (SNX12_8 S o).length), some (some (SNX12_10 S o).length), some (some (SNX12_12 S o).length), none, none, none, none, none, some (some (SNX12_14 S o).length), some (some (SNX12_16 S o).length), some (some (SNX12_18 S o).length), some (some (SNX12_20 S o).length), some (some (SNX12_22 S o).length), some (some (SNX12_24 S o).length), some (some (SNX12_26 S o).length), some (some (SNX12_28 S o).length), none, none, none, some none, none, none, none, none, none, none, some none, none, some none, some none, some none, some none, some none, some none, some none, some none, some none, some none, none, none, none, some none]) := ap_at hf325
  have hf330 : (SNX12_31 S o)[(SNX12_30 S o).length]? = some (0, 40, []) := nw_at
  have hw331 : ie_wf (SNX12_31 S o) (MNX12_104 S M o) := wf_app hw327 (by simp) hz328
  have hz332 : ie_zr (SNX12_31 S o) (MNX12_104 S M o) := zr_app hz328
  have hf333 : (SNX12_32 S o)[o]? = some (14, 53, [none, some (some S.length), some (some (SNX12_2 S o).length), none, some (some (SNX12_4 S o).length), none, none, some (some (SNX12_6 S o).length), none, none, none, some (some (SNX12_8 S o).length), some (some (SNX12_10 S o).length), some (some (SNX12_12 S o).length), none, none, none, none, none, some (some (SNX12_14 S o).length), some (some (SNX12_16 S o).length), some (some (SNX12_18 S o).length), some (some (SNX12_20 S o).length), some (some (SNX12_22 S o).length), some (some (SNX12_24 S o).length), some (some (SNX12_26 S o).length), some (some (SNX12_28 S o).length), none, none, none, some (some (SNX12_30 S o).length), none, none, none, none, none, none, some none, none, some none, some none, some none, some none, some none, some none, some none, some none, some none, some none, none, none, none, some none]) := st_at hf329
  have hf334 : (SNX12_32 S o)[(SNX12_30 S o).length]? = some (0, 40, []) := st_at' hf330 (Nat.ne_of_lt (List.getElem?_eq_some_iff.mp hf325).1)
  have hw335 : ie_wf (SNX12_32 S o) (MNX12_104 S M o) := by have zz := wf_set (i := 30) (r := (SNX12_30 S o).length) hw331 hf329 ((List.getElem?_eq_some_iff.mp hf330).1); exact zz
  have hz336 : ie_zr (SNX12_32 S o) (MNX12_104 S M o) := zr_set hz332
  have hw337 : ie_wf (SNX12_32 S o) (MNX12_105 S M o) := wf_ms hw335 hf333 (Or.inl (by decide))
  have hz338 : ie_zr (SNX12_32 S o) (MNX12_105 S M o) := zr_ms hz336 ((List.getElem?_eq_some_iff.mp hf333).1)
  have hf339 : (SNX12_33 S o)[o]? = some (14, 53, [none, some (some S.length), some (some (SNX12_2 S o).length), none, some (some (SNX12_4 S o).length), none, none, some (some (SNX12_6 S o).length), none, none, none, some (some (SNX12_8 S o).length), some (some (SNX12_10 S o).length), some (some (SNX12_12 S o).length), none, none, none, none, none, some (some (SNX12_14 S o).length), some (some (SNX12_16 S o).length), some (some (SNX12_18 S o).length), some (some (SNX12_20 S o).length), some (some (SNX12_22 S o).length), some (some (SNX12_24 S o).length), some (some (SNX12_26 S o).length), some (some (SNX12_28 S o).length), none, none, none, some (some (SNX12_30 S o).length), none, none, none, none, none, none, some none, none, some none, some none, some none, some none, some none, some none, some none, some none, some none, some none, none, none, none, some none]) := ap_at hf333
  have hf340 : (SNX12_33 S o)[(SNX12_32 S o).length]? = some (0, 64, []) := nw_at
  have hw341 : ie_wf (SNX12_33 S o) (MNX12_105 S M o) := wf_app hw337 (by simp) hz338
  have hz342 : ie_zr (SNX12_33 S o) (MNX12_105 S M o) := zr_app hz338
  have hf343 : (SNX12_34 S o)[o]? = some (14, 53, [none, some (some S.length), some (some (SNX12_2 S o).length), none, some (some (SNX12_4 S o).length), none, none, some (some (SNX12_6 S o).length), none, none, none, some (some (SNX12_8 S o).length), some (some (SNX12_10 S o).length), some (some (SNX12_12 S o).length), none, none, none, none, none, some (some (SNX12_14 S o).length), some (some (SNX12_16 S o).length), some (some (SNX12_18 S o).length), some (some (SNX12_20 S o).length), some (some (SNX12_22 S o).length), some (some (SNX12_24 S o).length), some (some (SNX12_26 S o).length), some (some (SNX12_28 S o).length), none, none, none, some (some (SNX12_30 S o).length), none, none, none, none, none, none, some (some (SNX12_32 S o).length), none, some none, some none, some none, some none, some none, some none, some none, some none, some none, some none, none, none, none, some none]) := st_at hf339
  have hf344 : (SNX12_34 S o)[(SNX12_32 S o).length]? = some (0, 64, []) := st_at' hf340 (Nat.ne_of_lt (List.getElem?_eq_some_iff.mp hf333).1)
  have hw345 : ie_wf (SNX12_34 S o) (MNX12_105 S M o) := by have zz := wf_set (i := 37) (r := (SNX12_32 S o).length) hw341 hf339 ((List.getElem?_eq_some_iff.mp hf340).1); exact zz
  have hz346 : ie_zr (SNX12_34 S o) (MNX12_105 S M o) := zr_set hz342
  have hf347 : (SNX12_35 S o)[o]? = some (14, 53, [none, some (some S.length), some (some (SNX12_2 S o).length), none, some (some (SNX12_4 S o).length), none, none, some (some (SNX12_6 S o).length), none, none, none, some (some (SNX12_8 S o).length), some (some (SNX12_10 S o).length), some (some (SNX12_12 S o).length), none, none, none, none, none, some (some (SNX12_14 S o).length), some (some (SNX12_16 S o).length), some (some (SNX12_18 S o).length), some (some (SNX12_20 S o).length), some (some (SNX12_22 S o).length), some (some (SNX12_24 S o).length), some (some (SNX12_26 S o).length), some (some (SNX12_28 S o).length), none, none, none, some (some (SNX12_30 S o).length), none, none, none, none, none, none, some (some (SNX12_32 S o).length), none, some none, some none, some none, some none, some none, some none, some none, some none, some none, some none, none, none, none, some none]) := ap_at hf343
  have hf348 : (SNX12_35 S o)[(SNX12_34 S o).length]? = some (0, 96, []) := nw_at
  have hw349 : ie_wf (SNX12_35 S o) (MNX12_105 S M o) := wf_app hw345 (by simp) hz346
  have hz350 : ie_zr (SNX12_35 S o) (MNX12_105 S M o) := zr_app hz346
  have hf351 : (SNX12_36 S o)[o]? = some (14, 53, [none, some (some S.length), some (some (SNX12_2 S o).length), none, some (some (SNX12_4 S o).length), none, none, some (some (SNX12_6 S o).length), none, none, none, some (some (SNX12_8 S o).length), some (some (SNX12_10 S o).length), some (some (SNX12_12 S o).length), none, none, none, none, none, some (some (SNX12_14 S o).length), some (some (SNX12_16 S o).length), some (some (SNX12_18 S o).length), some (some (SNX12_20 S o).length), some (some (SNX12_22 S o).length), some (some (SNX12_24 S o).length), some (some (SNX12_26 S o).length), some (some (SNX12_28 S o).length), none, none, none, some (some (SNX12_30 S o).length), none, none, none, none, none, none, some (some (SNX12_32 S o).length), none, some (some (SNX12_34 S o).length), some none, some none, some none, some none, some none, some none, some none, some none, some none, none, none, none, some none]) := st_at hf347
  have hf352 : (SNX12_36 S o)[(SNX12_34 S o).length]? = some (0, 96, []) := st_at' hf348 (Nat.ne_of_lt (List.getElem?_eq_some_iff.mp hf343).1)
  have hw353 : ie_wf (SNX12_36 S o) (MNX12_105 S M o) := by have zz := wf_set (i := 39) (r := (SNX12_34 S o).length) hw349 hf347 ((List.getElem?_eq_some_iff.mp hf348).1); exact zz
  have hz354 : ie_zr (SNX12_36 S o) (MNX12_105 S M o) := zr_set hz350
  have hf355 : (SNX12_37 S o)[o]? = some (14, 53, [none, some (some S.length), some (some (SNX12_2 S o).length), none, some (some (SNX12_4 S o).length), none, none, some (some (SNX12_6 S o).length), none, none, none, some (some (SNX12_8 S o).length), some (some (SNX12_10 S o).length), some (some (SNX12_12 S o).length), none, none, none, none, none, some (some (SNX12_14 S o).length), some (some (SNX12_16 S o).length), some (some (SNX12_18 S o).length), some (some (SNX12_20 S o).length), some (some (SNX12_22 S o).length), some (some (SNX12_24 S o).length), some (some (SNX12_26 S o).length), some (some (SNX12_28 S o).length), none, none, none, some (some (SNX12_30 S o).length), none, none, none, none, none, none, some (some (SNX12_32 S o).length), none, some (some (SNX12_34 S o).length), some none, some none, some none, some none, some none, some none, some none, some none, some none, none, none, none, some none]) := ap_at hf351
  have hf356 : (SNX12_37 S o)[(SNX12_36 S o).length]? = some (0, 9, []) := nw_at
  have hw357 : ie_wf (SNX12_37 S o) (MNX12_105 S M o) := wf_app hw353 (by simp) hz354
  have hz358 : ie_zr (SNX12_37 S o) (MNX12_105 S M o) := zr_app hz354
  have hf359 : (SNX12_38 S o)[o]? = some (14, 53, [none, some (some S.length), some (some (SNX12_2 S o).length), none, some (some (SNX12_4 S o).length), none, none, some (some (SNX12_6 S o).length), none, none, none, some (some (SNX12_8 S o).length), some (some (SNX12_10 S o).length), some (some (SNX12_12 S o).length), none, none, none, none, none, some (some (SNX12_14 S o).length), some (some (SNX12_16 S o).length), some (some (SNX12_18 S o).length), some (some (SNX12_20 S o).length), some (some (SNX12_22 S o).length), some (some (SNX12_24 S o).length), some (some (SNX12_26 S o).length), some (some (SNX12_28 S o).length), none, none, none, some (some (SNX12_30 S o).length), none, none, none, none, none, none, some (some (SNX12_32 S o).length), none, some (some (SNX12_34 S o).length), some (some (SNX12_36 S o).length), some none, some none, some none, some none, some none, some none, some none, some none, none, none, none, some none]) := st_at hf355
  have hf360 : (SNX12_38 S o)[(SNX12_36 S o).length]? = some (0, 9, []) := st_at' hf356 (Nat.ne_of_lt (List.getElem?_eq_some_iff.mp hf351).1)
  have hw361 : ie_wf (SNX12_38 S o) (MNX12_105 S M o) := by have zz := wf_set (i := 40) (r := (SNX12_36 S o).length) hw357 hf355 ((List.getElem?_eq_some_iff.mp hf356).1); exact zz
  have hz362 : ie_zr (SNX12_38 S o) (MNX12_105 S M o) := zr_set hz358
  have hf363 : (SNX12_39 S o)[o]? = some (14, 53, [none, some (some S.length), some (some (SNX12_2 S o).length), none, some (some (SNX12_4 S o).length), none, none, some (some (SNX12_6 S o).length), none, none, none, some (some (SNX12_8 S o).length), some (some (SNX12_10 S o).length), some (some (SNX12_12 S o).length), none, none, none, none, none, some (some (SNX12_14 S o).length), some (some (SNX12_16 S o).length), some (some (SNX12_18 S o).length), some (some (SNX12_20 S o).length), some (some (SNX12_22 S o).length), some (some (SNX12_24 S o).length), some (some (SNX12_26 S o).length), some (some (SNX12_28 S o).length), none, none, none, some (some (SNX12_30 S o).length), none, none, none, none, none, none, some (some (SNX12_32 S o).length), none, some (some (SNX12_34 S o).length), some (some (SNX12_36 S o).length), some none, some none, some none, some none, some none, some none, some none, some none, none, none, none, some none]) := ap_at hf359
  have hf364 : (SNX12_39 S o)[(SNX12_38 S o).length]? = some (0, 420, []) := nw_at
  have hw365 : ie_wf (SNX12_39 S o) (MNX12_105 S M o) := wf_app hw361 (by simp) hz362
  have hz366 : ie_zr (SNX12_39 S o) (MNX12_105 S M o) := zr_app hz362
  have hf367 : (SNX12_40 S o)[o]? = some (14, 53, [none, some (some S.length), some (some (SNX12_2 S o).length), none, some (some (SNX12_4 S o).length), none, none, some (some (SNX12_6 S o).length), none, none, none, some (some (SNX12_8 S o).length), some (some (SNX12_10 S o).length), some (some (SNX12_12 S o).length), none, none, none, none, none, some (some (SNX12_14 S o).length), some (some (SNX12_16 S o).length), some (some (SNX12_18 S o).length), some (some (SNX12_20 S o).length), some (some (SNX12_22 S o).length), some (some (SNX12_24 S o).length), some (some (SNX12_26 S o).length), some (some (SNX12_28 S o).length), none, none, none, some (some (SNX12_30 S o).length), none, none, none, none, none, none, some (some (SNX12_32 S o).length), none, some (some (SNX12_34 S o).length), some (some (SNX12_36 S o).length), some (some (SNX12_38 S o).length), some none, some none, some none, some none, some none, some none, some none, none, none, none, some none]) := st_at hf363
  have hf368 : (SNX12_40 S o)[(SNX12_38 S o).length]? = some (0, 420, []) := st_at' hf364 (Nat.ne_of_lt (List.getElem?_eq_some_iff.mp hf359).1)
  have hw369 : ie_wf (SNX12_40 S o) (MNX12_105 S M o) := by have zz := wf_set (i := 41) (r := (SNX12_38 S o).length) hw365 hf363 ((List.getElem?_eq_some_iff.mp hf364).1); exact zz
  have hz370 : ie_zr (SNX12_40 S o) (MNX12_105 S M o) := zr_set hz366
  have hf371 : (SNX12_41 S o)[o]? = some (14, 53, [none, some (some S.length), some (some (SNX12_2 S o).length), none, some (some (SNX12_4 S o).length), none, none, some (some (SNX12_6 S o).length), none, none, none, some (some (SNX12_8 S o).length), some (some (SNX12_10 S o).length), some (some (SNX12_12 S o).length), none, none, none, none, none, some (some (SNX12_14 S o).length), some (some (SNX12_16 S o).length), some (some (SNX12_18 S o).length), some (some (SNX12_20 S o).length), some (some (SNX12_22 S o).length), some (some (SNX12_24 S o).length), some (some (SNX12_26 S o).length), some (some (SNX12_28 S o).length), none, none, none, some (some (SNX12_30 S o).length), none, none, none, none, none, none, some (some (SNX12_32 S o).length), none, some (some (SNX12_34 S o).length), some (some (SNX12_36 S o).length), some (some (SNX12_38 S o).length), some none, some none, some none, some none, some none, some none, some none, none, none, none, some none]) := ap_at hf367
  have hf372 : (SNX12_41 S o)[(SNX12_40 S o).length]? = some (0, 10, []) := nw_at
  have hw373 : ie_wf (SNX12_41 S o) (MNX12_105 S M o) := wf_app hw369 (by simp) hz370
  have hz374 : ie_zr (SNX12_41 S o) (MNX12_105 S M o) := zr_app hz370
  have hf375 : (SNX12_42 S o)[o]? = some (14, 53, [none, some (some S.length), some (some (SNX12_2 S o).length), none, some (some (SNX12_4 S o).length), none, none, some (some (SNX12_6 S o).length), none, none, none, some (some (SNX12_8 S o).length), some (some (SNX12_10 S o).length), some (some (SNX12_12 S o).length), none, none, none, none, none, some (some (SNX12_14 S o).length), some (some (SNX12_16 S o).length), some (some (SNX12_18 S o).length), some (some (SNX12_20 S o).length), some (some (SNX12_22 S o).length), some (some (SNX12_24 S o).length), some (some (SNX12_26 S o).length), some (some (SNX12_28 S o).length), none, none, none, some (some (SNX12_30 S o).length), none, none, none, none, none, none, some (some (SNX12_32 S o).length), none, some (some (SNX12_34 S o).length), some (some (SNX12_36 S o).length), some (some (SNX12_38 S o).length), some (some (SNX12_40 S o).length), some none, some none, some none, some none, some none, some none, none, none, none, some none]) := st_at hf371
  have hf376 : (SNX12_42 S o)[(SNX12_40 S o).length]? = some (0, 10, []) := st_at' hf372 (Nat.ne_of_lt (List.getElem?_eq_some_iff.mp hf367).1)
  have hw377 : ie_wf (SNX12_42 S o) (MNX12_105 S M o) := by have zz := wf_set (i := 42) (r := (SNX12_40 S o).length) hw373 hf371 ((List.getElem?_eq_some_iff.mp hf372).1); exact zz
  have hz378 : ie_zr (SNX12_42 S o) (MNX12_105 S M o) := zr_set hz374
  have hf379 : (SNX12_43 S o)[o]? = some (14, 53, [none, some (some S.length), some (some (SNX12_2 S o).length), none, some (some (SNX12_4 S o).length), none, none, some (some (SNX12_6 S o).length), none, none, none, some (some (SNX12_8 S o).length), some (some (SNX12_10 S o).length), some (some (SNX12_12 S o).length), none, none, none, none, none, some (some (SNX12_14 S o).length), some (some (SNX12_16 S o).length), some (some (SNX12_18 S o).length), some (some (SNX12_20 S o).length), some (some (SNX12_22 S o).length), some (some (SNX12_24 S o).length), some (some (SNX12_26 S o).length), some (some (SNX12_28 S o).length), none, none, none, some (some (SNX12_30 S o).length), none, none, none, none, none, none, some (some (SNX12_32 S o).length), none, some (some (SNX12_34 S o).length), some (some (SNX12_36 S o).length), some (some (SNX12_38 S o).length), some (some (SNX12_40 S o).length), some none, some none, some none, some none, some none, some none, none, none, none, some none]) := ap_at hf375
  have hf380 : (SNX12_43 S o)[(SNX12_42 S o).length]? = some (0, 16, []) := nw_at
  have hw381 : ie_wf (SNX12_43 S o) (MNX12_105 S M o) := wf_app hw377 (by simp) hz378
  have hz382 : ie_zr (SNX12_43 S o) (MNX12_105 S M o) := zr_app hz378
  have hf383 : (SNX12_44 S o)[o]? = some (14, 53, [none, some (some S.length), some (some (SNX12_2 S o).length), none, some (some (SNX12_4 S o).length), none, none, some (some (SNX12_6 S o).length), none, none, none, some (some (SNX12_8 S o).length), some (some (SNX12_10 S o).length), some (some (SNX12_12 S o).length), none, none, none, none, none, some (some (SNX12_14 S o).length), some (some (SNX12_16 S o).length), some (some (SNX12_18 S o).length), some (some (SNX12_20 S o).length), some (some (SNX12_22 S o).length), some (some (SNX12_24 S o).length), some (some (SNX12_26 S o).length), some (some (SNX12_28 S o).length), none, none, none, some (some (SNX12_30 S o).length), none, none, none, none, none, none, some (some (SNX12_32 S o).length), none, some (some (SNX12_34 S o).length), some (some (SNX12_36 S o).length), some (some (SNX12_38 S o).length), some (some (SNX12_40 S o).length), some (some (SNX12_42 S o).length), some none, some none, some none, some none, some none, none, none, none, some none]) := st_at hf379
  have hf384 : (SNX12_44 S o)[(SNX12_42 S o).length]? = some (0, 16, []) := st_at' hf380 (Nat.ne_of_lt (List.getElem?_eq_some_iff.mp hf375).1)
  have hw385 : ie_wf (SNX12_44 S o) (MNX12_105 S M o) := by have zz := wf_set (i := 43) (r := (SNX12_42 S o).length) hw381 hf379 ((List.getElem?_eq_some_iff.mp hf380).1); exact zz
  have hz386 : ie_zr (SNX12_44 S o) (MNX12_105 S M o) := zr_set hz382
  have hf387 : (SNX12_45 S o)[o]? = some (14, 53, [none, some (some S.length), some (some (SNX12_2 S o).length), none, some (some (SNX12_4 S o).length), none, none, some (some (SNX12_6 S o).length), none, none, none, some (some (SNX12_8 S o).length), some (some (SNX12_10 S o).length), some (some (SNX12_12 S o).length), none, none, none, none, none, some (some (SNX12_14 S o).length), some (some (SNX12_16 S o).length), some (some (SNX12_18 S o).length), some (some (SNX12_20 S o).length), some (some (SNX12_22 S o).length), some (some (SNX12_24 S o).length), some (some (SNX12_26 S o).length), some (some (SNX12_28 S o).length), none, none, none, some (some (SNX12_30 S o).length), none, none, none, none, none, none, some (some (SNX12_32 S o).length), none, some (some (SNX12_34 S o).length), some (some (SNX12_36 S o).length), some (some (SNX12_38 S o).length), some (some (SNX12_40 S o).length), some (some (SNX12_42 S o).length), some none, some none, some none, some none, some none, none, none, none, some none]) := ap_at hf383
  have hf388 : (SNX12_45 S o)[(SNX12_44 S o).length]? = some (0, 161051, []) := nw_at
  have hw389 : ie_wf (SNX12_45 S o) (MNX12_105 S M o) := wf_app hw385 (by simp) hz386
  have hz390 : ie_zr (SNX12_45 S o) (MNX12_105 S M o) := zr_app hz386
  have hf391 : (SNX12_46 S o)[o]? = some (14, 53, [none, some (some S.length), some (some (SNX12_2 S o).length), none, some (some (SNX12_4 S o).length), none, none, some (some (SNX12_6 S o).length), none, none, none, some (some (SNX12_8 S o).length), some (some (SNX12_10 S o).length), some (some (SNX12_12 S o).length), none, none, none, none, none, some (some (SNX12_14 S o).length), some (some (SNX12_16 S o).length), some (some (SNX12_18 S o).length), some (some (SNX12_20 S o).length), some (some (SNX12_22 S o).length), some (some (SNX12_24 S o).length), some (some (SNX12_26 S o).length), some (some (SNX12_28 S o).length), none, none, none, some (some (SNX12_30 S o).length), none, none, none, none, none, none, some (some (SNX12_32 S o).length), none, some (some (SNX12_34 S o).length), some (some (SNX12_36 S o).length), some (some (SNX12_38 S o).length), some (some (SNX12_40 S o).length), some (some (SNX12_42 S o).length), some (some (SNX12_44 S o).length), some none, some none, some none, some none, none, none, none, some none]) := st_at hf387
  have hf392 : (SNX12_46 S o)[(SNX12_44 S o).length]? = some (0, 161051, []) := st_at' hf388 (Nat.ne_of_lt (List.getElem?_eq_some_iff.mp hf383).1)
  have hw393 : ie_wf (SNX12_46 S o) (MNX12_105 S M o) := by have zz := wf_set (i := 44) (r := (SNX12_44 S o).length) hw389 hf387 ((List.getElem?_eq_some_iff.mp hf388).1); exact zz
  have hz394 : ie_zr (SNX12_46 S o) (MNX12_105 S M o) := zr_set hz390
  have hf395 : (SNX12_47 S o)[o]? = some (14, 53, [none, some (some S.length), some (some (SNX12_2 S o).length), none, some (some (SNX12_4 S o).length), none, none, some (some (SNX12_6 S o).length), none, none, none, some (some (SNX12_8 S o).length), some (some (SNX12_10 S o).length), some (some (SNX12_12 S o).length), none, none, none, none, none, some (some (SNX12_14 S o).length), some (some (SNX12_16 S o).length), some (some (SNX12_18 S o).length), some (some (SNX12_20 S o).length), some (some (SNX12_22 S o).length), some (some (SNX12_24 S o).length), some (some (SNX12_26 S o).length), some (some (SNX12_28 S o).length), none, none, none, some (some (SNX12_30 S o).length), none, none, none, none, none, none, some (some (SNX12_32 S o).length), none, some (some (SNX12_34 S o).length), some (some (SNX12_36 S o).length), some (some (SNX12_38 S o).length), some (some (SNX12_40 S o).length), some (some (SNX12_42 S o).length), some (some (SNX12_44 S o).length), some none, some none, some none, some none, none, none, none, some none]) := ap_at hf391
  have hf396 : (SNX12_47 S o)[(SNX12_46 S o).length]? = some (0, 40, []) := nw_at
  have hw397 : ie_wf (SNX12_47 S o) (MNX12_105 S M o) := wf_app hw393 (by simp) hz394
  have hz398 : ie_zr (SNX12_47 S o) (MNX12_105 S M o) := zr_app hz394
  have hf399 : (SNX12_48 S o)[o]? = some (14, 53, [none, some (some S.length), some (some (SNX12_2 S o).length), none, some (some (SNX12_4 S o).length), none, none, some (some (SNX12_6 S o).length), none, none, none, some (some (SNX12_8 S o).length), some (some (SNX12_10 S o).length), some (some (SNX12_12 S o).length), none, none, none, none, none, some (some (SNX12_14 S o).length), some (some (SNX12_16 S o).length), some (some (SNX12_18 S o).length), some (some (SNX12_20 S o).length), some (some (SNX12_22 S o).length), some (some (SNX12_24 S o).length), some (some (SNX12_26 S o).length), some (some (SNX12_28 S o).length), none, none, none, some (some (SNX12_30 S o).length), none, none, none, none, none, none, some (some (SNX12_32 S o).length), none, some (some (SNX12_34 S o).length), some (some (SNX12_36 S o).length), some (some (SNX12_38 S o).length), some (some (SNX12_40 S o).length), some (some (SNX12_42 S o).length), some (some (SNX12_44 S o).length), some (some (SNX12_46 S o).length), some none, some none, some none, none, none, none, some none]) := st_at hf395
  have hf400 : (SNX12_48 S o)[(SNX12_46 S o).length]? = some (0, 40, []) := st_at' hf396 (Nat.ne_of_lt (List.getElem?_eq_some_iff.mp hf391).1)
  have hw401 : ie_wf (SNX12_48 S o) (MNX12_105 S M o) := by have zz := wf_set (i := 45) (r := (SNX12_46 S o).length) hw397 hf395 ((List.getElem?_eq_some_iff.mp hf396).1); exact zz
  have hz402 : ie_zr (SNX12_48 S o) (MNX12_105 S M o) := zr_set hz398
  have hf403 : (SNX12_49 S o)[o]? = some (14, 53, [none, some (some S.length), some (some (SNX12_2 S o).length), none, some (some (SNX12_4 S o).length), none, none, some (some (SNX12_6 S o).length), none, none, none, some (some (SNX12_8 S o).length), some (some (SNX12_10 S o).length), some (some (SNX12_12 S o).length), none, none, none, none, none, some (some (SNX12_14 S o).length), some (some (SNX12_16 S o).length), some (some (SNX12_18 S o).length), some (some (SNX12_20 S o).length), some (some (SNX12_22 S o).length), some (some (SNX12_24 S o).length), some (some (SNX12_26 S o).length), some (some (SNX12_28 S o).length), none, none, none, some (some (SNX12_30 S o).length), none, none, none, none, none, none, some (some (SNX12_32 S o).length), none, some (some (SNX12_34 S o).length), some (some (SNX12_36 S o).length), some (some (SNX12_38 S o).length), some (some (SNX12_40 S o).length), some (some (SNX12_42 S o).length), some (some (SNX12_44 S o).length), some (some (SNX12_46 S o).length), some none, some none, some none, none, none, none, some none]) := ap_at hf399
  have hf404 : (SNX12_49 S o)[(SNX12_48 S o).length]? = some (0, 2048, []) := nw_at
  have hw405 : ie_wf (SNX12_49 S o) (MNX12_105 S M o) := wf_app hw401 (by simp) hz402
  have hz406 : ie_zr (SNX12_49 S o) (MNX12_105 S M o) := zr_app hz402
  have hf407 : (SNX12_50 S o)[o]? = some (14, 53, [none, some (some S.length), some (some (SNX12_2 S o).length), none, some (some (SNX12_4 S o).length), none, none, some (some (SNX12_6 S o).length), none, none, none, some (some (SNX12_8 S o).length), some (some (SNX12_10 S o).length), some (some (SNX12_12 S o).length), none, none, none, none, none, some (some (SNX12_14 S o).length), some (some (SNX12_16 S o).length), some (some (SNX12_18 S o).length), some (some (SNX12_20 S o).length), some (some (SNX12_22 S o).length), some (some (SNX12_24 S o).length), some (some (SNX12_26 S o).length), some (some (SNX12_28 S o).length), none, none, none, some (some (SNX12_30 S o).length), none, none, none, none, none, none, some (some (SNX12_32 S o).length), none, some (some (SNX12_34 S o).length), some (some (SNX12_36 S o).length), some (some (SNX12_38 S o).length), some (some (SNX12_40 S o).length), some (some (SNX12_42 S o).length), some (some (SNX12_44 S o).length), some (some (SNX12_46 S o).length), some (some (SNX12_48 S o).length), some none, some none, none, none, none, some none]) := st_at hf403
  have hf408 : (SNX12_50 S o)[(SNX12_48 S o).length]? = some (0, 2048, []) := st_at' hf404 (Nat.ne_of_lt (List.getElem?_eq_some_iff.mp hf399).1)
  have hw409 : ie_wf (SNX12_50 S o) (MNX12_105 S M o) := by have zz := wf_set (i := 46) (r := (SNX12_48 S o).length) hw405 hf403 ((List.getElem?_eq_some_iff.mp hf404).1); exact zz
  have hz410 : ie_zr (SNX12_50 S o) (MNX12_105 S M o) := zr_set hz406
  have hf411 : (SNX12_51 S o)[o]? = some (14, 53, [none, some (some S.length), some (some (SNX12_2 S o).length), none, some (some (SNX12_4 S o).length), none, none, some (some (SNX12_6 S o).length), none, none, none, some (some (SNX12_8 S o).length), some (some (SNX12_10 S o).length), some (some (SNX12_12 S o).length), none, none, none, none, none, some (some (SNX12_14 S o).length), some (some (SNX12_16 S o).length), some (some (SNX12_18 S o).length), some (some (SNX12_20 S o).length), some (some (SNX12_22 S o).length), some (some (SNX12_24 S o).length), some (some (SNX12_26 S o).length), some (some (SNX12_28 S o).length), none, none, none, some (some (SNX12_30 S o).length), none, none, none, none, none, none, some (some (SNX12_32 S o).length), none, some (some (SNX12_34 S o).length), some (some (SNX12_36 S o).length), some (some (SNX12_38 S o).length), some (some (SNX12_40 S o).length), some (some (SNX12_42 S o).length), some (some (SNX12_44 S o).length), some (some (SNX12_46 S o).length), some (some (SNX12_48 S o).length), some none, some none, none, none, none, some none]) := ap_at hf407
  have hf412 : (SNX12_51 S o)[(SNX12_50 S o).length]? = some (0, 13, []) := nw_at
  have hw413 : ie_wf (SNX12_51 S o) (MNX12_105 S M o) := wf_app hw409 (by simp) hz410
  have hz414 : ie_zr (SNX12_51 S o) (MNX12_105 S M o) := zr_app hz410
  have hf415 : (SNX12_52 S o)[o]? = some (14, 53, [none, some (some S.length), some (some (SNX12_2 S o).length), none, some (some (SNX12_4 S o).length), none, none, some (some (SNX12_6 S o).length), none, none, none, some (some (SNX12_8 S o).length), some (some (SNX12_10 S o).length), some (some (SNX12_12 S o).length), none, none, none, none, none, some (some (SNX12_14 S o).length), some (some (SNX12_16 S o).length), some (some (SNX12_18 S o).length), some (some (SNX12_20 S o).length), some (some (SNX12_22 S o).length), some (some (SNX12_24 S o).length), some (some (SNX12_26 S o).length), some (some (SNX12_28 S o).length), none, none, none, some (some (SNX12_30 S o).length), none, none, none, none, none, none, some (some (SNX12_32 S o).length), none, some (some (SNX12_34 S o).length), some (some (SNX12_36 S o).length), some (some (SNX12_38 S o).length), some (some (SNX12_40 S o).length), some (some (SNX12_42 S o).length), some (some (SNX12_44 S o).length), some (some (SNX12_46 S o).length), some (some (SNX12_48 S o).length), some (some (SNX12_50 S o).length), some none, none, none, none, some none]) := st_at hf411
  have hf416 : (SNX12_52 S o)[(SNX12_50 S o).length]? = some (0, 13, []) := st_at' hf412 (Nat.ne_of_lt (List.getElem?_eq_some_iff.mp hf407).1)
  have hw417 : ie_wf (SNX12_52 S o) (MNX12_105 S M o) := by have zz := wf_set (i := 47) (r := (SNX12_50 S o).length) hw413 hf411 ((List.getElem?_eq_some_iff.mp hf412).1); exact zz
  have hz418 : ie_zr (SNX12_52 S o) (MNX12_105 S M o) := zr_set hz414
  have hf419 : (SNX12_53 S o)[o]? = some (14, 53, [none, some (some S.length), some (some (SNX12_2 S o).length), none, some (some (SNX12_4 S o).length), none, none, some (some (SNX12_6 S o).length), none, none, none, some (some (SNX12_8 S o).length), some (some (SNX12_10 S o).length), some (some (SNX12_12 S o).length), none, none, none, none, none, some (some (SNX12_14 S o).length), some (some (SNX12_16 S o).length), some (some (SNX12_18 S o).length), some (some (SNX12_20 S o).length), some (some (SNX12_22 S o).length), some (some (SNX12_24 S o).length), some (some (SNX12_26 S o).length), some (some (SNX12_28 S o).length), none, none, none, some (some (SNX12_30 S o).length), none, none, none, none, none, none, some (some (SNX12_32 S o).length), none, some (some (SNX12_34 S o).length), some (some (SNX12_36 S o).length), some (some (SNX12_38 S o).length), some (some (SNX12_40 S o).length), some (some (SNX12_42 S o).length), some (some (SNX12_44 S o).length), some (some (SNX12_46 S o).length), some (some (SNX12_48 S o).length), some (some (SNX12_50 S o).length), some none, none, none, none, some none]) := ap_at hf415
  have hf420 : (SNX12_53 S o)[(SNX12_52 S o).length]? = some (0, 10, []) := nw_at
  have hw421 : ie_wf (SNX12_53 S o) (MNX12_105 S M o) := wf_app hw417 (by simp) hz418
  have hz422 : ie_zr (SNX12_53 S o) (MNX12_105 S M o) := zr_app hz418
  have hf423 : (SNX12_54 S o)[o]? = some (14, 53, [none, some (some S.length), some (some (SNX12_2 S o).length), none, some (some (SNX12_4 S o).length), none, none, some (some (SNX12_6 S o).length), none, none, none, some (some (SNX12_8 S o).length), some (some (SNX12_10 S o).length), some (some (SNX12_12 S o).length), none, none, none, none, none, some (some (SNX12_14 S o).length), some (some (SNX12_16 S o).length), some (some (SNX12_18 S o).length), some (some (SNX12_20 S o).length), some (some (SNX12_22 S o).length), some (some (SNX12_24 S o).length), some (some (SNX12_26 S o).length), some (some (SNX12_28 S o).length), none, none, none, some (some (SNX12_30 S o).length), none, none, none, none, none, none, some (some (SNX12_32 S o).length), none, some (some (SNX12_34 S o).length), some (some (SNX12_36 S o).length), some (some (SNX12_38 S o).length), some (some (SNX12_40 S o).length), some (some (SNX12_42 S o).length), some (some (SNX12_44 S o).length), some (some (SNX12_46 S o).length), some (some (SNX12_48 S o).length), some (some (SNX12_50 S o).length), some (some (SNX12_52 S o).length), none, none, none, some none]) := st_at hf419
  have hf424 : (SNX12_54 S o)[(SNX12_52 S o).length]? = some (0, 10, []) := st_at' hf420 (Nat.ne_of_lt (List.getElem?_eq_some_iff.mp hf415).1)
  have hw425 : ie_wf (SNX12_54 S o) (MNX12_105 S M o) := by have zz := wf_set (i := 48) (r := (SNX12_52 S o).length) hw421 hf419 ((List.getElem?_eq_some_iff.mp hf420).1); exact zz
  have hz426 : ie_zr (SNX12_54 S o) (MNX12_105 S M o) := zr_set hz422
  have hf427 : (SNX12_55 S o)[o]? = some (14, 53, [none, some (some S.length), some (some (SNX12_2 S o).length), none, some (some (SNX12_4 S o).length), none, none, some (some (SNX12_6 S o).length), none, none, none, some (some (SNX12_8 S o).length), some (some (SNX12_10 S o).length), some (some (SNX12_12 S o).length), none, none, none, none, none, some (some (SNX12_14 S o).length), some (some (SNX12_16 S o).length), some (some (SNX12_18 S o).length), some (some (SNX12_20 S o).length), some (some (SNX12_22 S o).length), some (some (SNX12_24 S o).length), some (some (SNX12_26 S o).length), some (some (SNX12_28 S o).length), none, none, none, some (some (SNX12_30 S o).length), none, none, none, none, none, none, some (some (SNX12_32 S o).length), none, some (some (SNX12_34 S o).length), some (some (SNX12_36 S o).length), some (some (SNX12_38 S o).length), some (some (SNX12_40 S o).length), some (some (SNX12_42 S o).length), some (some (SNX12_44 S o).length), some (some (SNX12_46 S o).length), some (some (SNX12_48 S o).length), some (some (SNX12_50 S o).length), some (some (SNX12_52 S o).length), none, none, none, some none]) := ap_at hf423
  have hf428 : (SNX12_55 S o)[(SNX12_54 S o).length]? = some (0, 2500, []) := nw_at
  have hw429 : ie_wf (SNX12_55 S o) (MNX12_105 S M o) := wf_app hw425 (by simp) hz426
  have hz430 : ie_zr (SNX12_55 S o) (MNX12_105 S M o) := zr_app hz426
  have hf431 : (SNX12_56 S o)[o]? = some (14, 53, [none, some (some S.length), some (some (SNX12_2 S o).length), none, some (some (SNX12_4 S o).length), none, none, some (some (SNX12_6 S o).length), none, none, none, some (some (SNX12_8 S o).length), some (some (SNX12_10 S o).length), some (some (SNX12_12 S o).length), none, none, none, none, none, some (some (SNX12_14 S o).length), some (some (SNX12_16 S o).length), some (some (SNX12_18 S o).length), some (some (SNX12_20 S o).length), some (some (SNX12_22 S o).length), some (some (SNX12_24 S o).length), some (some (SNX12_26 S o).length), some (some (SNX12_28 S o).length), none, none, none, some (some (SNX12_30 S o).length), none, none, none, none, none, none, some (some (SNX12_32 S o).length), none, some (some (SNX12_34 S o).length), some (some (SNX12_36 S o).length), some (some (SNX12_38 S o).length), some (some (SNX12_40 S o).length), some (some (SNX12_42 S o).length), some (some (SNX12_44 S o).length), some (some (SNX12_46 S o).length), some (some (SNX12_48 S o).length), some (some (SNX12_50 S o).length), some (some (SNX12_52 S o).length), none, none, none, some (some (SNX12_54 S o).length)]) := st_at hf427
  have hf432 : (SNX12_56 S o)[(SNX12_54 S o).length]? = some (0, 2500, []) := st_at' hf428 (Nat.ne_of_lt (List.getElem?_eq_some_iff.mp hf423).1)
  have hw433 : ie_wf (SNX12_56 S o) (MNX12_105 S M o) := by have zz := wf_set (i := 52) (r := (SNX12_54 S o).length) hw429 hf427 ((List.getElem?_eq_some_iff.mp hf428).1); exact zz
  have hz434 : ie_zr (SNX12_56 S o) (MNX12_105 S M o) := zr_set hz430
  exact ⟨hf431, hw433, hz434, len56, fun p x hp h => (st_at' (ap_at (st_at' (ap_at (st_at' (ap_at (st_at' (ap_at (st_at' (ap_at (st_at' (ap_at (st_at' (ap_at (st_at' (ap_at (st_at' (ap_at (st_at' (ap_at (st_at' (ap_at (st_at' (ap_at (st_at' (ap_at (st_at' (ap_at (st_at' (ap_at (st_at' (ap_at (st_at' (ap_at (st_at' (ap_at (st_at' (ap_at (st_at' (ap_at (st_at' (ap_at (st_at' (ap_at (st_at' (ap_at (st_at' (ap_at (st_at' (ap_at (st_at' (ap_at (st_at' (ap_at (st_at' (ap_at h) (fun e => hp e.symm))) (fun e => hp e.symm))) (fun e => hp e.symm))) (fun e => hp e.symm))) (fun e => hp e.symm))) (fun e => hp e.symm))) (fun e => hp e.symm))) (fun e => hp e.symm))) (fun e => hp e.symm))) (fun e => hp e.symm))) (fun e => hp e.symm))) (fun e => hp e.symm))) (fun e => hp e.symm))) (fun e => hp e.symm))) (fun e => hp e.symm))) (fun e => hp e.symm))) (fun e => hp e.symm))) (fun e => hp e.symm))) (fun e => hp e.symm))) (fun e => hp e.symm))) (fun e => hp e.symm))) (fun e => hp e.symm))) (fun e => hp e.symm))) (fun e => hp e.symm))) (fun e => hp e.symm))) (fun e => hp e.symm))) (fun e => hp e.symm))) (fun e => hp e.symm))⟩
set_option maxRecDepth 100000 in
set_option maxHeartbeats 8000000 in
theorem tc_X12 {g : IG} {a : Nat → Nat} {S : List IK} {M : IM} {o : Nat} (ho : S[o]? = some (14, 53, [none, some none, some none, none, some none, none, none, some none, none, none, none, some none, some none, some none, none, none, none, none, none, some none, some none, some none, some none, some none, some none, some none, some none, none, none, none, some none, none, none, none, none, none, none, some none, none, some none, some none, some none, some none, some none, some none, some none, some none, some none, some none, none, none, none, some none])) (hwf : ie_wf S M) (hz : ie_zr S M) : Cn g mX12_init 1 28 170259 (qC (SNX12 S o) (MNX12 S M o) S.length a) [.ref (a o)] a S M := by
  refine Cn_of (L := [some (.ref (a o))]) mf_X12_init (cat_r cat_0) (Nat.le_of_ble_eq_true rfl) rfl ?_
  have len1 : (SNX12_1 S o).length = S.length + 1 := l_app rfl
  have len2 : (SNX12_2 S o).length = S.length + 1 := l_set len1
  have len3 : (SNX12_3 S o).length = S.length + 2 := l_app len2
  have len4 : (SNX12_4 S o).length = S.length + 2 := l_set len3
  have len5 : (SNX12_5 S o).length = S.length + 3 := l_app len4
  have len6 : (SNX12_6 S o).length = S.length + 3 := l_set len5
  have len7 : (SNX12_7 S o).length = S.length + 4 := l_app len6
  have len8 : (SNX12_8 S o).length = S.length + 4 := l_set len7
  have len9 : (SNX12_9 S o).length = S.length + 5 := l_app len8
  have len10 : (SNX12_10 S o).length = S.length + 5 := l_set len9
  have len11 : (SNX12_11 S o).length = S.length + 6 := l_app len10
  have len12 : (SNX12_12 S o).length = S.length + 6 := l_set len11
  have len13 : (SNX12_13 S o).length = S.length + 7 := l_app len12
  have len14 : (SNX12_14 S o).length = S.length + 7 := l_set len13
  have len15 : (SNX12_15 S o).length = S.length + 8 := l_app len14
  have len16 : (SNX12_16 S o).length = S.length + 8 := l_set len15
  have len17 : (SNX12_17 S o).length = S.length + 9 := l_app len16
  have len18 : (SNX12_18 S o).length = S.length + 9 := l_set len17
  have len19 : (SNX12_19 S o).length = S.length + 10 := l_app len18
  have len20 : (SNX12_20 S o).length = S.length + 10 := l_set len19
  have len21 : (SNX12_21 S o).length = S.length + 11 := l_app len20
  have len22 : (SNX12_22 S o).length = S.length + 11 := l_set len21
  have len23 : (SNX12_23 S o).length = S.length + 12 := l_app len22
  have len24 : (SNX12_24 S o).length = S.length + 12 := l_set len23
  have len25 : (SNX12_25 S o).length = S.length + 13 := l_app len24
  have len26 : (SNX12_26 S o).length = S.length + 13 := l_set len25
  have len27 : (SNX12_27 S o).length = S.length + 14 := l_app len26
  have len28 : (SNX12_28 S o).length = S.length + 14 := l_set len27
  have len29 : (SNX12_29 S o).length = S.length + 15 := l_app len28
  have len30 : (SNX12_30 S o).length = S.length + 15 := l_set len29
  have len31 : (SNX12_31 S o).length = S.length + 16 := l_app len30
  have len32 : (SNX12_32 S o).length = S.length + 16 := l_set len31
  have len33 : (SNX12_33 S o).length = S.length + 17 := l_app len32
  have len34 : (SNX12_34 S o).length = S.length + 17 := l_set len33
  have len35 : (SNX12_35 S o).length = S.length + 18 := l_app len34
  have len36 : (SNX12_36 S o).length = S.length + 18 := l_set len35
  have len37 : (SNX12_37 S o).length = S.length + 19 := l_app len36
  have len38 : (SNX12_38 S o).length = S.length + 19 := l_set len37
  have len39 : (SNX12_39 S o).length = S.length + 20 := l_app len38
  have len40 : (SNX12_40 S o).length = S.length + 20 := l_set len39
  have len41 : (SNX12_41 S o).length = S.length + 21 := l_app len40
  have len42 : (SNX12_42 S o).length = S.length + 21 := l_set len41
  have len43 : (SNX12_43 S o).length = S.length + 22 := l_app len42
  have len44 : (SNX12_44 S o).length = S.length + 22 := l_set len43
  have len45 : (SNX12_45 S o).length = S.length + 23 := l_app len44
  have len46 : (SNX12_46 S o).length = S.length + 23 := l_set len45
  have len47 : (SNX12_47 S o).length = S.length + 24 := l_app len46
  have len48 : (SNX12_48 S o).length = S.length + 24 := l_set len47
  have len49 : (SNX12_49 S o).length = S.length + 25 := l_app len48
  have len50 : (SNX12_50 S o).length = S.length + 25 := l_set len49
  have len51 : (SNX12_51 S o).length = S.length + 26 := l_app len50
  have len52 : (SNX12_52 S o).length = S.length + 26 := l_set len51
  have len53 : (SNX12_53 S o).length = S.length + 27 := l_app len52
  have len54 : (SNX12_54 S o).length = S.length + 27 := l_set len53
  have len55 : (SNX12_55 S o).length = S.length + 28 := l_app len54
  have len56 : (SNX12_56 S o).length = S.length + 28 := l_set len55
  refine V_aload_n rfl dX12_init_0 rfl rfl ?_
  refine V_obj rfl dX12_init_1 ⟨w_1187, w_166, w_167⟩ rfl ?_
  refine V_aload_n rfl dX12_init_4 rfl rfl ?_
  refine V_bipush (v := 40) rfl dX12_init_5 kb_40 ?_
  refine V_newa (n := 40) (fun a => [some (.ref (a o))]) (fun a => [.ref (a o)]) rfl dX12_init_7 w_245 (by decide +kernel) hwf hz ⟨rfl, rfl⟩ (fun a' h => ⟨by first | rfl | simp only [h _ ((List.getElem?_eq_some_iff.mp ho).1)], by first | rfl | simp only [h _ ((List.getElem?_eq_some_iff.mp ho).1)]⟩) (fun a1 hg0 => ?_)
  have hf1 : (SNX12_1 S o)[o]? = some (14, 53, [none, some none, some none, none, some none, none, none, some none, none, none, none, some none, some none, some none, none, none, none, none, none, some none, some none, some none, some none, some none, some none, some none, some none, none, none, none, some none, none, none, none, none, none, none, some none, none, some none, some none, some none, some none, some none, some none, some none, some none, some none, some none, none, none, none, some none]) := ap_at ho
  have hf2 : (SNX12_1 S o)[S.length]? = some (0, 40, []) := nw_at
  have hw3 : ie_wf (SNX12_1 S o) M := wf_app hwf (by simp) hz
  have hz4 : ie_zr (SNX12_1 S o) M := zr_app hz
  show V _ _ _ _ _ _ _ _ _ _ (SNX12_1 S o) M _ _
  refine V_putr (k0 := 1) (ty := (.array .int)) (r := S.length) rfl dX12_init_9 hf1 icX12 tyX12_ok nmX12 (by decide) (Nat.le_of_ble_eq_true rfl) w_1190 rfl rfl rfl (tyX12_ok _ (by decide)) rfl rfl ?_
  have hf5 : (SNX12_2 S o)[o]? = some (14, 53, [none, some (some S.length), some none, none, some none, none, none, some none, none, none, none, some none, some none, some none, none, none, none, none, none, some none, some none, some none, some none, some none, some none, some none, some none, none, none, none, some none, none, none, none, none, none, none, some none, none, some none, some none, some none, some none, some none, some none, some none, some none, some none, some none, none, none, none, some none]) := st_at hf1
  have hf6 : (SNX12_2 S o)[S.length]? = some (0, 40, []) := st_at' hf2 (Nat.ne_of_lt (List.getElem?_eq_some_iff.mp ho).1)
  have hw7 : ie_wf (SNX12_2 S o) M := by have zz := wf_set (i := 1) (r := S.length) hw3 hf1 ((List.getElem?_eq_some_iff.mp hf2).1); exact zz
  have hz8 : ie_zr (SNX12_2 S o) M := zr_set hz4
  show V _ _ _ _ _ _ _ _ _ _ (SNX12_2 S o) M _ _
  refine V_aload_n rfl dX12_init_12 rfl rfl ?_
  refine V_sipush (v := 240) rfl dX12_init_13 ks_240 ?_
  refine V_newa (n := 240) (fun a => [some (.ref (a o))]) (fun a => [.ref (a o)]) rfl dX12_init_16 w_245 (by decide +kernel) hw7 hz8 ⟨rfl, rfl⟩ (fun a' h => ⟨by first | rfl | simp only [h _ ((List.getElem?_eq_some_iff.mp hf5).1)], by first | rfl | simp only [h _ ((List.getElem?_eq_some_iff.mp hf5).1)]⟩) (fun a11 hg1 => ?_)
  have hf9 : (SNX12_3 S o)[o]? = some (14, 53, [none, some (some S.length), some none, none, some none, none, none, some none, none, none, none, some none, some none, some none, none, none, none, none, none, some none, some none, some none, some none, some none, some none, some none, some none, none, none, none, some none, none, none, none, none, none, none, some none, none, some none, some none, some none, some none, some none, some none, some none, some none, some none, some none, none, none, none, some none]) := ap_at hf5
  have hf10 : (SNX12_3 S o)[(SNX12_2 S o).length]? = some (0, 240, []) := nw_at
  have hw11 : ie_wf (SNX12_3 S o) M := wf_app hw7 (by simp) hz8
  have hz12 : ie_zr (SNX12_3 S o) M := zr_app hz8
  show V _ _ _ _ _ _ _ _ _ _ (SNX12_3 S o) M _ _
  refine V_putr (k0 := 2) (ty := (.array .int)) (r := (SNX12_2 S o).length) rfl dX12_init_18 hf9 icX12 tyX12_ok nmX12 (by decide) (Nat.le_of_ble_eq_true rfl) w_1191 rfl rfl rfl (tyX12_ok _ (by decide)) rfl rfl ?_
  have hf13 : (SNX12_4 S o)[o]? = some (14, 53, [none, some (some S.length), some (some (SNX12_2 S o).length), none, some none, none, none, some none, none, none, none, some none, some none, some none, none, none, none, none, none, some none, some none, some none, some none, some none, some none, some none, some none, none, none, none, some none, none, none, none, none, none, none, some none, none, some none, some none, some none, some none, some none, some none, some none, some none, some none, some none, none, none, none, some none]) := st_at hf9
  have hf14 : (SNX12_4 S o)[(SNX12_2 S o).length]? = some (0, 240, []) := st_at' hf10 (Nat.ne_of_lt (List.getElem?_eq_some_iff.mp hf5).1)
  have hw15 : ie_wf (SNX12_4 S o) M := by have zz := wf_set (i := 2) (r := (SNX12_2 S o).length) hw11 hf9 ((List.getElem?_eq_some_iff.mp hf10).1); exact zz
  have hz16 : ie_zr (SNX12_4 S o) M := zr_set hz12
  show V _ _ _ _ _ _ _ _ _ _ (SNX12_4 S o) M _ _
  refine V_aload_n rfl dX12_init_21 rfl rfl ?_
  refine V_bipush (v := 40) rfl dX12_init_22 kb_40 ?_
  refine V_newa (n := 40) (fun a => [some (.ref (a o))]) (fun a => [.ref (a o)]) rfl dX12_init_24 w_245 (by decide +kernel) hw15 hz16 ⟨rfl, rfl⟩ (fun a' h => ⟨by first | rfl | simp only [h _ ((List.getElem?_eq_some_iff.mp hf13).1)], by first | rfl | simp only [h _ ((List.getElem?_eq_some_iff.mp hf13).1)]⟩) (fun a111 hg2 => ?_)
  have hf17 : (SNX12_5 S o)[o]? = some (14, 53, [none, some (some S.length), some (some (SNX12_2 S o).length), none, some none, none, none, some none, none, none, none, some none, some none, some none, none, none, none, none, none, some none, some none, some none, some none, some none, some none, some none, some none, none, none, none, some none, none, none, none, none, none, none, some none, none, some none, some none, some none, some none, some none, some none, some none, some none, some none, some none, none, none, none, some none]) := ap_at hf13
  have hf18 : (SNX12_5 S o)[(SNX12_4 S o).length]? = some (0, 40, []) := nw_at
  have hw19 : ie_wf (SNX12_5 S o) M := wf_app hw15 (by simp) hz16
  have hz20 : ie_zr (SNX12_5 S o) M := zr_app hz16
  show V _ _ _ _ _ _ _ _ _ _ (SNX12_5 S o) M _ _
  refine V_putr (k0 := 4) (ty := (.array .int)) (r := (SNX12_4 S o).length) rfl dX12_init_26 hf17 icX12 tyX12_ok nmX12 (by decide) (Nat.le_of_ble_eq_true rfl) w_1193 rfl rfl rfl (tyX12_ok _ (by decide)) rfl rfl ?_
  have hf21 : (SNX12_6 S o)[o]? = some (14, 53, [none, some (some S.length), some (some (SNX12_2 S o).length), none, some (some (SNX12_4 S o).length), none, none, some none, none, none, none, some none, some none, some none, none, none, none, none, none, some none, some none, some none, some none, some none, some none, some none, some none, none, none, none, some none, none, none, none, none, none, none, some none, none, some none, some none, some none, some none, some none, some none, some none, some none, some none, some none, none, none, none, some none]) := st_at hf17
  have hf22 : (SNX12_6 S o)[(SNX12_4 S o).length]? = some (0, 40, []) := st_at' hf18 (Nat.ne_of_lt (List.getElem?_eq_some_iff.mp hf13).1)
  have hw23 : ie_wf (SNX12_6 S o) M := by have zz := wf_set (i := 4) (r := (SNX12_4 S o).length) hw19 hf17 ((List.getElem?_eq_some_iff.mp hf18).1); exact zz
  have hz24 : ie_zr (SNX12_6 S o) M := zr_set hz20
  show V _ _ _ _ _ _ _ _ _ _ (SNX12_6 S o) M _ _
  refine V_aload_n rfl dX12_init_29 rfl rfl ?_
  refine V_bipush (v := 10) rfl dX12_init_30 kb_10 ?_
  refine V_newa (n := 10) (fun a => [some (.ref (a o))]) (fun a => [.ref (a o)]) rfl dX12_init_32 w_245 (by decide +kernel) hw23 hz24 ⟨rfl, rfl⟩ (fun a' h => ⟨by first | rfl | simp only [h _ ((List.getElem?_eq_some_iff.mp hf21).1)], by first | rfl | simp only [h _ ((List.getElem?_eq_some_iff.mp hf21).1)]⟩) (fun a1111 hg3 => ?_)
  have hf25 : (SNX12_7 S o)[o]? = some (14, 53, [none, some (some S.length), some (some (SNX12_2 S o).length), none, some (some (SNX12_4 S o).length), none, none, some none, none, none, none, some none, some none, some none, none, none, none, none, none, some none, some none, some none, some none, some none, some none, some none, some none, none, none, none, some none, none, none, none, none, none, none, some none, none, some none, some none, some none, some none, some none, some none, some none, some none, some none, some none, none, none, none, some none]) := ap_at hf21
  have hf26 : (SNX12_7 S o)[(SNX12_6 S o).length]? = some (0, 10, []) := nw_at
  have hw27 : ie_wf (SNX12_7 S o) M := wf_app hw23 (by simp) hz24
  have hz28 : ie_zr (SNX12_7 S o) M := zr_app hz24
  show V _ _ _ _ _ _ _ _ _ _ (SNX12_7 S o) M _ _
  refine V_putr (k0 := 7) (ty := (.array .int)) (r := (SNX12_6 S o).length) rfl dX12_init_34 hf25 icX12 tyX12_ok nmX12 (by decide) (Nat.le_of_ble_eq_true rfl) w_1196 rfl rfl rfl (tyX12_ok _ (by decide)) rfl rfl ?_
  have hf29 : (SNX12_8 S o)[o]? = some (14, 53, [none, some (some S.length), some (some (SNX12_2 S o).length), none, some (some (SNX12_4 S o).length), none, none, some (some (SNX12_6 S o).length), none, none, none, some none, some none, some none, none, none, none, none, none, some none, some none, some none, some none, some none, some none, some none, some none, none, none, none, some none, none, none, none, none, none, none, some none, none, some none, some none, some none, some none, some none, some none, some none, some none, some none, some none, none, none, none, some none]) := st_at hf25
  have hf30 : (SNX12_8 S o)[(SNX12_6 S o).length]? = some (0, 10, []) := st_at' hf26 (Nat.ne_of_lt (List.getElem?_eq_some_iff.mp hf21).1)
  have hw31 : ie_wf (SNX12_8 S o) M := by have zz := wf_set (i := 7) (r := (SNX12_6 S o).length) hw27 hf25 ((List.getElem?_eq_some_iff.mp hf26).1); exact zz
  have hz32 : ie_zr (SNX12_8 S o) M := zr_set hz28
  show V _ _ _ _ _ _ _ _ _ _ (SNX12_8 S o) M _ _
  refine V_aload_n rfl dX12_init_37 rfl rfl ?_
  refine V_bipush (v := 64) rfl dX12_init_38 kb_64 ?_
  refine V_newa (n := 64) (fun a => [some (.ref (a o))]) (fun a => [.ref (a o)]) rfl dX12_init_40 w_245 (by decide +kernel) hw31 hz32 ⟨rfl, rfl⟩ (fun a' h => ⟨by first | rfl | simp only [h _ ((List.getElem?_eq_some_iff.mp hf29).1)], by first | rfl | simp only [h _ ((List.getElem?_eq_some_iff.mp hf29).1)]⟩) (fun a11111 hg4 => ?_)
  have hf33 : (SNX12_9 S o)[o]? = some (14, 53, [none, some (some S.length), some (some (SNX12_2 S o).length), none, some (some (SNX12_4 S o).length), none, none, some (some (SNX12_6 S o).length), none, none, none, some none, some none, some none, none, none, none, none, none, some none, some none, some none, some none, some none, some none, some none, some none, none, none, none, some none, none, none, none, none, none, none, some none, none, some none, some none, some none, some none, some none, some none, some none, some none, some none, some none, none, none, none, some none]) := ap_at hf29
  have hf34 : (SNX12_9 S o)[(SNX12_8 S o).length]? = some (0, 64, []) := nw_at
  have hw35 : ie_wf (SNX12_9 S o) M := wf_app hw31 (by simp) hz32
  have hz36 : ie_zr (SNX12_9 S o) M := zr_app hz32
  show V _ _ _ _ _ _ _ _ _ _ (SNX12_9 S o) M _ _
  refine V_putr (k0 := 11) (ty := (.array .int)) (r := (SNX12_8 S o).length) rfl dX12_init_42 hf33 icX12 tyX12_ok nmX12 (by decide) (Nat.le_of_ble_eq_true rfl) w_1200 rfl rfl rfl (tyX12_ok _ (by decide)) rfl rfl ?_
  have hf37 : (SNX12_10 S o)[o]? = some (14, 53, [none, some (some S.length), some (some (SNX12_2 S o).length), none, some (some (SNX12_4 S o).length), none, none, some (some (SNX12_6 S o).length), none, none, none, some (some (SNX12_8 S o).length), some none, some none, none, none, none, none, none, some none, some none, some none, some none, some none, some none, some none, some none, none, none, none, some none, none, none, none, none, none, none, some none, none, some none, some none, some none, some none, some none, some none, some none, some none, some none, some none, none, none, none, some none]) := st_at hf33
  have hf38 : (SNX12_10 S o)[(SNX12_8 S o).length]? = some (0, 64, []) := st_at' hf34 (Nat.ne_of_lt (List.getElem?_eq_some_iff.mp hf29).1)
  have hw39 : ie_wf (SNX12_10 S o) M := by have zz := wf_set (i := 11) (r := (SNX12_8 S o).length) hw35 hf33 ((List.getElem?_eq_some_iff.mp hf34).1); exact zz
  have hz40 : ie_zr (SNX12_10 S o) M := zr_set hz36
  show V _ _ _ _ _ _ _ _ _ _ (SNX12_10 S o) M _ _
  refine V_aload_n rfl dX12_init_45 rfl rfl ?_
  refine V_sipush (v := 450) rfl dX12_init_46 ks_450 ?_
  refine V_newa (n := 450) (fun a => [some (.ref (a o))]) (fun a => [.ref (a o)]) rfl dX12_init_49 w_245 (by decide +kernel) hw39 hz40 ⟨rfl, rfl⟩ (fun a' h => ⟨by first | rfl | simp only [h _ ((List.getElem?_eq_some_iff.mp hf37).1)], by first | rfl | simp only [h _ ((List.getElem?_eq_some_iff.mp hf37).1)]⟩) (fun a111111 hg5 => ?_)
  have hf41 : (SNX12_11 S o)[o]? = some (14, 53, [none, some (some S.length), some (some (SNX12_2 S o).length), none, some (some (SNX12_4 S o).length), none, none, some (some (SNX12_6 S o).length), none, none, none, some (some (SNX12_8 S o).length), some none, some none, none, none, none, none, none, some none, some none, some none, some none, some none, some none, some none, some none, none, none, none, some none, none, none, none, none, none, none, some none, none, some none, some none, some none, some none, some none, some none, some none, some none, some none, some none, none, none, none, some none]) := ap_at hf37
  have hf42 : (SNX12_11 S o)[(SNX12_10 S o).length]? = some (0, 450, []) := nw_at
  have hw43 : ie_wf (SNX12_11 S o) M := wf_app hw39 (by simp) hz40
  have hz44 : ie_zr (SNX12_11 S o) M := zr_app hz40
  show V _ _ _ _ _ _ _ _ _ _ (SNX12_11 S o) M _ _
  refine V_putr (k0 := 12) (ty := (.array .int)) (r := (SNX12_10 S o).length) rfl dX12_init_51 hf41 icX12 tyX12_ok nmX12 (by decide) (Nat.le_of_ble_eq_true rfl) w_1201 rfl rfl rfl (tyX12_ok _ (by decide)) rfl rfl ?_
  have hf45 : (SNX12_12 S o)[o]? = some (14, 53, [none, some (some S.length), some (some (SNX12_2 S o).length), none, some (some (SNX12_4 S o).length), none, none, some (some (SNX12_6 S o).length), none, none, none, some (some (SNX12_8 S o).length), some (some (SNX12_10 S o).length), some none, none, none, none, none, none, some none, some none, some none, some none, some none, some none, some none, some none, none, none, none, some none, none, none, none, none, none, none, some none, none, some none, some none, some none, some none, some none, some none, some none, some none, some none, some none, none, none, none, some none]) := st_at hf41
  have hf46 : (SNX12_12 S o)[(SNX12_10 S o).length]? = some (0, 450, []) := st_at' hf42 (Nat.ne_of_lt (List.getElem?_eq_some_iff.mp hf37).1)
  have hw47 : ie_wf (SNX12_12 S o) M := by have zz := wf_set (i := 12) (r := (SNX12_10 S o).length) hw43 hf41 ((List.getElem?_eq_some_iff.mp hf42).1); exact zz
  have hz48 : ie_zr (SNX12_12 S o) M := zr_set hz44
  show V _ _ _ _ _ _ _ _ _ _ (SNX12_12 S o) M _ _
  refine V_aload_n rfl dX12_init_54 rfl rfl ?_
  refine V_sipush (v := 400) rfl dX12_init_55 ks_400 ?_
  refine V_newa (n := 400) (fun a => [some (.ref (a o))]) (fun a => [.ref (a o)]) rfl dX12_init_58 w_245 (by decide +kernel) hw47 hz48 ⟨rfl, rfl⟩ (fun a' h => ⟨by first | rfl | simp only [h _ ((List.getElem?_eq_some_iff.mp hf45).1)], by first | rfl | simp only [h _ ((List.getElem?_eq_some_iff.mp hf45).1)]⟩) (fun a1111111 hg6 => ?_)
  have hf49 : (SNX12_13 S o)[o]? = some (14, 53, [none, some (some S.length), some (some (SNX12_2 S o).length), none, some (some (SNX12_4 S o).length), none, none, some (some (SNX12_6 S o).length), none, none, none, some (some (SNX12_8 S o).length), some (some (SNX12_10 S o).length), some none, none, none, none, none, none, some none, some none, some none, some none, some none, some none, some none, some none, none, none, none, some none, none, none, none, none, none, none, some none, none, some none, some none, some none, some none, some none, some none, some none, some none, some none, some none, none, none, none, some none]) := ap_at hf45
  have hf50 : (SNX12_13 S o)[(SNX12_12 S o).length]? = some (0, 400, []) := nw_at
  have hw51 : ie_wf (SNX12_13 S o) M := wf_app hw47 (by simp) hz48
  have hz52 : ie_zr (SNX12_13 S o) M := zr_app hz48
  show V _ _ _ _ _ _ _ _ _ _ (SNX12_13 S o) M _ _
  refine V_putr (k0 := 13) (ty := (.array .int)) (r := (SNX12_12 S o).length) rfl dX12_init_60 hf49 icX12 tyX12_ok nmX12 (by decide) (Nat.le_of_ble_eq_true rfl) w_1202 rfl rfl rfl (tyX12_ok _ (by decide)) rfl rfl ?_
  have hf53 : (SNX12_14 S o)[o]? = some (14, 53, [none, some (some S.length), some (some (SNX12_2 S o).length), none, some (some (SNX12_4 S o).length), none, none, some (some (SNX12_6 S o).length), none, none, none, some (some (SNX12_8 S o).length), some (some (SNX12_10 S o).length), some (some (SNX12_12 S o).length), none, none, none, none, none, some none, some none, some none, some none, some none, some none, some none, some none, none, none, none, some none, none, none, none, none, none, none, some none, none, some none, some none, some none, some none, some none, some none, some none, some none, some none, some none, none, none, none, some none]) := st_at hf49
  have hf54 : (SNX12_14 S o)[(SNX12_12 S o).length]? = some (0, 400, []) := st_at' hf50 (Nat.ne_of_lt (List.getElem?_eq_some_iff.mp hf45).1)
  have hw55 : ie_wf (SNX12_14 S o) M := by have zz := wf_set (i := 13) (r := (SNX12_12 S o).length) hw51 hf49 ((List.getElem?_eq_some_iff.mp hf50).1); exact zz
  have hz56 : ie_zr (SNX12_14 S o) M := zr_set hz52
  show V _ _ _ _ _ _ _ _ _ _ (SNX12_14 S o) M _ _
  refine V_aload_n rfl dX12_init_63 rfl rfl ?_
  refine V_bipush (v := 104) rfl dX12_init_64 kb_104 ?_
  refine V_newa (n := 104) (fun a => [some (.ref (a o))]) (fun a => [.ref (a o)]) rfl dX12_init_66 w_245 (by decide +kernel) hw55 hz56 ⟨rfl, rfl⟩ (fun a' h => ⟨by first | rfl | simp only [h _ ((List.getElem?_eq_some_iff.mp hf53).1)], by first | rfl | simp only [h _ ((List.getElem?_eq_some_iff.mp hf53).1)]⟩) (fun a11111111 hg7 => ?_)
  have hf57 : (SNX12_15 S o)[o]? = some (14, 53, [none, some (some S.length), some (some (SNX12_2 S o).length), none, some (some (SNX12_4 S o).length), none, none, some (some (SNX12_6 S o).length), none, none, none, some (some (SNX12_8 S o).length), some (some (SNX12_10 S o).length), some (some (SNX12_12 S o).length), none, none, none, none, none, some none, some none, some none, some none, some none, some none, some none, some none, none, none, none, some none, none, none, none, none, none, none, some none, none, some none, some none, some none, some none, some none, some none, some none, some none, some none, some none, none, none, none, some none]) := ap_at hf53
  have hf58 : (SNX12_15 S o)[(SNX12_14 S o).length]? = some (0, 104, []) := nw_at
  have hw59 : ie_wf (SNX12_15 S o) M := wf_app hw55 (by simp) hz56
  have hz60 : ie_zr (SNX12_15 S o) M := zr_app hz56
  show V _ _ _ _ _ _ _ _ _ _ (SNX12_15 S o) M _ _
  refine V_dup rfl dX12_init_68 rfl ?_
  refine V_iconst (v := 0) rfl dX12_init_69 kc_0 ?_
  refine V_bipush (v := 32) rfl dX12_init_70 kb_32 ?_
  refine V_iastK (k := 0) rfl dX12_init_72 hf58 (by decide +kernel) (by decide +kernel) ?_
  have hw61 : ie_wf (SNX12_15 S o) (MNX12_1 S M o) := wf_ms hw59 hf58 (Or.inl (by decide))
  have hz62 : ie_zr (SNX12_15 S o) (MNX12_1 S M o) := zr_ms hz60 ((List.getElem?_eq_some_iff.mp hf58).1)
  show V _ _ _ _ _ _ _ _ _ _ (SNX12_15 S o) (MNX12_1 S M o) _ _
  refine V_dup rfl dX12_init_73 rfl ?_
  refine V_iconst (v := 1) rfl dX12_init_74 kc_1 ?_
  refine V_bipush (v := 103) rfl dX12_init_75 kb_103 ?_
  refine V_iastK (k := 1) rfl dX12_init_77 hf58 (by decide +kernel) (by decide +kernel) ?_
  have hw63 : ie_wf (SNX12_15 S o) (MNX12_2 S M o) := wf_ms hw61 hf58 (Or.inl (by decide))
  have hz64 : ie_zr (SNX12_15 S o) (MNX12_2 S M o) := zr_ms hz62 ((List.getElem?_eq_some_iff.mp hf58).1)
  show V _ _ _ _ _ _ _ _ _ _ (SNX12_15 S o) (MNX12_2 S M o) _ _
  refine V_dup rfl dX12_init_78 rfl ?_
  refine V_iconst (v := 2) rfl dX12_init_79 kc_2 ?_
  refine V_bipush (v := 111) rfl dX12_init_80 kb_111 ?_
  refine V_iastK (k := 2) rfl dX12_init_82 hf58 (by decide +kernel) (by decide +kernel) ?_
  have hw65 : ie_wf (SNX12_15 S o) (MNX12_3 S M o) := wf_ms hw63 hf58 (Or.inl (by decide))
  have hz66 : ie_zr (SNX12_15 S o) (MNX12_3 S M o) := zr_ms hz64 ((List.getElem?_eq_some_iff.mp hf58).1)
  show V _ _ _ _ _ _ _ _ _ _ (SNX12_15 S o) (MNX12_3 S M o) _ _
  refine V_dup rfl dX12_init_83 rfl ?_
  refine V_iconst (v := 3) rfl dX12_init_84 kc_3 ?_
  refine V_bipush (v := 32) rfl dX12_init_85 kb_32 ?_
  refine V_iastK (k := 3) rfl dX12_init_87 hf58 (by decide +kernel) (by decide +kernel) ?_
  have hw67 : ie_wf (SNX12_15 S o) (MNX12_4 S M o) := wf_ms hw65 hf58 (Or.inl (by decide))
  have hz68 : ie_zr (SNX12_15 S o) (MNX12_4 S M o) := zr_ms hz66 ((List.getElem?_eq_some_iff.mp hf58).1)
  show V _ _ _ _ _ _ _ _ _ _ (SNX12_15 S o) (MNX12_4 S M o) _ _
  refine V_dup rfl dX12_init_88 rfl ?_
  refine V_iconst (v := 4) rfl dX12_init_89 kc_4 ?_
  refine V_bipush (v := 115) rfl dX12_init_90 kb_115 ?_
  refine V_iastK (k := 4) rfl dX12_init_92 hf58 (by decide +kernel) (by decide +kernel) ?_
  have hw69 : ie_wf (SNX12_15 S o) (MNX12_5 S M o) := wf_ms hw67 hf58 (Or.inl (by decide))
  have hz70 : ie_zr (SNX12_15 S o) (MNX12_5 S M o) := zr_ms hz68 ((List.getElem?_eq_some_iff.mp hf58).1)
  show V _ _ _ _ _ _ _ _ _ _ (SNX12_15 S o) (MNX12_5 S M o) _ _
  refine V_dup rfl dX12_init_93 rfl ?_
  refine V_iconst (v := 5) rfl dX12_init_94 kc_5 ?_
  refine V_bipush (v := 116) rfl dX12_init_95 kb_116 ?_
  refine V_iastK (k := 5) rfl dX12_init_97 hf58 (by decide +kernel) (by decide +kernel) ?_
  have hw71 : ie_wf (SNX12_15 S o) (MNX12_6 S M o) := wf_ms hw69 hf58 (Or.inl (by decide))
  have hz72 : ie_zr (SNX12_15 S o) (MNX12_6 S M o) := zr_ms hz70 ((List.getElem?_eq_some_iff.mp hf58).1)
  show V _ _ _ _ _ _ _ _ _ _ (SNX12_15 S o) (MNX12_6 S M o) _ _
  refine V_dup rfl dX12_init_98 rfl ?_
  refine V_bipush (v := 6) rfl dX12_init_99 kb_6 ?_
  refine V_bipush (v := 97) rfl dX12_init_101 kb_97 ?_
  refine V_iastK (k := 6) rfl dX12_init_103 hf58 (by decide +kernel) (by decide +kernel) ?_
  have hw73 : ie_wf (SNX12_15 S o) (MNX12_7 S M o) := wf_ms hw71 hf58 (Or.inl (by decide))
  have hz74 : ie_zr (SNX12_15 S o) (MNX12_7 S M o) := zr_ms hz72 ((List.getElem?_eq_some_iff.mp hf58).1)
  show V _ _ _ _ _ _ _ _ _ _ (SNX12_15 S o) (MNX12_7 S M o) _ _
  refine V_dup rfl dX12_init_104 rfl ?_
  refine V_bipush (v := 7) rfl dX12_init_105 kb_7 ?_
  refine V_bipush (v := 121) rfl dX12_init_107 kb_121 ?_
  refine V_iastK (k := 7) rfl dX12_init_109 hf58 (by decide +kernel) (by decide +kernel) ?_
  have hw75 : ie_wf (SNX12_15 S o) (MNX12_8 S M o) := wf_ms hw73 hf58 (Or.inl (by decide))
  have hz76 : ie_zr (SNX12_15 S o) (MNX12_8 S M o) := zr_ms hz74 ((List.getElem?_eq_some_iff.mp hf58).1)
  show V _ _ _ _ _ _ _ _ _ _ (SNX12_15 S o) (MNX12_8 S M o) _ _
  refine V_dup rfl dX12_init_110 rfl ?_
  refine V_bipush (v := 8) rfl dX12_init_111 kb_8 ?_
  refine V_bipush (v := 32) rfl dX12_init_113 kb_32 ?_
  refine V_iastK (k := 8) rfl dX12_init_115 hf58 (by decide +kernel) (by decide +kernel) ?_
  have hw77 : ie_wf (SNX12_15 S o) (MNX12_9 S M o) := wf_ms hw75 hf58 (Or.inl (by decide))
  have hz78 : ie_zr (SNX12_15 S o) (MNX12_9 S M o) := zr_ms hz76 ((List.getElem?_eq_some_iff.mp hf58).1)
  show V _ _ _ _ _ _ _ _ _ _ (SNX12_15 S o) (MNX12_9 S M o) _ _
  refine V_dup rfl dX12_init_116 rfl ?_
  refine V_bipush (v := 9) rfl dX12_init_117 kb_9 ?_
  refine V_bipush (v := 116) rfl dX12_init_119 kb_116 ?_
  refine V_iastK (k := 9) rfl dX12_init_121 hf58 (by decide +kernel) (by decide +kernel) ?_
  have hw79 : ie_wf (SNX12_15 S o) (MNX12_10 S M o) := wf_ms hw77 hf58 (Or.inl (by decide))
  have hz80 : ie_zr (SNX12_15 S o) (MNX12_10 S M o) := zr_ms hz78 ((List.getElem?_eq_some_iff.mp hf58).1)
  show V _ _ _ _ _ _ _ _ _ _ (SNX12_15 S o) (MNX12_10 S M o) _ _
  refine V_dup rfl dX12_init_122 rfl ?_
  refine V_bipush (v := 10) rfl dX12_init_123 kb_10 ?_
  refine V_bipush (v := 105) rfl dX12_init_125 kb_105 ?_
  refine V_iastK (k := 10) rfl dX12_init_127 hf58 (by decide +kernel) (by decide +kernel) ?_
  have hw81 : ie_wf (SNX12_15 S o) (MNX12_11 S M o) := wf_ms hw79 hf58 (Or.inl (by decide))
  have hz82 : ie_zr (SNX12_15 S o) (MNX12_11 S M o) := zr_ms hz80 ((List.getElem?_eq_some_iff.mp hf58).1)
  show V _ _ _ _ _ _ _ _ _ _ (SNX12_15 S o) (MNX12_11 S M o) _ _
  refine V_dup rfl dX12_init_128 rfl ?_
  refine V_bipush (v := 11) rfl dX12_init_129 kb_11 ?_
  refine V_bipush (v := 114) rfl dX12_init_131 kb_114 ?_
  refine V_iastK (k := 11) rfl dX12_init_133 hf58 (by decide +kernel) (by decide +kernel) ?_
  have hw83 : ie_wf (SNX12_15 S o) (MNX12_12 S M o) := wf_ms hw81 hf58 (Or.inl (by decide))
  have hz84 : ie_zr (SNX12_15 S o) (MNX12_12 S M o) := zr_ms hz82 ((List.getElem?_eq_some_iff.mp hf58).1)
  show V _ _ _ _ _ _ _ _ _ _ (SNX12_15 S o) (MNX12_12 S M o) _ _
  refine V_dup rfl dX12_init_134 rfl ?_
  refine V_bipush (v := 12) rfl dX12_init_135 kb_12 ?_
  refine V_bipush (v := 101) rfl dX12_init_137 kb_101 ?_
  refine V_iastK (k := 12) rfl dX12_init_139 hf58 (by decide +kernel) (by decide +kernel) ?_
  have hw85 : ie_wf (SNX12_15 S o) (MNX12_13 S M o) := wf_ms hw83 hf58 (Or.inl (by decide))
  have hz86 : ie_zr (SNX12_15 S o) (MNX12_13 S M o) := zr_ms hz84 ((List.getElem?_eq_some_iff.mp hf58).1)
  show V _ _ _ _ _ _ _ _ _ _ (SNX12_15 S o) (MNX12_13 S M o) _ _
  refine V_dup rfl dX12_init_140 rfl ?_
  refine V_bipush (v := 13) rfl dX12_init_141 kb_13 ?_
  refine V_bipush (v := 32) rfl dX12_init_143 kb_32 ?_
  refine V_iastK (k := 13) rfl dX12_init_145 hf58 (by decide +kernel) (by decide +kernel) ?_
  have hw87 : ie_wf (SNX12_15 S o) (MNX12_14 S M o) := wf_ms hw85 hf58 (Or.inl (by decide))
  have hz88 : ie_zr (SNX12_15 S o) (MNX12_14 S M o) := zr_ms hz86 ((List.getElem?_eq_some_iff.mp hf58).1)
  show V _ _ _ _ _ _ _ _ _ _ (SNX12_15 S o) (MNX12_14 S M o) _ _
  refine V_dup rfl dX12_init_146 rfl ?_
  refine V_bipush (v := 14) rfl dX12_init_147 kb_14 ?_
  refine V_bipush (v := 101) rfl dX12_init_149 kb_101 ?_
  refine V_iastK (k := 14) rfl dX12_init_151 hf58 (by decide +kernel) (by decide +kernel) ?_
  have hw89 : ie_wf (SNX12_15 S o) (MNX12_15 S M o) := wf_ms hw87 hf58 (Or.inl (by decide))
  have hz90 : ie_zr (SNX12_15 S o) (MNX12_15 S M o) := zr_ms hz88 ((List.getElem?_eq_some_iff.mp hf58).1)
  show V _ _ _ _ _ _ _ _ _ _ (SNX12_15 S o) (MNX12_15 S M o) _ _
  refine V_dup rfl dX12_init_152 rfl ?_
  refine V_bipush (v := 15) rfl dX12_init_153 kb_15 ?_
  refine V_bipush (v := 97) rfl dX12_init_155 kb_97 ?_
  refine V_iastK (k := 15) rfl dX12_init_157 hf58 (by decide +kernel) (by decide +kernel) ?_
  have hw91 : ie_wf (SNX12_15 S o) (MNX12_16 S M o) := wf_ms hw89 hf58 (Or.inl (by decide))
  have hz92 : ie_zr (SNX12_15 S o) (MNX12_16 S M o) := zr_ms hz90 ((List.getElem?_eq_some_iff.mp hf58).1)
  show V _ _ _ _ _ _ _ _ _ _ (SNX12_15 S o) (MNX12_16 S M o) _ _
  refine V_dup rfl dX12_init_158 rfl ?_
  refine V_bipush (v := 16) rfl dX12_init_159 kb_16 ?_
  refine V_bipush (v := 115) rfl dX12_init_161 kb_115 ?_
  refine V_iastK (k := 16) rfl dX12_init_163 hf58 (by decide +kernel) (by decide +kernel) ?_
  have hw93 : ie_wf (SNX12_15 S o) (MNX12_17 S M o) := wf_ms hw91 hf58 (Or.inl (by decide))
  have hz94 : ie_zr (SNX12_15 S o) (MNX12_17 S M o) := zr_ms hz92 ((List.getElem?_eq_some_iff.mp hf58).1)
  show V _ _ _ _ _ _ _ _ _ _ (SNX12_15 S o) (MNX12_17 S M o) _ _
  refine V_dup rfl dX12_init_164 rfl ?_
  refine V_bipush (v := 17) rfl dX12_init_165 kb_17 ?_
  refine V_bipush (v := 101) rfl dX12_init_167 kb_101 ?_
  refine V_iastK (k := 17) rfl dX12_init_169 hf58 (by decide +kernel) (by decide +kernel) ?_
  have hw95 : ie_wf (SNX12_15 S o) (MNX12_18 S M o) := wf_ms hw93 hf58 (Or.inl (by decide))
  have hz96 : ie_zr (SNX12_15 S o) (MNX12_18 S M o) := zr_ms hz94 ((List.getElem?_eq_some_iff.mp hf58).1)
  show V _ _ _ _ _ _ _ _ _ _ (SNX12_15 S o) (MNX12_18 S M o) _ _
  refine V_dup rfl dX12_init_170 rfl ?_
  refine V_bipush (v := 18) rfl dX12_init_171 kb_18 ?_
  refine V_bipush (v := 32) rfl dX12_init_173 kb_32 ?_
  refine V_iastK (k := 18) rfl dX12_init_175 hf58 (by decide +kernel) (by decide +kernel) ?_
  have hw97 : ie_wf (SNX12_15 S o) (MNX12_19 S M o) := wf_ms hw95 hf58 (Or.inl (by decide))
  have hz98 : ie_zr (SNX12_15 S o) (MNX12_19 S M o) := zr_ms hz96 ((List.getElem?_eq_some_iff.mp hf58).1)
  show V _ _ _ _ _ _ _ _ _ _ (SNX12_15 S o) (MNX12_19 S M o) _ _
  refine V_dup rfl dX12_init_176 rfl ?_
  refine V_bipush (v := 19) rfl dX12_init_177 kb_19 ?_
  refine V_bipush (v := 101) rfl dX12_init_179 kb_101 ?_
  refine V_iastK (k := 19) rfl dX12_init_181 hf58 (by decide +kernel) (by decide +kernel) ?_
  have hw99 : ie_wf (SNX12_15 S o) (MNX12_20 S M o) := wf_ms hw97 hf58 (Or.inl (by decide))
  have hz100 : ie_zr (SNX12_15 S o) (MNX12_20 S M o) := zr_ms hz98 ((List.getElem?_eq_some_iff.mp hf58).1)
  show V _ _ _ _ _ _ _ _ _ _ (SNX12_15 S o) (MNX12_20 S M o) _ _
  refine V_dup rfl dX12_init_182 rfl ?_
  refine V_bipush (v := 20) rfl dX12_init_183 kb_20 ?_
  refine V_bipush (v := 97) rfl dX12_init_185 kb_97 ?_
  refine V_iastK (k := 20) rfl dX12_init_187 hf58 (by decide +kernel) (by decide +kernel) ?_
  have hw101 : ie_wf (SNX12_15 S o) (MNX12_21 S M o) := wf_ms hw99 hf58 (Or.inl (by decide))
  have hz102 : ie_zr (SNX12_15 S o) (MNX12_21 S M o) := zr_ms hz100 ((List.getElem?_eq_some_iff.mp hf58).1)
  show V _ _ _ _ _ _ _ _ _ _ (SNX12_15 S o) (MNX12_21 S M o) _ _
  refine V_dup rfl dX12_init_188 rfl ?_
  refine V_bipush (v := 21) rfl dX12_init_189 kb_21 ?_
  refine V_bipush (v := 116) rfl dX12_init_191 kb_116 ?_
  refine V_iastK (k := 21) rfl dX12_init_193 hf58 (by decide +kernel) (by decide +kernel) ?_
  have hw103 : ie_wf (SNX12_15 S o) (MNX12_22 S M o) := wf_ms hw101 hf58 (Or.inl (by decide))
  have hz104 : ie_zr (SNX12_15 S o) (MNX12_22 S M o) := zr_ms hz102 ((List.getElem?_eq_some_iff.mp hf58).1)
  show V _ _ _ _ _ _ _ _ _ _ (SNX12_15 S o) (MNX12_22 S M o) _ _
  refine V_dup rfl dX12_init_194 rfl ?_
  refine V_bipush (v := 22) rfl dX12_init_195 kb_22 ?_
  refine V_bipush (v := 32) rfl dX12_init_197 kb_32 ?_
  refine V_iastK (k := 22) rfl dX12_init_199 hf58 (by decide +kernel) (by decide +kernel) ?_
  have hw105 : ie_wf (SNX12_15 S o) (MNX12_23 S M o) := wf_ms hw103 hf58 (Or.inl (by decide))
  have hz106 : ie_zr (SNX12_15 S o) (MNX12_23 S M o) := zr_ms hz104 ((List.getElem?_eq_some_iff.mp hf58).1)
  show V _ _ _ _ _ _ _ _ _ _ (SNX12_15 S o) (MNX12_23 S M o) _ _
  refine V_dup rfl dX12_init_200 rfl ?_
  refine V_bipush (v := 23) rfl dX12_init_201 kb_23 ?_
  refine V_bipush (v := 119) rfl dX12_init_203 kb_119 ?_
  refine V_iastK (k := 23) rfl dX12_init_205 hf58 (by decide +kernel) (by decide +kernel) ?_
  have hw107 : ie_wf (SNX12_15 S o) (MNX12_24 S M o) := wf_ms hw105 hf58 (Or.inl (by decide))
  have hz108 : ie_zr (SNX12_15 S o) (MNX12_24 S M o) := zr_ms hz106 ((List.getElem?_eq_some_iff.mp hf58).1)
  show V _ _ _ _ _ _ _ _ _ _ (SNX12_15 S o) (MNX12_24 S M o) _ _
  refine V_dup rfl dX12_init_206 rfl ?_
  refine V_bipush (v := 24) rfl dX12_init_207 kb_24 ?_
  refine V_bipush (v := 104) rfl dX12_init_209 kb_104 ?_
  refine V_iastK (k := 24) rfl dX12_init_211 hf58 (by decide +kernel) (by decide +kernel) ?_
  have hw109 : ie_wf (SNX12_15 S o) (MNX12_25 S M o) := wf_ms hw107 hf58 (Or.inl (by decide))
  have hz110 : ie_zr (SNX12_15 S o) (MNX12_25 S M o) := zr_ms hz108 ((List.getElem?_eq_some_iff.mp hf58).1)
  show V _ _ _ _ _ _ _ _ _ _ (SNX12_15 S o) (MNX12_25 S M o) _ _
  refine V_dup rfl dX12_init_212 rfl ?_
  refine V_bipush (v := 25) rfl dX12_init_213 kb_25 ?_
  refine V_bipush (v := 101) rfl dX12_init_215 kb_101 ?_
  refine V_iastK (k := 25) rfl dX12_init_217 hf58 (by decide +kernel) (by decide +kernel) ?_
  have hw111 : ie_wf (SNX12_15 S o) (MNX12_26 S M o) := wf_ms hw109 hf58 (Or.inl (by decide))
  have hz112 : ie_zr (SNX12_15 S o) (MNX12_26 S M o) := zr_ms hz110 ((List.getElem?_eq_some_iff.mp hf58).1)
  show V _ _ _ _ _ _ _ _ _ _ (SNX12_15 S o) (MNX12_26 S M o) _ _
  refine V_dup rfl dX12_init_218 rfl ?_
  refine V_bipush (v := 26) rfl dX12_init_219 kb_26 ?_
  refine V_bipush (v := 110) rfl dX12_init_221 kb_110 ?_
  refine V_iastK (k := 26) rfl dX12_init_223 hf58 (by decide +kernel) (by decide +kernel) ?_
  have hw113 : ie_wf (SNX12_15 S o) (MNX12_27 S M o) := wf_ms hw111 hf58 (Or.inl (by decide))
  have hz114 : ie_zr (SNX12_15 S o) (MNX12_27 S M o) := zr_ms hz112 ((List.getElem?_eq_some_iff.mp hf58).1)
  show V _ _ _ _ _ _ _ _ _ _ (SNX12_15 S o) (MNX12_27 S M o) _ _
  refine V_dup rfl dX12_init_224 rfl ?_
  refine V_bipush (v := 27) rfl dX12_init_225 kb_27 ?_
  refine V_bipush (v := 32) rfl dX12_init_227 kb_32 ?_
  refine V_iastK (k := 27) rfl dX12_init_229 hf58 (by decide +kernel) (by decide +kernel) ?_
  have hw115 : ie_wf (SNX12_15 S o) (MNX12_28 S M o) := wf_ms hw113 hf58 (Or.inl (by decide))
  have hz116 : ie_zr (SNX12_15 S o) (MNX12_28 S M o) := zr_ms hz114 ((List.getElem?_eq_some_iff.mp hf58).1)
  show V _ _ _ _ _ _ _ _ _ _ (SNX12_15 S o) (MNX12_28 S M o) _ _
  refine V_dup rfl dX12_init_230 rfl ?_
  refine V_bipush (v := 28) rfl dX12_init_231 kb_28 ?_
  refine V_bipush (v := 111) rfl dX12_init_233 kb_111 ?_
  refine V_iastK (k := 28) rfl dX12_init_235 hf58 (by decide +kernel) (by decide +kernel) ?_
  have hw117 : ie_wf (SNX12_15 S o) (MNX12_29 S M o) := wf_ms hw115 hf58 (Or.inl (by decide))
  have hz118 : ie_zr (SNX12_15 S o) (MNX12_29 S M o) := zr_ms hz116 ((List.getElem?_eq_some_iff.mp hf58).1)
  show V _ _ _ _ _ _ _ _ _ _ (SNX12_15 S o) (MNX12_29 S M o) _ _
  refine V_dup rfl dX12_init_236 rfl ?_
  refine V_bipush (v := 29) rfl dX12_init_237 kb_29 ?_
  refine V_bipush (v := 114) rfl dX12_init_239 kb_114 ?_
  refine V_iastK (k := 29) rfl dX12_init_241 hf58 (by decide +kernel) (by decide +kernel) ?_
  have hw119 : ie_wf (SNX12_15 S o) (MNX12_30 S M o) := wf_ms hw117 hf58 (Or.inl (by decide))
  have hz120 : ie_zr (SNX12_15 S o) (MNX12_30 S M o) := zr_ms hz118 ((List.getElem?_eq_some_iff.mp hf58).1)
  show V _ _ _ _ _ _ _ _ _ _ (SNX12_15 S o) (MNX12_30 S M o) _ _
  refine V_dup rfl dX12_init_242 rfl ?_
  refine V_bipush (v := 30) rfl dX12_init_243 kb_30 ?_
  refine V_bipush (v := 32) rfl dX12_init_245 kb_32 ?_
  refine V_iastK (k := 30) rfl dX12_init_247 hf58 (by decide +kernel) (by decide +kernel) ?_
  have hw121 : ie_wf (SNX12_15 S o) (MNX12_31 S M o) := wf_ms hw119 hf58 (Or.inl (by decide))
  have hz122 : ie_zr (SNX12_15 S o) (MNX12_31 S M o) := zr_ms hz120 ((List.getElem?_eq_some_iff.mp hf58).1)
  show V _ _ _ _ _ _ _ _ _ _ (SNX12_15 S o) (MNX12_31 S M o) _ _
  refine V_dup rfl dX12_init_248 rfl ?_
  refine V_bipush (v := 31) rfl dX12_init_249 kb_31 ?_
  refine V_bipush (v := 97) rfl dX12_init_251 kb_97 ?_
  refine V_iastK (k := 31) rfl dX12_init_253 hf58 (by decide +kernel) (by decide +kernel) ?_
  have hw123 : ie_wf (SNX12_15 S o) (MNX12_32 S M o) := wf_ms hw121 hf58 (Or.inl (by decide))
  have hz124 : ie_zr (SNX12_15 S o) (MNX12_32 S M o) := zr_ms hz122 ((List.getElem?_eq_some_iff.mp hf58).1)
  show V _ _ _ _ _ _ _ _ _ _ (SNX12_15 S o) (MNX12_32 S M o) _ _
  refine V_dup rfl dX12_init_254 rfl ?_
  refine V_bipush (v := 32) rfl dX12_init_255 kb_32 ?_
  refine V_bipush (v := 110) rfl dX12_init_257 kb_110 ?_
  refine V_iastK (k := 32) rfl dX12_init_259 hf58 (by decide +kernel) (by decide +kernel) ?_
  have hw125 : ie_wf (SNX12_15 S o) (MNX12_33 S M o) := wf_ms hw123 hf58 (Or.inl (by decide))
  have hz126 : ie_zr (SNX12_15 S o) (MNX12_33 S M o) := zr_ms hz124 ((List.getElem?_eq_some_iff.mp hf58).1)
  show V _ _ _ _ _ _ _ _ _ _ (SNX12_15 S o) (MNX12_33 S M o) _ _
  refine V_dup rfl dX12_init_260 rfl ?_
  refine V_bipush (v := 33) rfl dX12_init_261 kb_33 ?_
  refine V_bipush (v := 100) rfl dX12_init_263 kb_100 ?_
  refine V_iastK (k := 33) rfl dX12_init_265 hf58 (by decide +kernel) (by decide +kernel) ?_
  have hw127 : ie_wf (SNX12_15 S o) (MNX12_34 S M o) := wf_ms hw125 hf58 (Or.inl (by decide))
  have hz128 : ie_zr (SNX12_15 S o) (MNX12_34 S M o) := zr_ms hz126 ((List.getElem?_eq_some_iff.mp hf58).1)
  show V _ _ _ _ _ _ _ _ _ _ (SNX12_15 S o) (MNX12_34 S M o) _ _
  refine V_dup rfl dX12_init_266 rfl ?_
  refine V_bipush (v := 34) rfl dX12_init_267 kb_34 ?_
  refine V_bipush (v := 32) rfl dX12_init_269 kb_32 ?_
  refine V_iastK (k := 34) rfl dX12_init_271 hf58 (by decide +kernel) (by decide +kernel) ?_
  have hw129 : ie_wf (SNX12_15 S o) (MNX12_35 S M o) := wf_ms hw127 hf58 (Or.inl (by decide))
  have hz130 : ie_zr (SNX12_15 S o) (MNX12_35 S M o) := zr_ms hz128 ((List.getElem?_eq_some_iff.mp hf58).1)
  show V _ _ _ _ _ _ _ _ _ _ (SNX12_15 S o) (MNX12_35 S M o) _ _
  refine V_dup rfl dX12_init_272 rfl ?_
  refine V_bipush (v := 35) rfl dX12_init_273 kb_35 ?_
  refine V_bipush (v := 110) rfl dX12_init_275 kb_110 ?_
  refine V_iastK (k := 35) rfl dX12_init_277 hf58 (by decide +kernel) (by decide +kernel) ?_
  have hw131 : ie_wf (SNX12_15 S o) (MNX12_36 S M o) := wf_ms hw129 hf58 (Or.inl (by decide))
  have hz132 : ie_zr (SNX12_15 S o) (MNX12_36 S M o) := zr_ms hz130 ((List.getElem?_eq_some_iff.mp hf58).1)
  show V _ _ _ _ _ _ _ _ _ _ (SNX12_15 S o) (MNX12_36 S M o) _ _
  refine V_dup rfl dX12_init_278 rfl ?_
  refine V_bipush (v := 36) rfl dX12_init_279 kb_36 ?_
  refine V_bipush (v := 111) rfl dX12_init_281 kb_111 ?_
  refine V_iastK (k := 36) rfl dX12_init_283 hf58 (by decide +kernel) (by decide +kernel) ?_
  have hw133 : ie_wf (SNX12_15 S o) (MNX12_37 S M o) := wf_ms hw131 hf58 (Or.inl (by decide))
  have hz134 : ie_zr (SNX12_15 S o) (MNX12_37 S M o) := zr_ms hz132 ((List.getElem?_eq_some_iff.mp hf58).1)
  show V _ _ _ _ _ _ _ _ _ _ (SNX12_15 S o) (MNX12_37 S M o) _ _
  refine V_dup rfl dX12_init_284 rfl ?_
  refine V_bipush (v := 37) rfl dX12_init_285 kb_37 ?_
  refine V_bipush (v := 116) rfl dX12_init_287 kb_116 ?_
  refine V_iastK (k := 37) rfl dX12_init_289 hf58 (by decide +kernel) (by decide +kernel) ?_
  have hw135 : ie_wf (SNX12_15 S o) (MNX12_38 S M o) := wf_ms hw133 hf58 (Or.inl (by decide))
  have hz136 : ie_zr (SNX12_15 S o) (MNX12_38 S M o) := zr_ms hz134 ((List.getElem?_eq_some_iff.mp hf58).1)
  show V _ _ _ _ _ _ _ _ _ _ (SNX12_15 S o) (MNX12_38 S M o) _ _
  refine V_dup rfl dX12_init_290 rfl ?_
  refine V_bipush (v := 38) rfl dX12_init_291 kb_38 ?_
  refine V_bipush (v := 32) rfl dX12_init_293 kb_32 ?_
  refine V_iastK (k := 38) rfl dX12_init_295 hf58 (by decide +kernel) (by decide +kernel) ?_
  have hw137 : ie_wf (SNX12_15 S o) (MNX12_39 S M o) := wf_ms hw135 hf58 (Or.inl (by decide))
  have hz138 : ie_zr (SNX12_15 S o) (MNX12_39 S M o) := zr_ms hz136 ((List.getElem?_eq_some_iff.mp hf58).1)
  show V _ _ _ _ _ _ _ _ _ _ (SNX12_15 S o) (MNX12_39 S M o) _ _
  refine V_dup rfl dX12_init_296 rfl ?_
  refine V_bipush (v := 39) rfl dX12_init_297 kb_39 ?_
  refine V_bipush (v := 102) rfl dX12_init_299 kb_102 ?_
  refine V_iastK (k := 39) rfl dX12_init_301 hf58 (by decide +kernel) (by decide +kernel) ?_
  have hw139 : ie_wf (SNX12_15 S o) (MNX12_40 S M o) := wf_ms hw137 hf58 (Or.inl (by decide))
  have hz140 : ie_zr (SNX12_15 S o) (MNX12_40 S M o) := zr_ms hz138 ((List.getElem?_eq_some_iff.mp hf58).1)
  show V _ _ _ _ _ _ _ _ _ _ (SNX12_15 S o) (MNX12_40 S M o) _ _
  refine V_dup rfl dX12_init_302 rfl ?_
  refine V_bipush (v := 40) rfl dX12_init_303 kb_40 ?_
  refine V_bipush (v := 101) rfl dX12_init_305 kb_101 ?_
  refine V_iastK (k := 40) rfl dX12_init_307 hf58 (by decide +kernel) (by decide +kernel) ?_
  have hw141 : ie_wf (SNX12_15 S o) (MNX12_41 S M o) := wf_ms hw139 hf58 (Or.inl (by decide))
  have hz142 : ie_zr (SNX12_15 S o) (MNX12_41 S M o) := zr_ms hz140 ((List.getElem?_eq_some_iff.mp hf58).1)
  show V _ _ _ _ _ _ _ _ _ _ (SNX12_15 S o) (MNX12_41 S M o) _ _
  refine V_dup rfl dX12_init_308 rfl ?_
  refine V_bipush (v := 41) rfl dX12_init_309 kb_41 ?_
  refine V_bipush (v := 101) rfl dX12_init_311 kb_101 ?_
  refine V_iastK (k := 41) rfl dX12_init_313 hf58 (by decide +kernel) (by decide +kernel) ?_
  have hw143 : ie_wf (SNX12_15 S o) (MNX12_42 S M o) := wf_ms hw141 hf58 (Or.inl (by decide))
  have hz144 : ie_zr (SNX12_15 S o) (MNX12_42 S M o) := zr_ms hz142 ((List.getElem?_eq_some_iff.mp hf58).1)
  show V _ _ _ _ _ _ _ _ _ _ (SNX12_15 S o) (MNX12_42 S M o) _ _
  refine V_dup rfl dX12_init_314 rfl ?_
  refine V_bipush (v := 42) rfl dX12_init_315 kb_42 ?_
  refine V_bipush (v := 116) rfl dX12_init_317 kb_116 ?_
  refine V_iastK (k := 42) rfl dX12_init_319 hf58 (by decide +kernel) (by decide +kernel) ?_
  have hw145 : ie_wf (SNX12_15 S o) (MNX12_43 S M o) := wf_ms hw143 hf58 (Or.inl (by decide))
  have hz146 : ie_zr (SNX12_15 S o) (MNX12_43 S M o) := zr_ms hz144 ((List.getElem?_eq_some_iff.mp hf58).1)
  show V _ _ _ _ _ _ _ _ _ _ (SNX12_15 S o) (MNX12_43 S M o) _ _
  refine V_dup rfl dX12_init_320 rfl ?_
  refine V_bipush (v := 43) rfl dX12_init_321 kb_43 ?_
  refine V_bipush (v := 32) rfl dX12_init_323 kb_32 ?_
  refine V_iastK (k := 43) rfl dX12_init_325 hf58 (by decide +kernel) (by decide +kernel) ?_
  have hw147 : ie_wf (SNX12_15 S o) (MNX12_44 S M o) := wf_ms hw145 hf58 (Or.inl (by decide))
  have hz148 : ie_zr (SNX12_15 S o) (MNX12_44 S M o) := zr_ms hz146 ((List.getElem?_eq_some_iff.mp hf58).1)
  show V _ _ _ _ _ _ _ _ _ _ (SNX12_15 S o) (MNX12_44 S M o) _ _
  refine V_dup rfl dX12_init_326 rfl ?_
  refine V_bipush (v := 44) rfl dX12_init_327 kb_44 ?_
  refine V_bipush (v := 114) rfl dX12_init_329 kb_114 ?_
  refine V_iastK (k := 44) rfl dX12_init_331 hf58 (by decide +kernel) (by decide +kernel) ?_
  have hw149 : ie_wf (SNX12_15 S o) (MNX12_45 S M o) := wf_ms hw147 hf58 (Or.inl (by decide))
  have hz150 : ie_zr (SNX12_15 S o) (MNX12_45 S M o) := zr_ms hz148 ((List.getElem?_eq_some_iff.mp hf58).1)
  show V _ _ _ _ _ _ _ _ _ _ (SNX12_15 S o) (MNX12_45 S M o) _ _
  refine V_dup rfl dX12_init_332 rfl ?_
  refine V_bipush (v := 45) rfl dX12_init_333 kb_45 ?_
  refine V_bipush (v := 111) rfl dX12_init_335 kb_111 ?_
  refine V_iastK (k := 45) rfl dX12_init_337 hf58 (by decide +kernel) (by decide +kernel) ?_
  have hw151 : ie_wf (SNX12_15 S o) (MNX12_46 S M o) := wf_ms hw149 hf58 (Or.inl (by decide))
  have hz152 : ie_zr (SNX12_15 S o) (MNX12_46 S M o) := zr_ms hz150 ((List.getElem?_eq_some_iff.mp hf58).1)
  show V _ _ _ _ _ _ _ _ _ _ (SNX12_15 S o) (MNX12_46 S M o) _ _
  refine V_dup rfl dX12_init_338 rfl ?_
  refine V_bipush (v := 46) rfl dX12_init_339 kb_46 ?_
  refine V_bipush (v := 119) rfl dX12_init_341 kb_119 ?_
  refine V_iastK (k := 46) rfl dX12_init_343 hf58 (by decide +kernel) (by decide +kernel) ?_
  have hw153 : ie_wf (SNX12_15 S o) (MNX12_47 S M o) := wf_ms hw151 hf58 (Or.inl (by decide))
  have hz154 : ie_zr (SNX12_15 S o) (MNX12_47 S M o) := zr_ms hz152 ((List.getElem?_eq_some_iff.mp hf58).1)
  show V _ _ _ _ _ _ _ _ _ _ (SNX12_15 S o) (MNX12_47 S M o) _ _
  refine V_dup rfl dX12_init_344 rfl ?_
  refine V_bipush (v := 47) rfl dX12_init_345 kb_47 ?_
  refine V_bipush (v := 32) rfl dX12_init_347 kb_32 ?_
  refine V_iastK (k := 47) rfl dX12_init_349 hf58 (by decide +kernel) (by decide +kernel) ?_
  have hw155 : ie_wf (SNX12_15 S o) (MNX12_48 S M o) := wf_ms hw153 hf58 (Or.inl (by decide))
  have hz156 : ie_zr (SNX12_15 S o) (MNX12_48 S M o) := zr_ms hz154 ((List.getElem?_eq_some_iff.mp hf58).1)
  show V _ _ _ _ _ _ _ _ _ _ (SNX12_15 S o) (MNX12_48 S M o) _ _
  refine V_dup rfl dX12_init_350 rfl ?_
  refine V_bipush (v := 48) rfl dX12_init_351 kb_48 ?_
  refine V_bipush (v := 108) rfl dX12_init_353 kb_108 ?_
  refine V_iastK (k := 48) rfl dX12_init_355 hf58 (by decide +kernel) (by decide +kernel) ?_
  have hw157 : ie_wf (SNX12_15 S o) (MNX12_49 S M o) := wf_ms hw155 hf58 (Or.inl (by decide))
  have hz158 : ie_zr (SNX12_15 S o) (MNX12_49 S M o) := zr_ms hz156 ((List.getElem?_eq_some_iff.mp hf58).1)
  show V _ _ _ _ _ _ _ _ _ _ (SNX12_15 S o) (MNX12_49 S M o) _ _
  refine V_dup rfl dX12_init_356 rfl ?_
  refine V_bipush (v := 49) rfl dX12_init_357 kb_49 ?_
  refine V_bipush (v := 97) rfl dX12_init_359 kb_97 ?_
  refine V_iastK (k := 49) rfl dX12_init_361 hf58 (by decide +kernel) (by decide +kernel) ?_
  have hw159 : ie_wf (SNX12_15 S o) (MNX12_50 S M o) := wf_ms hw157 hf58 (Or.inl (by decide))
  have hz160 : ie_zr (SNX12_15 S o) (MNX12_50 S M o) := zr_ms hz158 ((List.getElem?_eq_some_iff.mp hf58).1)
  show V _ _ _ _ _ _ _ _ _ _ (SNX12_15 S o) (MNX12_50 S M o) _ _
  refine V_dup rfl dX12_init_362 rfl ?_
  refine V_bipush (v := 50) rfl dX12_init_363 kb_50 ?_
  refine V_bipush (v := 109) rfl dX12_init_365 kb_109 ?_
  refine V_iastK (k := 50) rfl dX12_init_367 hf58 (by decide +kernel) (by decide +kernel) ?_
  have hw161 : ie_wf (SNX12_15 S o) (MNX12_51 S M o) := wf_ms hw159 hf58 (Or.inl (by decide))
  have hz162 : ie_zr (SNX12_15 S o) (MNX12_51 S M o) := zr_ms hz160 ((List.getElem?_eq_some_iff.mp hf58).1)
  show V _ _ _ _ _ _ _ _ _ _ (SNX12_15 S o) (MNX12_51 S M o) _ _
  refine V_dup rfl dX12_init_368 rfl ?_
  refine V_bipush (v := 51) rfl dX12_init_369 kb_51 ?_
  refine V_bipush (v := 101) rfl dX12_init_371 kb_101 ?_
  refine V_iastK (k := 51) rfl dX12_init_373 hf58 (by decide +kernel) (by decide +kernel) ?_
  have hw163 : ie_wf (SNX12_15 S o) (MNX12_52 S M o) := wf_ms hw161 hf58 (Or.inl (by decide))
  have hz164 : ie_zr (SNX12_15 S o) (MNX12_52 S M o) := zr_ms hz162 ((List.getElem?_eq_some_iff.mp hf58).1)
  show V _ _ _ _ _ _ _ _ _ _ (SNX12_15 S o) (MNX12_52 S M o) _ _
  refine V_dup rfl dX12_init_374 rfl ?_
  refine V_bipush (v := 52) rfl dX12_init_375 kb_52 ?_
  refine V_bipush (v := 32) rfl dX12_init_377 kb_32 ?_
  refine V_iastK (k := 52) rfl dX12_init_379 hf58 (by decide +kernel) (by decide +kernel) ?_
  have hw165 : ie_wf (SNX12_15 S o) (MNX12_53 S M o) := wf_ms hw163 hf58 (Or.inl (by decide))
  have hz166 : ie_zr (SNX12_15 S o) (MNX12_53 S M o) := zr_ms hz164 ((List.getElem?_eq_some_iff.mp hf58).1)
  show V _ _ _ _ _ _ _ _ _ _ (SNX12_15 S o) (MNX12_53 S M o) _ _
  refine V_dup rfl dX12_init_380 rfl ?_
  refine V_bipush (v := 53) rfl dX12_init_381 kb_53 ?_
  refine V_bipush (v := 99) rfl dX12_init_383 kb_99 ?_
  refine V_iastK (k := 53) rfl dX12_init_385 hf58 (by decide +kernel) (by decide +kernel) ?_
  have hw167 : ie_wf (SNX12_15 S o) (MNX12_54 S M o) := wf_ms hw165 hf58 (Or.inl (by decide))
  have hz168 : ie_zr (SNX12_15 S o) (MNX12_54 S M o) := zr_ms hz166 ((List.getElem?_eq_some_iff.mp hf58).1)
  show V _ _ _ _ _ _ _ _ _ _ (SNX12_15 S o) (MNX12_54 S M o) _ _
  refine V_dup rfl dX12_init_386 rfl ?_
  refine V_bipush (v := 54) rfl dX12_init_387 kb_54 ?_
  refine V_bipush (v := 108) rfl dX12_init_389 kb_108 ?_
  refine V_iastK (k := 54) rfl dX12_init_391 hf58 (by decide +kernel) (by decide +kernel) ?_
  have hw169 : ie_wf (SNX12_15 S o) (MNX12_55 S M o) := wf_ms hw167 hf58 (Or.inl (by decide))
  have hz170 : ie_zr (SNX12_15 S o) (MNX12_55 S M o) := zr_ms hz168 ((List.getElem?_eq_some_iff.mp hf58).1)
  show V _ _ _ _ _ _ _ _ _ _ (SNX12_15 S o) (MNX12_55 S M o) _ _
  refine V_dup rfl dX12_init_392 rfl ?_
  refine V_bipush (v := 55) rfl dX12_init_393 kb_55 ?_
  refine V_bipush (v := 111) rfl dX12_init_395 kb_111 ?_
  refine V_iastK (k := 55) rfl dX12_init_397 hf58 (by decide +kernel) (by decide +kernel) ?_
  have hw171 : ie_wf (SNX12_15 S o) (MNX12_56 S M o) := wf_ms hw169 hf58 (Or.inl (by decide))
  have hz172 : ie_zr (SNX12_15 S o) (MNX12_56 S M o) := zr_ms hz170 ((List.getElem?_eq_some_iff.mp hf58).1)
  show V _ _ _ _ _ _ _ _ _ _ (SNX12_15 S o) (MNX12_56 S M o) _ _
  refine V_dup rfl dX12_init_398 rfl ?_
  refine V_bipush (v := 56) rfl dX12_init_399 kb_56 ?_
  refine V_bipush (v := 99) rfl dX12_init_401 kb_99 ?_
  refine V_iastK (k := 56) rfl dX12_init_403 hf58 (by decide +kernel) (by decide +kernel) ?_
  have hw173 : ie_wf (SNX12_15 S o) (MNX12_57 S M o) := wf_ms hw171 hf58 (Or.inl (by decide))
  have hz174 : ie_zr (SNX12_15 S o) (MNX12_57 S M o) := zr_ms hz172 ((List.getElem?_eq_some_iff.mp hf58).1)
  show V _ _ _ _ _ _ _ _ _ _ (SNX12_15 S o) (MNX12_57 S M o) _ _
  refine V_dup rfl dX12_init_404 rfl ?_
  refine V_bipush (v := 57) rfl dX12_init_405 kb_57 ?_
  refine V_bipush (v := 107) rfl dX12_init_407 kb_107 ?_
  refine V_iastK (k := 57) rfl dX12_init_409 hf58 (by decide +kernel) (by decide +kernel) ?_
  have hw175 : ie_wf (SNX12_15 S o) (MNX12_58 S M o) := wf_ms hw173 hf58 (Or.inl (by decide))
  have hz176 : ie_zr (SNX12_15 S o) (MNX12_58 S M o) := zr_ms hz174 ((List.getElem?_eq_some_iff.mp hf58).1)
  show V _ _ _ _ _ _ _ _ _ _ (SNX12_15 S o) (MNX12_58 S M o) _ _
  refine V_dup rfl dX12_init_410 rfl ?_
  refine V_bipush (v := 58) rfl dX12_init_411 kb_58 ?_
  refine V_bipush (v := 32) rfl dX12_init_413 kb_32 ?_
  refine V_iastK (k := 58) rfl dX12_init_415 hf58 (by decide +kernel) (by decide +kernel) ?_
  have hw177 : ie_wf (SNX12_15 S o) (MNX12_59 S M o) := wf_ms hw175 hf58 (Or.inl (by decide))
  have hz178 : ie_zr (SNX12_15 S o) (MNX12_59 S M o) := zr_ms hz176 ((List.getElem?_eq_some_iff.mp hf58).1)
  show V _ _ _ _ _ _ _ _ _ _ (SNX12_15 S o) (MNX12_59 S M o) _ _
  refine V_dup rfl dX12_init_416 rfl ?_
  refine V_bipush (v := 59) rfl dX12_init_417 kb_59 ?_
  refine V_bipush (v := 100) rfl dX12_init_419 kb_100 ?_
  refine V_iastK (k := 59) rfl dX12_init_421 hf58 (by decide +kernel) (by decide +kernel) ?_
  have hw179 : ie_wf (SNX12_15 S o) (MNX12_60 S M o) := wf_ms hw177 hf58 (Or.inl (by decide))
  have hz180 : ie_zr (SNX12_15 S o) (MNX12_60 S M o) := zr_ms hz178 ((List.getElem?_eq_some_iff.mp hf58).1)
  show V _ _ _ _ _ _ _ _ _ _ (SNX12_15 S o) (MNX12_60 S M o) _ _
  refine V_dup rfl dX12_init_422 rfl ?_
  refine V_bipush (v := 60) rfl dX12_init_423 kb_60 ?_
  refine V_bipush (v := 97) rfl dX12_init_425 kb_97 ?_
  refine V_iastK (k := 60) rfl dX12_init_427 hf58 (by decide +kernel) (by decide +kernel) ?_
  have hw181 : ie_wf (SNX12_15 S o) (MNX12_61 S M o) := wf_ms hw179 hf58 (Or.inl (by decide))
  have hz182 : ie_zr (SNX12_15 S o) (MNX12_61 S M o) := zr_ms hz180 ((List.getElem?_eq_some_iff.mp hf58).1)
  show V _ _ _ _ _ _ _ _ _ _ (SNX12_15 S o) (MNX12_61 S M o) _ _
  refine V_dup rfl dX12_init_428 rfl ?_
  refine V_bipush (v := 61) rfl dX12_init_429 kb_61 ?_
  refine V_bipush (v := 121) rfl dX12_init_431 kb_121 ?_
  refine V_iastK (k := 61) rfl dX12_init_433 hf58 (by decide +kernel) (by decide +kernel) ?_
  have hw183 : ie_wf (SNX12_15 S o) (MNX12_62 S M o) := wf_ms hw181 hf58 (Or.inl (by decide))
  have hz184 : ie_zr (SNX12_15 S o) (MNX12_62 S M o) := zr_ms hz182 ((List.getElem?_eq_some_iff.mp hf58).1)
  show V _ _ _ _ _ _ _ _ _ _ (SNX12_15 S o) (MNX12_62 S M o) _ _
  refine V_dup rfl dX12_init_434 rfl ?_
  refine V_bipush (v := 62) rfl dX12_init_435 kb_62 ?_
  refine V_bipush (v := 32) rfl dX12_init_437 kb_32 ?_
  refine V_iastK (k := 62) rfl dX12_init_439 hf58 (by decide +kernel) (by decide +kernel) ?_
  have hw185 : ie_wf (SNX12_15 S o) (MNX12_63 S M o) := wf_ms hw183 hf58 (Or.inl (by decide))
  have hz186 : ie_zr (SNX12_15 S o) (MNX12_63 S M o) := zr_ms hz184 ((List.getElem?_eq_some_iff.mp hf58).1)
  show V _ _ _ _ _ _ _ _ _ _ (SNX12_15 S o) (MNX12_63 S M o) _ _
  refine V_dup rfl dX12_init_440 rfl ?_
  refine V_bipush (v := 63) rfl dX12_init_441 kb_63 ?_
  refine V_bipush (v := 111) rfl dX12_init_443 kb_111 ?_
  refine V_iastK (k := 63) rfl dX12_init_445 hf58 (by decide +kernel) (by decide +kernel) ?_
  have hw187 : ie_wf (SNX12_15 S o) (MNX12_64 S M o) := wf_ms hw185 hf58 (Or.inl (by decide))
  have hz188 : ie_zr (SNX12_15 S o) (MNX12_64 S M o) := zr_ms hz186 ((List.getElem?_eq_some_iff.mp hf58).1)
  show V _ _ _ _ _ _ _ _ _ _ (SNX12_15 S o) (MNX12_64 S M o) _ _
  refine V_dup rfl dX12_init_446 rfl ?_
  refine V_bipush (v := 64) rfl dX12_init_447 kb_64 ?_
  refine V_bipush (v := 119) rfl dX12_init_449 kb_119 ?_
  refine V_iastK (k := 64) rfl dX12_init_451 hf58 (by decide +kernel) (by decide +kernel) ?_
  have hw189 : ie_wf (SNX12_15 S o) (MNX12_65 S M o) := wf_ms hw187 hf58 (Or.inl (by decide))
  have hz190 : ie_zr (SNX12_15 S o) (MNX12_65 S M o) := zr_ms hz188 ((List.getElem?_eq_some_iff.mp hf58).1)
  show V _ _ _ _ _ _ _ _ _ _ (SNX12_15 S o) (MNX12_65 S M o) _ _
  refine V_dup rfl dX12_init_452 rfl ?_
  refine V_bipush (v := 65) rfl dX12_init_453 kb_65 ?_
  refine V_bipush (v := 110) rfl dX12_init_455 kb_110 ?_
  refine V_iastK (k := 65) rfl dX12_init_457 hf58 (by decide +kernel) (by decide +kernel) ?_
  have hw191 : ie_wf (SNX12_15 S o) (MNX12_66 S M o) := wf_ms hw189 hf58 (Or.inl (by decide))
  have hz192 : ie_zr (SNX12_15 S o) (MNX12_66 S M o) := zr_ms hz190 ((List.getElem?_eq_some_iff.mp hf58).1)
  show V _ _ _ _ _ _ _ _ _ _ (SNX12_15 S o) (MNX12_66 S M o) _ _
  refine V_dup rfl dX12_init_458 rfl ?_
  refine V_bipush (v := 66) rfl dX12_init_459 kb_66 ?_
  refine V_bipush (v := 32) rfl dX12_init_461 kb_32 ?_
  refine V_iastK (k := 66) rfl dX12_init_463 hf58 (by decide +kernel) (by decide +kernel) ?_
  have hw193 : ie_wf (SNX12_15 S o) (MNX12_67 S M o) := wf_ms hw191 hf58 (Or.inl (by decide))
  have hz194 : ie_zr (SNX12_15 S o) (MNX12_67 S M o) := zr_ms hz192 ((List.getElem?_eq_some_iff.mp hf58).1)
  show V _ _ _ _ _ _ _ _ _ _ (SNX12_15 S o) (MNX12_67 S M o) _ _
  refine V_dup rfl dX12_init_464 rfl ?_
  refine V_bipush (v := 67) rfl dX12_init_465 kb_67 ?_
  refine V_bipush (v := 108) rfl dX12_init_467 kb_108 ?_
  refine V_iastK (k := 67) rfl dX12_init_469 hf58 (by decide +kernel) (by decide +kernel) ?_
  have hw195 : ie_wf (SNX12_15 S o) (MNX12_68 S M o) := wf_ms hw193 hf58 (Or.inl (by decide))
  have hz196 : ie_zr (SNX12_15 S o) (MNX12_68 S M o) := zr_ms hz194 ((List.getElem?_eq_some_iff.mp hf58).1)
  show V _ _ _ _ _ _ _ _ _ _ (SNX12_15 S o) (MNX12_68 S M o) _ _
  refine V_dup rfl dX12_init_470 rfl ?_
  refine V_bipush (v := 68) rfl dX12_init_471 kb_68 ?_
  refine V_bipush (v := 101) rfl dX12_init_473 kb_101 ?_
  refine V_iastK (k := 68) rfl dX12_init_475 hf58 (by decide +kernel) (by decide +kernel) ?_
  have hw197 : ie_wf (SNX12_15 S o) (MNX12_69 S M o) := wf_ms hw195 hf58 (Or.inl (by decide))
  have hz198 : ie_zr (SNX12_15 S o) (MNX12_69 S M o) := zr_ms hz196 ((List.getElem?_eq_some_iff.mp hf58).1)
  show V _ _ _ _ _ _ _ _ _ _ (SNX12_15 S o) (MNX12_69 S M o) _ _
  refine V_dup rfl dX12_init_476 rfl ?_
  refine V_bipush (v := 69) rfl dX12_init_477 kb_69 ?_
  refine V_bipush (v := 103) rfl dX12_init_479 kb_103 ?_
  refine V_iastK (k := 69) rfl dX12_init_481 hf58 (by decide +kernel) (by decide +kernel) ?_
  have hw199 : ie_wf (SNX12_15 S o) (MNX12_70 S M o) := wf_ms hw197 hf58 (Or.inl (by decide))
  have hz200 : ie_zr (SNX12_15 S o) (MNX12_70 S M o) := zr_ms hz198 ((List.getElem?_eq_some_iff.mp hf58).1)
  show V _ _ _ _ _ _ _ _ _ _ (SNX12_15 S o) (MNX12_70 S M o) _ _
  refine V_dup rfl dX12_init_482 rfl ?_
  refine V_bipush (v := 70) rfl dX12_init_483 kb_70 ?_
  refine V_bipush (v := 32) rfl dX12_init_485 kb_32 ?_
  refine V_iastK (k := 70) rfl dX12_init_487 hf58 (by decide +kernel) (by decide +kernel) ?_
  have hw201 : ie_wf (SNX12_15 S o) (MNX12_71 S M o) := wf_ms hw199 hf58 (Or.inl (by decide))
  have hz202 : ie_zr (SNX12_15 S o) (MNX12_71 S M o) := zr_ms hz200 ((List.getElem?_eq_some_iff.mp hf58).1)
  show V _ _ _ _ _ _ _ _ _ _ (SNX12_15 S o) (MNX12_71 S M o) _ _
  refine V_dup rfl dX12_init_488 rfl ?_
  refine V_bipush (v := 71) rfl dX12_init_489 kb_71 ?_
  refine V_bipush (v := 114) rfl dX12_init_491 kb_114 ?_
  refine V_iastK (k := 71) rfl dX12_init_493 hf58 (by decide +kernel) (by decide +kernel) ?_
  have hw203 : ie_wf (SNX12_15 S o) (MNX12_72 S M o) := wf_ms hw201 hf58 (Or.inl (by decide))
  have hz204 : ie_zr (SNX12_15 S o) (MNX12_72 S M o) := zr_ms hz202 ((List.getElem?_eq_some_iff.mp hf58).1)
  show V _ _ _ _ _ _ _ _ _ _ (SNX12_15 S o) (MNX12_72 S M o) _ _
  refine V_dup rfl dX12_init_494 rfl ?_
  refine V_bipush (v := 72) rfl dX12_init_495 kb_72 ?_
  refine V_bipush (v := 105) rfl dX12_init_497 kb_105 ?_
  refine V_iastK (k := 72) rfl dX12_init_499 hf58 (by decide +kernel) (by decide +kernel) ?_
  have hw205 : ie_wf (SNX12_15 S o) (MNX12_73 S M o) := wf_ms hw203 hf58 (Or.inl (by decide))
  have hz206 : ie_zr (SNX12_15 S o) (MNX12_73 S M o) := zr_ms hz204 ((List.getElem?_eq_some_iff.mp hf58).1)
  show V _ _ _ _ _ _ _ _ _ _ (SNX12_15 S o) (MNX12_73 S M o) _ _
  refine V_dup rfl dX12_init_500 rfl ?_
  refine V_bipush (v := 73) rfl dX12_init_501 kb_73 ?_
  refine V_bipush (v := 118) rfl dX12_init_503 kb_118 ?_
  refine V_iastK (k := 73) rfl dX12_init_505 hf58 (by decide +kernel) (by decide +kernel) ?_
  have hw207 : ie_wf (SNX12_15 S o) (MNX12_74 S M o) := wf_ms hw205 hf58 (Or.inl (by decide))
  have hz208 : ie_zr (SNX12_15 S o) (MNX12_74 S M o) := zr_ms hz206 ((List.getElem?_eq_some_iff.mp hf58).1)
  show V _ _ _ _ _ _ _ _ _ _ (SNX12_15 S o) (MNX12_74 S M o) _ _
  refine V_dup rfl dX12_init_506 rfl ?_
  refine V_bipush (v := 74) rfl dX12_init_507 kb_74 ?_
  refine V_bipush (v := 101) rfl dX12_init_509 kb_101 ?_
  refine V_iastK (k := 74) rfl dX12_init_511 hf58 (by decide +kernel) (by decide +kernel) ?_
  have hw209 : ie_wf (SNX12_15 S o) (MNX12_75 S M o) := wf_ms hw207 hf58 (Or.inl (by decide))
  have hz210 : ie_zr (SNX12_15 S o) (MNX12_75 S M o) := zr_ms hz208 ((List.getElem?_eq_some_iff.mp hf58).1)
  show V _ _ _ _ _ _ _ _ _ _ (SNX12_15 S o) (MNX12_75 S M o) _ _
  refine V_dup rfl dX12_init_512 rfl ?_
  refine V_bipush (v := 75) rfl dX12_init_513 kb_75 ?_
  refine V_bipush (v := 114) rfl dX12_init_515 kb_114 ?_
  refine V_iastK (k := 75) rfl dX12_init_517 hf58 (by decide +kernel) (by decide +kernel) ?_
  have hw211 : ie_wf (SNX12_15 S o) (MNX12_76 S M o) := wf_ms hw209 hf58 (Or.inl (by decide))
  have hz212 : ie_zr (SNX12_15 S o) (MNX12_76 S M o) := zr_ms hz210 ((List.getElem?_eq_some_iff.mp hf58).1)
  show V _ _ _ _ _ _ _ _ _ _ (SNX12_15 S o) (MNX12_76 S M o) _ _
  refine V_dup rfl dX12_init_518 rfl ?_
  refine V_bipush (v := 76) rfl dX12_init_519 kb_76 ?_
  refine V_bipush (v := 32) rfl dX12_init_521 kb_32 ?_
  refine V_iastK (k := 76) rfl dX12_init_523 hf58 (by decide +kernel) (by decide +kernel) ?_
  have hw213 : ie_wf (SNX12_15 S o) (MNX12_77 S M o) := wf_ms hw211 hf58 (Or.inl (by decide))
  have hz214 : ie_zr (SNX12_15 S o) (MNX12_77 S M o) := zr_ms hz212 ((List.getElem?_eq_some_iff.mp hf58).1)
  show V _ _ _ _ _ _ _ _ _ _ (SNX12_15 S o) (MNX12_77 S M o) _ _
  refine V_dup rfl dX12_init_524 rfl ?_
  refine V_bipush (v := 77) rfl dX12_init_525 kb_77 ?_
  refine V_bipush (v := 102) rfl dX12_init_527 kb_102 ?_
  refine V_iastK (k := 77) rfl dX12_init_529 hf58 (by decide +kernel) (by decide +kernel) ?_
  have hw215 : ie_wf (SNX12_15 S o) (MNX12_78 S M o) := wf_ms hw213 hf58 (Or.inl (by decide))
  have hz216 : ie_zr (SNX12_15 S o) (MNX12_78 S M o) := zr_ms hz214 ((List.getElem?_eq_some_iff.mp hf58).1)
  show V _ _ _ _ _ _ _ _ _ _ (SNX12_15 S o) (MNX12_78 S M o) _ _
  refine V_dup rfl dX12_init_530 rfl ?_
  refine V_bipush (v := 78) rfl dX12_init_531 kb_78 ?_
  refine V_bipush (v := 111) rfl dX12_init_533 kb_111 ?_
  refine V_iastK (k := 78) rfl dX12_init_535 hf58 (by decide +kernel) (by decide +kernel) ?_
  have hw217 : ie_wf (SNX12_15 S o) (MNX12_79 S M o) := wf_ms hw215 hf58 (Or.inl (by decide))
  have hz218 : ie_zr (SNX12_15 S o) (MNX12_79 S M o) := zr_ms hz216 ((List.getElem?_eq_some_iff.mp hf58).1)
  show V _ _ _ _ _ _ _ _ _ _ (SNX12_15 S o) (MNX12_79 S M o) _ _
  refine V_dup rfl dX12_init_536 rfl ?_
  refine V_bipush (v := 79) rfl dX12_init_537 kb_79 ?_
  refine V_bipush (v := 111) rfl dX12_init_539 kb_111 ?_
  refine V_iastK (k := 79) rfl dX12_init_541 hf58 (by decide +kernel) (by decide +kernel) ?_
  have hw219 : ie_wf (SNX12_15 S o) (MNX12_80 S M o) := wf_ms hw217 hf58 (Or.inl (by decide))
  have hz220 : ie_zr (SNX12_15 S o) (MNX12_80 S M o) := zr_ms hz218 ((List.getElem?_eq_some_iff.mp hf58).1)
  show V _ _ _ _ _ _ _ _ _ _ (SNX12_15 S o) (MNX12_80 S M o) _ _
  refine V_dup rfl dX12_init_542 rfl ?_
  refine V_bipush (v := 80) rfl dX12_init_543 kb_80 ?_
  refine V_bipush (v := 100) rfl dX12_init_545 kb_100 ?_
  refine V_iastK (k := 80) rfl dX12_init_547 hf58 (by decide +kernel) (by decide +kernel) ?_
  have hw221 : ie_wf (SNX12_15 S o) (MNX12_81 S M o) := wf_ms hw219 hf58 (Or.inl (by decide))
  have hz222 : ie_zr (SNX12_15 S o) (MNX12_81 S M o) := zr_ms hz220 ((List.getElem?_eq_some_iff.mp hf58).1)
  show V _ _ _ _ _ _ _ _ _ _ (SNX12_15 S o) (MNX12_81 S M o) _ _
  refine V_dup rfl dX12_init_548 rfl ?_
  refine V_bipush (v := 81) rfl dX12_init_549 kb_81 ?_
  refine V_bipush (v := 32) rfl dX12_init_551 kb_32 ?_
  refine V_iastK (k := 81) rfl dX12_init_553 hf58 (by decide +kernel) (by decide +kernel) ?_
  have hw223 : ie_wf (SNX12_15 S o) (MNX12_82 S M o) := wf_ms hw221 hf58 (Or.inl (by decide))
  have hz224 : ie_zr (SNX12_15 S o) (MNX12_82 S M o) := zr_ms hz222 ((List.getElem?_eq_some_iff.mp hf58).1)
  show V _ _ _ _ _ _ _ _ _ _ (SNX12_15 S o) (MNX12_82 S M o) _ _
  refine V_dup rfl dX12_init_554 rfl ?_
  refine V_bipush (v := 82) rfl dX12_init_555 kb_82 ?_
  refine V_bipush (v := 115) rfl dX12_init_557 kb_115 ?_
  refine V_iastK (k := 82) rfl dX12_init_559 hf58 (by decide +kernel) (by decide +kernel) ?_
  have hw225 : ie_wf (SNX12_15 S o) (MNX12_83 S M o) := wf_ms hw223 hf58 (Or.inl (by decide))
  have hz226 : ie_zr (SNX12_15 S o) (MNX12_83 S M o) := zr_ms hz224 ((List.getElem?_eq_some_iff.mp hf58).1)
  show V _ _ _ _ _ _ _ _ _ _ (SNX12_15 S o) (MNX12_83 S M o) _ _
  refine V_dup rfl dX12_init_560 rfl ?_
  refine V_bipush (v := 83) rfl dX12_init_561 kb_83 ?_
  refine V_bipush (v := 116) rfl dX12_init_563 kb_116 ?_
  refine V_iastK (k := 83) rfl dX12_init_565 hf58 (by decide +kernel) (by decide +kernel) ?_
  have hw227 : ie_wf (SNX12_15 S o) (MNX12_84 S M o) := wf_ms hw225 hf58 (Or.inl (by decide))
  have hz228 : ie_zr (SNX12_15 S o) (MNX12_84 S M o) := zr_ms hz226 ((List.getElem?_eq_some_iff.mp hf58).1)
  show V _ _ _ _ _ _ _ _ _ _ (SNX12_15 S o) (MNX12_84 S M o) _ _
  refine V_dup rfl dX12_init_566 rfl ?_
  refine V_bipush (v := 84) rfl dX12_init_567 kb_84 ?_
  refine V_bipush (v := 111) rfl dX12_init_569 kb_111 ?_
  refine V_iastK (k := 84) rfl dX12_init_571 hf58 (by decide +kernel) (by decide +kernel) ?_
  have hw229 : ie_wf (SNX12_15 S o) (MNX12_85 S M o) := wf_ms hw227 hf58 (Or.inl (by decide))
  have hz230 : ie_zr (SNX12_15 S o) (MNX12_85 S M o) := zr_ms hz228 ((List.getElem?_eq_some_iff.mp hf58).1)
  show V _ _ _ _ _ _ _ _ _ _ (SNX12_15 S o) (MNX12_85 S M o) _ _
  refine V_dup rfl dX12_init_572 rfl ?_
  refine V_bipush (v := 85) rfl dX12_init_573 kb_85 ?_
  refine V_bipush (v := 110) rfl dX12_init_575 kb_110 ?_
  refine V_iastK (k := 85) rfl dX12_init_577 hf58 (by decide +kernel) (by decide +kernel) ?_
  have hw231 : ie_wf (SNX12_15 S o) (MNX12_86 S M o) := wf_ms hw229 hf58 (Or.inl (by decide))
  have hz232 : ie_zr (SNX12_15 S o) (MNX12_86 S M o) := zr_ms hz230 ((List.getElem?_eq_some_iff.mp hf58).1)
  show V _ _ _ _ _ _ _ _ _ _ (SNX12_15 S o) (MNX12_86 S M o) _ _
  refine V_dup rfl dX12_init_578 rfl ?_
  refine V_bipush (v := 86) rfl dX12_init_579 kb_86 ?_
  refine V_bipush (v := 101) rfl dX12_init_581 kb_101 ?_
  refine V_iastK (k := 86) rfl dX12_init_583 hf58 (by decide +kernel) (by decide +kernel) ?_
  have hw233 : ie_wf (SNX12_15 S o) (MNX12_87 S M o) := wf_ms hw231 hf58 (Or.inl (by decide))
  have hz234 : ie_zr (SNX12_15 S o) (MNX12_87 S M o) := zr_ms hz232 ((List.getElem?_eq_some_iff.mp hf58).1)
  show V _ _ _ _ _ _ _ _ _ _ (SNX12_15 S o) (MNX12_87 S M o) _ _
  refine V_dup rfl dX12_init_584 rfl ?_
  refine V_bipush (v := 87) rfl dX12_init_585 kb_87 ?_
  refine V_bipush (v := 32) rfl dX12_init_587 kb_32 ?_
  refine V_iastK (k := 87) rfl dX12_init_589 hf58 (by decide +kernel) (by decide +kernel) ?_
  have hw235 : ie_wf (SNX12_15 S o) (MNX12_88 S M o) := wf_ms hw233 hf58 (Or.inl (by decide))
  have hz236 : ie_zr (SNX12_15 S o) (MNX12_88 S M o) := zr_ms hz234 ((List.getElem?_eq_some_iff.mp hf58).1)
  show V _ _ _ _ _ _ _ _ _ _ (SNX12_15 S o) (MNX12_88 S M o) _ _
  refine V_dup rfl dX12_init_590 rfl ?_
  refine V_bipush (v := 88) rfl dX12_init_591 kb_88 ?_
  refine V_bipush (v := 102) rfl dX12_init_593 kb_102 ?_
  refine V_iastK (k := 88) rfl dX12_init_595 hf58 (by decide +kernel) (by decide +kernel) ?_
  have hw237 : ie_wf (SNX12_15 S o) (MNX12_89 S M o) := wf_ms hw235 hf58 (Or.inl (by decide))
  have hz238 : ie_zr (SNX12_15 S o) (MNX12_89 S M o) := zr_ms hz236 ((List.getElem?_eq_some_iff.mp hf58).1)
  show V _ _ _ _ _ _ _ _ _ _ (SNX12_15 S o) (MNX12_89 S M o) _ _
  refine V_dup rfl dX12_init_596 rfl ?_
  refine V_bipush (v := 89) rfl dX12_init_597 kb_89 ?_
  refine V_bipush (v := 111) rfl dX12_init_599 kb_111 ?_
  refine V_iastK (k := 89) rfl dX12_init_601 hf58 (by decide +kernel) (by decide +kernel) ?_
  have hw239 : ie_wf (SNX12_15 S o) (MNX12_90 S M o) := wf_ms hw237 hf58 (Or.inl (by decide))
  have hz240 : ie_zr (SNX12_15 S o) (MNX12_90 S M o) := zr_ms hz238 ((List.getElem?_eq_some_iff.mp hf58).1)
  show V _ _ _ _ _ _ _ _ _ _ (SNX12_15 S o) (MNX12_90 S M o) _ _
  refine V_dup rfl dX12_init_602 rfl ?_
  refine V_bipush (v := 90) rfl dX12_init_603 kb_90 ?_
  refine V_bipush (v := 114) rfl dX12_init_605 kb_114 ?_
  refine V_iastK (k := 90) rfl dX12_init_607 hf58 (by decide +kernel) (by decide +kernel) ?_
  have hw241 : ie_wf (SNX12_15 S o) (MNX12_91 S M o) := wf_ms hw239 hf58 (Or.inl (by decide))
  have hz242 : ie_zr (SNX12_15 S o) (MNX12_91 S M o) := zr_ms hz240 ((List.getElem?_eq_some_iff.mp hf58).1)
  show V _ _ _ _ _ _ _ _ _ _ (SNX12_15 S o) (MNX12_91 S M o) _ _
  refine V_dup rfl dX12_init_608 rfl ?_
  refine V_bipush (v := 91) rfl dX12_init_609 kb_91 ?_
  refine V_bipush (v := 32) rfl dX12_init_611 kb_32 ?_
  refine V_iastK (k := 91) rfl dX12_init_613 hf58 (by decide +kernel) (by decide +kernel) ?_
  have hw243 : ie_wf (SNX12_15 S o) (MNX12_92 S M o) := wf_ms hw241 hf58 (Or.inl (by decide))
  have hz244 : ie_zr (SNX12_15 S o) (MNX12_92 S M o) := zr_ms hz242 ((List.getElem?_eq_some_iff.mp hf58).1)
  show V _ _ _ _ _ _ _ _ _ _ (SNX12_15 S o) (MNX12_92 S M o) _ _
  refine V_dup rfl dX12_init_614 rfl ?_
  refine V_bipush (v := 92) rfl dX12_init_615 kb_92 ?_
  refine V_bipush (v := 119) rfl dX12_init_617 kb_119 ?_
  refine V_iastK (k := 92) rfl dX12_init_619 hf58 (by decide +kernel) (by decide +kernel) ?_
  have hw245 : ie_wf (SNX12_15 S o) (MNX12_93 S M o) := wf_ms hw243 hf58 (Or.inl (by decide))
  have hz246 : ie_zr (SNX12_15 S o) (MNX12_93 S M o) := zr_ms hz244 ((List.getElem?_eq_some_iff.mp hf58).1)
  show V _ _ _ _ _ _ _ _ _ _ (SNX12_15 S o) (MNX12_93 S M o) _ _
  refine V_dup rfl dX12_init_620 rfl ?_
  refine V_bipush (v := 93) rfl dX12_init_621 kb_93 ?_
  refine V_bipush (v := 97) rfl dX12_init_623 kb_97 ?_
  refine V_iastK (k := 93) rfl dX12_init_625 hf58 (by decide +kernel) (by decide +kernel) ?_
  have hw247 : ie_wf (SNX12_15 S o) (MNX12_94 S M o) := wf_ms hw245 hf58 (Or.inl (by decide))
  have hz248 : ie_zr (SNX12_15 S o) (MNX12_94 S M o) := zr_ms hz246 ((List.getElem?_eq_some_iff.mp hf58).1)
  show V _ _ _ _ _ _ _ _ _ _ (SNX12_15 S o) (MNX12_94 S M o) _ _
  refine V_dup rfl dX12_init_626 rfl ?_
  refine V_bipush (v := 94) rfl dX12_init_627 kb_94 ?_
  refine V_bipush (v := 108) rfl dX12_init_629 kb_108 ?_
  refine V_iastK (k := 94) rfl dX12_init_631 hf58 (by decide +kernel) (by decide +kernel) ?_
  have hw249 : ie_wf (SNX12_15 S o) (MNX12_95 S M o) := wf_ms hw247 hf58 (Or.inl (by decide))
  have hz250 : ie_zr (SNX12_15 S o) (MNX12_95 S M o) := zr_ms hz248 ((List.getElem?_eq_some_iff.mp hf58).1)
  show V _ _ _ _ _ _ _ _ _ _ (SNX12_15 S o) (MNX12_95 S M o) _ _
  refine V_dup rfl dX12_init_632 rfl ?_
  refine V_bipush (v := 95) rfl dX12_init_633 kb_95 ?_
  refine V_bipush (v := 107) rfl dX12_init_635 kb_107 ?_
  refine V_iastK (k := 95) rfl dX12_init_637 hf58 (by decide +kernel) (by decide +kernel) ?_
  have hw251 : ie_wf (SNX12_15 S o) (MNX12_96 S M o) := wf_ms hw249 hf58 (Or.inl (by decide))
  have hz252 : ie_zr (SNX12_15 S o) (MNX12_96 S M o) := zr_ms hz250 ((List.getElem?_eq_some_iff.mp hf58).1)
  show V _ _ _ _ _ _ _ _ _ _ (SNX12_15 S o) (MNX12_96 S M o) _ _
  refine V_dup rfl dX12_init_638 rfl ?_
  refine V_bipush (v := 96) rfl dX12_init_639 kb_96 ?_
  refine V_bipush (v := 101) rfl dX12_init_641 kb_101 ?_
  refine V_iastK (k := 96) rfl dX12_init_643 hf58 (by decide +kernel) (by decide +kernel) ?_
  have hw253 : ie_wf (SNX12_15 S o) (MNX12_97 S M o) := wf_ms hw251 hf58 (Or.inl (by decide))
  have hz254 : ie_zr (SNX12_15 S o) (MNX12_97 S M o) := zr_ms hz252 ((List.getElem?_eq_some_iff.mp hf58).1)
  show V _ _ _ _ _ _ _ _ _ _ (SNX12_15 S o) (MNX12_97 S M o) _ _
  refine V_dup rfl dX12_init_644 rfl ?_
  refine V_bipush (v := 97) rfl dX12_init_645 kb_97 ?_
  refine V_bipush (v := 114) rfl dX12_init_647 kb_114 ?_
  refine V_iastK (k := 97) rfl dX12_init_649 hf58 (by decide +kernel) (by decide +kernel) ?_
  have hw255 : ie_wf (SNX12_15 S o) (MNX12_98 S M o) := wf_ms hw253 hf58 (Or.inl (by decide))
  have hz256 : ie_zr (SNX12_15 S o) (MNX12_98 S M o) := zr_ms hz254 ((List.getElem?_eq_some_iff.mp hf58).1)
  show V _ _ _ _ _ _ _ _ _ _ (SNX12_15 S o) (MNX12_98 S M o) _ _
  refine V_dup rfl dX12_init_650 rfl ?_
  refine V_bipush (v := 98) rfl dX12_init_651 kb_98 ?_
  refine V_bipush (v := 32) rfl dX12_init_653 kb_32 ?_
  refine V_iastK (k := 98) rfl dX12_init_655 hf58 (by decide +kernel) (by decide +kernel) ?_
  have hw257 : ie_wf (SNX12_15 S o) (MNX12_99 S M o) := wf_ms hw255 hf58 (Or.inl (by decide))
  have hz258 : ie_zr (SNX12_15 S o) (MNX12_99 S M o) := zr_ms hz256 ((List.getElem?_eq_some_iff.mp hf58).1)
  show V _ _ _ _ _ _ _ _ _ _ (SNX12_15 S o) (MNX12_99 S M o) _ _
  refine V_dup rfl dX12_init_656 rfl ?_
  refine V_bipush (v := 99) rfl dX12_init_657 kb_99 ?_
  refine V_bipush (v := 102) rfl dX12_init_659 kb_102 ?_
  refine V_iastK (k := 99) rfl dX12_init_661 hf58 (by decide +kernel) (by decide +kernel) ?_
  have hw259 : ie_wf (SNX12_15 S o) (MNX12_100 S M o) := wf_ms hw257 hf58 (Or.inl (by decide))
  have hz260 : ie_zr (SNX12_15 S o) (MNX12_100 S M o) := zr_ms hz258 ((List.getElem?_eq_some_iff.mp hf58).1)
  show V _ _ _ _ _ _ _ _ _ _ (SNX12_15 S o) (MNX12_100 S M o) _ _
  refine V_dup rfl dX12_init_662 rfl ?_
  refine V_bipush (v := 100) rfl dX12_init_663 kb_100 ?_
  refine V_bipush (v := 114) rfl dX12_init_665 kb_114 ?_
  refine V_iastK (k := 100) rfl dX12_init_667 hf58 (by decide +kernel) (by decide +kernel) ?_
  have hw261 : ie_wf (SNX12_15 S o) (MNX12_101 S M o) := wf_ms hw259 hf58 (Or.inl (by decide))
  have hz262 : ie_zr (SNX12_15 S o) (MNX12_101 S M o) := zr_ms hz260 ((List.getElem?_eq_some_iff.mp hf58).1)
  show V _ _ _ _ _ _ _ _ _ _ (SNX12_15 S o) (MNX12_101 S M o) _ _
  refine V_dup rfl dX12_init_668 rfl ?_
  refine V_bipush (v := 101) rfl dX12_init_669 kb_101 ?_
  refine V_bipush (v := 111) rfl dX12_init_671 kb_111 ?_
  refine V_iastK (k := 101) rfl dX12_init_673 hf58 (by decide +kernel) (by decide +kernel) ?_
  have hw263 : ie_wf (SNX12_15 S o) (MNX12_102 S M o) := wf_ms hw261 hf58 (Or.inl (by decide))
  have hz264 : ie_zr (SNX12_15 S o) (MNX12_102 S M o) := zr_ms hz262 ((List.getElem?_eq_some_iff.mp hf58).1)
  show V _ _ _ _ _ _ _ _ _ _ (SNX12_15 S o) (MNX12_102 S M o) _ _
  refine V_dup rfl dX12_init_674 rfl ?_
  refine V_bipush (v := 102) rfl dX12_init_675 kb_102 ?_
  refine V_bipush (v := 109) rfl dX12_init_677 kb_109 ?_
  refine V_iastK (k := 102) rfl dX12_init_679 hf58 (by decide +kernel) (by decide +kernel) ?_
  have hw265 : ie_wf (SNX12_15 S o) (MNX12_103 S M o) := wf_ms hw263 hf58 (Or.inl (by decide))
  have hz266 : ie_zr (SNX12_15 S o) (MNX12_103 S M o) := zr_ms hz264 ((List.getElem?_eq_some_iff.mp hf58).1)
  show V _ _ _ _ _ _ _ _ _ _ (SNX12_15 S o) (MNX12_103 S M o) _ _
  refine V_dup rfl dX12_init_680 rfl ?_
  refine V_bipush (v := 103) rfl dX12_init_681 kb_103 ?_
  refine V_bipush (v := 32) rfl dX12_init_683 kb_32 ?_
  refine V_iastK (k := 103) rfl dX12_init_685 hf58 (by decide +kernel) (by decide +kernel) ?_
  have hw267 : ie_wf (SNX12_15 S o) (MNX12_104 S M o) := wf_ms hw265 hf58 (Or.inl (by decide))
  have hz268 : ie_zr (SNX12_15 S o) (MNX12_104 S M o) := zr_ms hz266 ((List.getElem?_eq_some_iff.mp hf58).1)
  show V _ _ _ _ _ _ _ _ _ _ (SNX12_15 S o) (MNX12_104 S M o) _ _
  refine V_putr (k0 := 19) (ty := (.array .int)) (r := (SNX12_14 S o).length) rfl dX12_init_686 hf57 icX12 tyX12_ok nmX12 (by decide) (Nat.le_of_ble_eq_true rfl) w_1208 rfl rfl rfl (tyX12_ok _ (by decide)) rfl rfl ?_
  have hf269 : (SNX12_16 S o)[o]? = some (14, 53, [none, some (some S.length), some (some (SNX12_2 S o).length), none, some (some (SNX12_4 S o).length), none, none, some (some (SNX12_6 S o).length), none, none, none, some (some (SNX12_8 S o).length), some (some (SNX12_10 S o).length), some (some (SNX12_12 S o).length), none, none, none, none, none, some (some (SNX12_14 S o).length), some none, some none, some none, some none, some none, some none, some none, none, none, none, some none, none, none, none, none, none, none, some none, none, some none, some none, some none, some none, some none, some none, some none, some none, some none, some none, none, none, none, some none]) := st_at hf57
  have hf270 : (SNX12_16 S o)[(SNX12_14 S o).length]? = some (0, 104, []) := st_at' hf58 (Nat.ne_of_lt (List.getElem?_eq_some_iff.mp hf53).1)
  have hw271 : ie_wf (SNX12_16 S o) (MNX12_104 S M o) := by have zz := wf_set (i := 19) (r := (SNX12_14 S o).length) hw267 hf57 ((List.getElem?_eq_some_iff.mp hf58).1); exact zz
  have hz272 : ie_zr (SNX12_16 S o) (MNX12_104 S M o) := zr_set hz268
  show V _ _ _ _ _ _ _ _ _ _ (SNX12_16 S o) (MNX12_104 S M o) _ _
  refine V_aload_n rfl dX12_init_689 rfl rfl ?_
  refine V_iconst (v := 2) rfl dX12_init_690 kc_2 ?_
  refine V_newa (n := 2) (fun a => [some (.ref (a o))]) (fun a => [.ref (a o)]) rfl dX12_init_691 w_245 (by decide +kernel) hw271 hz272 ⟨rfl, rfl⟩ (fun a' h => ⟨by first | rfl | simp only [h _ ((List.getElem?_eq_some_iff.mp hf269).1)], by first | rfl | simp only [h _ ((List.getElem?_eq_some_iff.mp hf269).1)]⟩) (fun a111111111 hg8 => ?_)
  have hf273 : (SNX12_17 S o)[o]? = some (14, 53, [none, some (some S.length), some (some (SNX12_2 S o).length), none, some (some (SNX12_4 S o).length), none, none, some (some (SNX12_6 S o).length), none, none, none, some (some (SNX12_8 S o).length), some (some (SNX12_10 S o).length), some (some (SNX12_12 S o).length), none, none, none, none, none, some (some (SNX12_14 S o).length), some none, some none, some none, some none, some none, some none, some none, none, none, none, some none, none, none, none, none, none, none, some none, none, some none, some none, some none, some none, some none, some none, some none, some none, some none, some none, none, none, none, some none]) := ap_at hf269
  have hf274 : (SNX12_17 S o)[(SNX12_16 S o).length]? = some (0, 2, []) := nw_at
  have hw275 : ie_wf (SNX12_17 S o) (MNX12_104 S M o) := wf_app hw271 (by simp) hz272
  have hz276 : ie_zr (SNX12_17 S o) (MNX12_104 S M o) := zr_app hz272
  show V _ _ _ _ _ _ _ _ _ _ (SNX12_17 S o) (MNX12_104 S M o) _ _
  refine V_putr (k0 := 20) (ty := (.array .int)) (r := (SNX12_16 S o).length) rfl dX12_init_693 hf273 icX12 tyX12_ok nmX12 (by decide) (Nat.le_of_ble_eq_true rfl) w_1209 rfl rfl rfl (tyX12_ok _ (by decide)) rfl rfl ?_
  have hf277 : (SNX12_18 S o)[o]? = some (14, 53, [none, some (some S.length), some (some (SNX12_2 S o).length), none, some (some (SNX12_4 S o).length), none, none, some (some (SNX12_6 S o).length), none, none, none, some (some (SNX12_8 S o).length), some (some (SNX12_10 S o).length), some (some (SNX12_12 S o).length), none, none, none, none, none, some (some (SNX12_14 S o).length), some (some (SNX12_16 S o).length), some none, some none, some none, some none, some none, some none, none, none, none, some none, none, none, none, none, none, none, some none, none, some none, some none, some none, some none, some none, some none, some none, some none, some none, some none, none, none, none, some none]) := st_at hf273
  have hf278 : (SNX12_18 S o)[(SNX12_16 S o).length]? = some (0, 2, []) := st_at' hf274 (Nat.ne_of_lt (List.getElem?_eq_some_iff.mp hf269).1)
  have hw279 : ie_wf (SNX12_18 S o) (MNX12_104 S M o) := by have zz := wf_set (i := 20) (r := (SNX12_16 S o).length) hw275 hf273 ((List.getElem?_eq_some_iff.mp hf274).1); exact zz
  have hz280 : ie_zr (SNX12_18 S o) (MNX12_104 S M o) := zr_set hz276
  show V _ _ _ _ _ _ _ _ _ _ (SNX12_18 S o) (MNX12_104 S M o) _ _
  refine V_aload_n rfl dX12_init_696 rfl rfl ?_
  refine V_bipush (v := 48) rfl dX12_init_697 kb_48 ?_
  refine V_newa (n := 48) (fun a => [some (.ref (a o))]) (fun a => [.ref (a o)]) rfl dX12_init_699 w_245 (by decide +kernel) hw279 hz280 ⟨rfl, rfl⟩ (fun a' h => ⟨by first | rfl | simp only [h _ ((List.getElem?_eq_some_iff.mp hf277).1)], by first | rfl | simp only [h _ ((List.getElem?_eq_some_iff.mp hf277).1)]⟩) (fun a1111111111 hg9 => ?_)
  have hf281 : (SNX12_19 S o)[o]? = some (14, 53, [none, some (some S.length), some (some (SNX12_2 S o).length), none, some (some (SNX12_4 S o).length), none, none, some (some (SNX12_6 S o).length), none, none, none, some (some (SNX12_8 S o).length), some (some (SNX12_10 S o).length), some (some (SNX12_12 S o).length), none, none, none, none, none, some (some (SNX12_14 S o).length), some (some (SNX12_16 S o).length), some none, some none, some none, some none, some none, some none, none, none, none, some none, none, none, none, none, none, none, some none, none, some none, some none, some none, some none, some none, some none, some none, some none, some none, some none, none, none, none, some none]) := ap_at hf277
  have hf282 : (SNX12_19 S o)[(SNX12_18 S o).length]? = some (0, 48, []) := nw_at
  have hw283 : ie_wf (SNX12_19 S o) (MNX12_104 S M o) := wf_app hw279 (by simp) hz280
  have hz284 : ie_zr (SNX12_19 S o) (MNX12_104 S M o) := zr_app hz280
  show V _ _ _ _ _ _ _ _ _ _ (SNX12_19 S o) (MNX12_104 S M o) _ _
  refine V_putr (k0 := 21) (ty := (.array .int)) (r := (SNX12_18 S o).length) rfl dX12_init_701 hf281 icX12 tyX12_ok nmX12 (by decide) (Nat.le_of_ble_eq_true rfl) w_1210 rfl rfl rfl (tyX12_ok _ (by decide)) rfl rfl ?_
  have hf285 : (SNX12_20 S o)[o]? = some (14, 53, [none, some (some S.length), some (some (SNX12_2 S o).length), none, some (some (SNX12_4 S o).length), none, none, some (some (SNX12_6 S o).length), none, none, none, some (some (SNX12_8 S o).length), some (some (SNX12_10 S o).length), some (some (SNX12_12 S o).length), none, none, none, none, none, some (some (SNX12_14 S o).length), some (some (SNX12_16 S o).length), some (some (SNX12_18 S o).length), some none, some none, some none, some none, some none, none, none, none, some none, none, none, none, none, none, none, some none, none, some none, some none, some none, some none, some none, some none, some none, some none, some none, some none, none, none, none, some none]) := st_at hf281
  have hf286 : (SNX12_20 S o)[(SNX12_18 S o).length]? = some (0, 48, []) := st_at' hf282 (Nat.ne_of_lt (List.getElem?_eq_some_iff.mp hf277).1)
  have hw287 : ie_wf (SNX12_20 S o) (MNX12_104 S M o) := by have zz := wf_set (i := 21) (r := (SNX12_18 S o).length) hw283 hf281 ((List.getElem?_eq_some_iff.mp hf282).1); exact zz
  have hz288 : ie_zr (SNX12_20 S o) (MNX12_104 S M o) := zr_set hz284
  show V _ _ _ _ _ _ _ _ _ _ (SNX12_20 S o) (MNX12_104 S M o) _ _
  refine V_aload_n rfl dX12_init_704 rfl rfl ?_
  refine V_bipush (v := 48) rfl dX12_init_705 kb_48 ?_
  refine V_newa (n := 48) (fun a => [some (.ref (a o))]) (fun a => [.ref (a o)]) rfl dX12_init_707 w_245 (by decide +kernel) hw287 hz288 ⟨rfl, rfl⟩ (fun a' h => ⟨by first | rfl | simp only [h _ ((List.getElem?_eq_some_iff.mp hf285).1)], by first | rfl | simp only [h _ ((List.getElem?_eq_some_iff.mp hf285).1)]⟩) (fun a11111111111 hg10 => ?_)
  have hf289 : (SNX12_21 S o)[o]? = some (14, 53, [none, some (some S.length), some (some (SNX12_2 S o).length), none, some (some (SNX12_4 S o).length), none, none, some (some (SNX12_6 S o).length), none, none, none, some (some (SNX12_8 S o).length), some (some (SNX12_10 S o).length), some (some (SNX12_12 S o).length), none, none, none, none, none, some (some (SNX12_14 S o).length), some (some (SNX12_16 S o).length), some (some (SNX12_18 S o).length), some none, some none, some none, some none, some none, none, none, none, some none, none, none, none, none, none, none, some none, none, some none, some none, some none, some none, some none, some none, some none, some none, some none, some none, none, none, none, some none]) := ap_at hf285
  have hf290 : (SNX12_21 S o)[(SNX12_20 S o).length]? = some (0, 48, []) := nw_at
  have hw291 : ie_wf (SNX12_21 S o) (MNX12_104 S M o) := wf_app hw287 (by simp) hz288
  have hz292 : ie_zr (SNX12_21 S o) (MNX12_104 S M o) := zr_app hz288
  show V _ _ _ _ _ _ _ _ _ _ (SNX12_21 S o) (MNX12_104 S M o) _ _
  refine V_putr (k0 := 22) (ty := (.array .int)) (r := (SNX12_20 S o).length) rfl dX12_init_709 hf289 icX12 tyX12_ok nmX12 (by decide) (Nat.le_of_ble_eq_true rfl) w_1211 rfl rfl rfl (tyX12_ok _ (by decide)) rfl rfl ?_
  have hf293 : (SNX12_22 S o)[o]? = some (14, 53, [none, some (some S.length), some (some (SNX12_2 S o).length), none, some (some (SNX12_4 S o).length), none, none, some (some (SNX12_6 S o).length), none, none, none, some (some (SNX12_8 S o).length), some (some (SNX12_10 S o).length), some (some (SNX12_12 S o).length), none, none, none, none, none, some (some (SNX12_14 S o).length), some (some (SNX12_16 S o).length), some (some (SNX12_18 S o).length), some (some (SNX12_20 S o).length), some none, some none, some none, some none, none, none, none, some none, none, none, none, none, none, none, some none, none, some none, some none, some none, some none, some none, some none, some none, some none, some none, some none, none, none, none, some none]) := st_at hf289
  have hf294 : (SNX12_22 S o)[(SNX12_20 S o).length]? = some (0, 48, []) := st_at' hf290 (Nat.ne_of_lt (List.getElem?_eq_some_iff.mp hf285).1)
  have hw295 : ie_wf (SNX12_22 S o) (MNX12_104 S M o) := by have zz := wf_set (i := 22) (r := (SNX12_20 S o).length) hw291 hf289 ((List.getElem?_eq_some_iff.mp hf290).1); exact zz
  have hz296 : ie_zr (SNX12_22 S o) (MNX12_104 S M o) := zr_set hz292
  show V _ _ _ _ _ _ _ _ _ _ (SNX12_22 S o) (MNX12_104 S M o) _ _
  refine V_aload_n rfl dX12_init_712 rfl rfl ?_
  refine V_bipush (v := 48) rfl dX12_init_713 kb_48 ?_
  refine V_newa (n := 48) (fun a => [some (.ref (a o))]) (fun a => [.ref (a o)]) rfl dX12_init_715 w_245 (by decide +kernel) hw295 hz296 ⟨rfl, rfl⟩ (fun a' h => ⟨by first | rfl | simp only [h _ ((List.getElem?_eq_some_iff.mp hf293).1)], by first | rfl | simp only [h _ ((List.getElem?_eq_some_iff.mp hf293).1)]⟩) (fun a111111111111 hg11 => ?_)
  have hf297 : (SNX12_23 S o)[o]? = some (14, 53, [none, some (some S.length), some (some (SNX12_2 S o).length), none, some (some (SNX12_4 S o).length), none, none, some (some (SNX12_6 S o).length), none, none, none, some (some (SNX12_8 S o).length), some (some (SNX12_10 S o).length), some (some (SNX12_12 S o).length), none, none, none, none, none, some (some (SNX12_14 S o).length), some (some (SNX12_16 S o).length), some (some (SNX12_18 S o).length), some (some (SNX12_20 S o).length), some none, some none, some none, some none, none, none, none, some none, none, none, none, none, none, none, some none, none, some none, some none, some none, some none, some none, some none, some none, some none, some none, some none, none, none, none, some none]) := ap_at hf293
  have hf298 : (SNX12_23 S o)[(SNX12_22 S o).length]? = some (0, 48, []) := nw_at
  have hw299 : ie_wf (SNX12_23 S o) (MNX12_104 S M o) := wf_app hw295 (by simp) hz296
  have hz300 : ie_zr (SNX12_23 S o) (MNX12_104 S M o) := zr_app hz296
  show V _ _ _ _ _ _ _ _ _ _ (SNX12_23 S o) (MNX12_104 S M o) _ _
  refine V_putr (k0 := 23) (ty := (.array .int)) (r := (SNX12_22 S o).length) rfl dX12_init_717 hf297 icX12 tyX12_ok nmX12 (by decide) (Nat.le_of_ble_eq_true rfl) w_1212 rfl rfl rfl (tyX12_ok _ (by decide)) rfl rfl ?_
  have hf301 : (SNX12_24 S o)[o]? = some (14, 53, [none, some (some S.length), some (some (SNX12_2 S o).length), none, some (some (SNX12_4 S o).length), none, none, some (some (SNX12_6 S o).length), none, none, none, some (some (SNX12_8 S o).length), some (some (SNX12_10 S o).length), some (some (SNX12_12 S o).length), none, none, none, none, none, some (some (SNX12_14 S o).length), some (some (SNX12_16 S o).length), some (some (SNX12_18 S o).length), some (some (SNX12_20 S o).length), some (some (SNX12_22 S o).length), some none, some none, some none, none, none, none, some none, none, none, none, none, none, none, some none, none, some none, some none, some none, some none, some none, some none, some none, some none, some none, some none, none, none, none, some none]) := st_at hf297
  have hf302 : (SNX12_24 S o)[(SNX12_22 S o).length]? = some (0, 48, []) := st_at' hf298 (Nat.ne_of_lt (List.getElem?_eq_some_iff.mp hf293).1)
  have hw303 : ie_wf (SNX12_24 S o) (MNX12_104 S M o) := by have zz := wf_set (i := 23) (r := (SNX12_22 S o).length) hw299 hf297 ((List.getElem?_eq_some_iff.mp hf298).1); exact zz
  have hz304 : ie_zr (SNX12_24 S o) (MNX12_104 S M o) := zr_set hz300
  show V _ _ _ _ _ _ _ _ _ _ (SNX12_24 S o) (MNX12_104 S M o) _ _
  refine V_aload_n rfl dX12_init_720 rfl rfl ?_
  refine V_bipush (v := 48) rfl dX12_init_721 kb_48 ?_
  refine V_newa (n := 48) (fun a => [some (.ref (a o))]) (fun a => [.ref (a o)]) rfl dX12_init_723 w_245 (by decide +kernel) hw303 hz304 ⟨rfl, rfl⟩ (fun a' h => ⟨by first | rfl | simp only [h _ ((List.getElem?_eq_some_iff.mp hf301).1)], by first | rfl | simp only [h _ ((List.getElem?_eq_some_iff.mp hf301).1)]⟩) (fun a1111111111111 hg12 => ?_)
  have hf305 : (SNX12_25 S o)[o]? = some (14, 53, [none, some (some S.length), some (some (SNX12_2 S o).length), none, some (some (SNX12_4 S o).length), none, none, some (some (SNX12_6 S o).length), none, none, none, some (some (SNX12_8 S o).length), some (some (SNX12_10 S o).length), some (some (SNX12_12 S o).length), none, none, none, none, none, some (some (SNX12_14 S o).length), some (some (SNX12_16 S o).length), some (some (SNX12_18 S o).length), some (some (SNX12_20 S o).length), some (some (SNX12_22 S o).length), some none, some none, some none, none, none, none, some none, none, none, none, none, none, none, some none, none, some none, some none, some none, some none, some none, some none, some none, some none, some none, some none, none, none, none, some none]) := ap_at hf301
  have hf306 : (SNX12_25 S o)[(SNX12_24 S o).length]? = some (0, 48, []) := nw_at
  have hw307 : ie_wf (SNX12_25 S o) (MNX12_104 S M o) := wf_app hw303 (by simp) hz304
  have hz308 : ie_zr (SNX12_25 S o) (MNX12_104 S M o) := zr_app hz304
  show V _ _ _ _ _ _ _ _ _ _ (SNX12_25 S o) (MNX12_104 S M o) _ _
  refine V_putr (k0 := 24) (ty := (.array .int)) (r := (SNX12_24 S o).length) rfl dX12_init_725 hf305 icX12 tyX12_ok nmX12 (by decide) (Nat.le_of_ble_eq_true rfl) w_1213 rfl rfl rfl (tyX12_ok _ (by decide)) rfl rfl ?_
  have hf309 : (SNX12_26 S o)[o]? = some (14, 53, [none, some (some S.length), some (some (SNX12_2 S o).length), none, some (some (SNX12_4 S o).length), none, none, some (some (SNX12_6 S o).length), none, none, none, some (some (SNX12_8 S o).length), some (some (SNX12_10 S o).length), some (some (SNX12_12 S o).length), none, none, none, none, none, some (some (SNX12_14 S o).length), some (some (SNX12_16 S o).length), some (some (SNX12_18 S o).length), some (some (SNX12_20 S o).length), some (some (SNX12_22 S o).length), some (some (SNX12_24 S o).length), some none, some none, none, none, none, some none, none, none, none, none, none, none, some none, none, some none, some none, some none, some none, some none, some none, some none, some none, some none, some none, none, none, none, some none]) := st_at hf305
  have hf310 : (SNX12_26 S o)[(SNX12_24 S o).length]? = some (0, 48, []) := st_at' hf306 (Nat.ne_of_lt (List.getElem?_eq_some_iff.mp hf301).1)
  have hw311 : ie_wf (SNX12_26 S o) (MNX12_104 S M o) := by have zz := wf_set (i := 24) (r := (SNX12_24 S o).length) hw307 hf305 ((List.getElem?_eq_some_iff.mp hf306).1); exact zz
  have hz312 : ie_zr (SNX12_26 S o) (MNX12_104 S M o) := zr_set hz308
  show V _ _ _ _ _ _ _ _ _ _ (SNX12_26 S o) (MNX12_104 S M o) _ _
  refine V_aload_n rfl dX12_init_728 rfl rfl ?_
  refine V_sipush (v := 1200) rfl dX12_init_729 ks_1200 ?_
  refine V_newa (n := 1200) (fun a => [some (.ref (a o))]) (fun a => [.ref (a o)]) rfl dX12_init_732 w_245 (by decide +kernel) hw311 hz312 ⟨rfl, rfl⟩ (fun a' h => ⟨by first | rfl | simp only [h _ ((List.getElem?_eq_some_iff.mp hf309).1)], by first | rfl | simp only [h _ ((List.getElem?_eq_some_iff.mp hf309).1)]⟩) (fun a11111111111111 hg13 => ?_)
  have hf313 : (SNX12_27 S o)[o]? = some (14, 53, [none, some (some S.length), some (some (SNX12_2 S o).length), none, some (some (SNX12_4 S o).length), none, none, some (some (SNX12_6 S o).length), none, none, none, some (some (SNX12_8 S o).length), some (some (SNX12_10 S o).length), some (some (SNX12_12 S o).length), none, none, none, none, none, some (some (SNX12_14 S o).length), some (some (SNX12_16 S o).length), some (some (SNX12_18 S o).length), some (some (SNX12_20 S o).length), some (some (SNX12_22 S o).length), some (some (SNX12_24 S o).length), some none, some none, none, none, none, some none, none, none, none, none, none, none, some none, none, some none, some none, some none, some none, some none, some none, some none, some none, some none, some none, none, none, none, some none]) := ap_at hf309
  have hf314 : (SNX12_27 S o)[(SNX12_26 S o).length]? = some (0, 1200, []) := nw_at
  have hw315 : ie_wf (SNX12_27 S o) (MNX12_104 S M o) := wf_app hw311 (by simp) hz312
  have hz316 : ie_zr (SNX12_27 S o) (MNX12_104 S M o) := zr_app hz312
  show V _ _ _ _ _ _ _ _ _ _ (SNX12_27 S o) (MNX12_104 S M o) _ _
  refine V_putr (k0 := 25) (ty := (.array .int)) (r := (SNX12_26 S o).length) rfl dX12_init_734 hf313 icX12 tyX12_ok nmX12 (by decide) (Nat.le_of_ble_eq_true rfl) w_1214 rfl rfl rfl (tyX12_ok _ (by decide)) rfl rfl ?_
  have hf317 : (SNX12_28 S o)[o]? = some (14, 53, [none, some (some S.length), some (some (SNX12_2 S o).length), none, some (some (SNX12_4 S o).length), none, none, some (some (SNX12_6 S o).length), none, none, none, some (some (SNX12_8 S o).length), some (some (SNX12_10 S o).length), some (some (SNX12_12 S o).length), none, none, none, none, none, some (some (SNX12_14 S o).length), some (some (SNX12_16 S o).length), some (some (SNX12_18 S o).length), some (some (SNX12_20 S o).length), some (some (SNX12_22 S o).length), some (some (SNX12_24 S o).length), some (some (SNX12_26 S o).length), some none, none, none, none, some none, none, none, none, none, none, none, some none, none, some none, some none, some none, some none, some none, some none, some none, some none, some none, some none, none, none, none, some none]) := st_at hf313
  have hf318 : (SNX12_28 S o)[(SNX12_26 S o).length]? = some (0, 1200, []) := st_at' hf314 (Nat.ne_of_lt (List.getElem?_eq_some_iff.mp hf309).1)
  have hw319 : ie_wf (SNX12_28 S o) (MNX12_104 S M o) := by have zz := wf_set (i := 25) (r := (SNX12_26 S o).length) hw315 hf313 ((List.getElem?_eq_some_iff.mp hf314).1); exact zz
  have hz320 : ie_zr (SNX12_28 S o) (MNX12_104 S M o) := zr_set hz316
  show V _ _ _ _ _ _ _ _ _ _ (SNX12_28 S o) (MNX12_104 S M o) _ _
  refine V_aload_n rfl dX12_init_737 rfl rfl ?_
  refine V_sipush (v := 1200) rfl dX12_init_738 ks_1200 ?_
  refine V_newa (n := 1200) (fun a => [some (.ref (a o))]) (fun a => [.ref (a o)]) rfl dX12_init_741 w_245 (by decide +kernel) hw319 hz320 ⟨rfl, rfl⟩ (fun a' h => ⟨by first | rfl | simp only [h _ ((List.getElem?_eq_some_iff.mp hf317).1)], by first | rfl | simp only [h _ ((List.getElem?_eq_some_iff.mp hf317).1)]⟩) (fun a111111111111111 hg14 => ?_)
  have hf321 : (SNX12_29 S o)[o]? = some (14, 53, [none, some (some S.length), some (some (SNX12_2 S o).length), none, some (some (SNX12_4 S o).length), none, none, some (some (SNX12_6 S o).length), none, none, none, some (some (SNX12_8 S o).length), some (some (SNX12_10 S o).length), some (some (SNX12_12 S o).length), none, none, none, none, none, some (some (SNX12_14 S o).length), some (some (SNX12_16 S o).length), some (some (SNX12_18 S o).length), some (some (SNX12_20 S o).length), some (some (SNX12_22 S o).length), some (some (SNX12_24 S o).length), some (some (SNX12_26 S o).length), some none, none, none, none, some none, none, none, none, none, none, none, some none, none, some none, some none, some none, some none, some none, some none, some none, some none, some none, some none, none, none, none, some none]) := ap_at hf317
  have hf322 : (SNX12_29 S o)[(SNX12_28 S o).length]? = some (0, 1200, []) := nw_at
  have hw323 : ie_wf (SNX12_29 S o) (MNX12_104 S M o) := wf_app hw319 (by simp) hz320
  have hz324 : ie_zr (SNX12_29 S o) (MNX12_104 S M o) := zr_app hz320
  show V _ _ _ _ _ _ _ _ _ _ (SNX12_29 S o) (MNX12_104 S M o) _ _
  refine V_putr (k0 := 26) (ty := (.array .int)) (r := (SNX12_28 S o).length) rfl dX12_init_743 hf321 icX12 tyX12_ok nmX12 (by decide) (Nat.le_of_ble_eq_true rfl) w_1215 rfl rfl rfl (tyX12_ok _ (by decide)) rfl rfl ?_
  have hf325 : (SNX12_30 S o)[o]? = some (14, 53, [none, some (some S.length), some (some (SNX12_2 S o).length), none, some (some (SNX12_4 S o).length), none, none, some (some (SNX12_6 S o).length), none, none, none, some (some (SNX12_8 S o).length), some (some (SNX12_10 S o).length), some (some (SNX12_12 S o).length), none, none, none, none, none, some (some (SNX12_14 S o).length), some (some (SNX12_16 S o).length), some (some (SNX12_18 S o).length), some (some (SNX12_20 S o).length), some (some (SNX12_22 S o).length), some (some (SNX12_24 S o).length), some (some (SNX12_26 S o).length), some (some (SNX12_28 S o).length), none, none, none, some none, none, none, none, none, none, none, some none, none, some none, some none, some none, some none, some none, some none, some none, some none, some none, some none, none, none, none, some none]) := st_at hf321
  have hf326 : (SNX12_30 S o)[(SNX12_28 S o).length]? = some (0, 1200, []) := st_at' hf322 (Nat.ne_of_lt (List.getElem?_eq_some_iff.mp hf317).1)
  have hw327 : ie_wf (SNX12_30 S o) (MNX12_104 S M o) := by have zz := wf_set (i := 26) (r := (SNX12_28 S o).length) hw323 hf321 ((List.getElem?_eq_some_iff.mp hf322).1); exact zz
  have hz328 : ie_zr (SNX12_30 S o) (MNX12_104 S M o) := zr_set hz324
  show V _ _ _ _ _ _ _ _ _ _ (SNX12_30 S o) (MNX12_104 S M o) _ _
  refine V_aload_n rfl dX12_init_746 rfl rfl ?_
  refine V_bipush (v := 40) rfl dX12_init_747 kb_40 ?_
  refine V_newa (n := 40) (fun a => [some (.ref (a o))]) (fun a => [.ref (a o)]) rfl dX12_init_749 w_245 (by decide +kernel) hw327 hz328 ⟨rfl, rfl⟩ (fun a' h => ⟨by first | rfl | simp only [h _ ((List.getElem?_eq_some_iff.mp hf325).1)], by first | rfl | simp only [h _ ((List.getElem?_eq_some_iff.mp hf325).1)]⟩) (fun a1111111111111111 hg15 => ?_)
  have hf329 : (SNX12_31 S o)[o]? = some (14, 53, [none, some (some S.length), some (some (SNX12_2 S o).length), none, some (some (SNX12_4 S o).length), none, none, some (some (SNX12_6 S o).length), none, none, none, some (some (SNX12_8 S o).length), some (some (SNX12_10 S o).length), some (some (SNX12_12 S o).length), none, none, none, none, none, some (some (SNX12_14 S o).length), some (some (SNX12_16 S o).length), some (some (SNX12_18 S o).length), some (some (SNX12_20 S o).length), some (some (SNX12_22 S o).length), some (some (SNX12_24 S o).length), some (some (SNX12_26 S o).length), some (some (SNX12_28 S o).length), none, none, none, some none, none, none, none, none, none, none, some none, none, some none, some none, some none, some none, some none, some none, some none, some none, some none, some none, none, none, none, some none]) := ap_at hf325
  have hf330 : (SNX12_31 S o)[(SNX12_30 S o).length]? = some (0, 40, []) := nw_at
  have hw331 : ie_wf (SNX12_31 S o) (MNX12_104 S M o) := wf_app hw327 (by simp) hz328
  have hz332 : ie_zr (SNX12_31 S o) (MNX12_104 S M o) := zr_app hz328
  show V _ _ _ _ _ _ _ _ _ _ (SNX12_31 S o) (MNX12_104 S M o) _ _
  refine V_putr (k0 := 30) (ty := (.array .int)) (r := (SNX12_30 S o).length) rfl dX12_init_751 hf329 icX12 tyX12_ok nmX12 (by decide) (Nat.le_of_ble_eq_true rfl) w_1219 rfl rfl rfl (tyX12_ok _ (by decide)) rfl rfl ?_
  have hf333 : (SNX12_32 S o)[o]? = some (14, 53, [none, some (some S.length), some (some (SNX12_2 S o).length), none, some (some (SNX12_4 S o).length), none, none, some (some (SNX12_6 S o).length), none, none, none, some (some (SNX12_8 S o).length), some (some (SNX12_10 S o).length), some (some (SNX12_12 S o).length), none, none, none, none, none, some (some (SNX12_14 S o).length), some (some (SNX12_16 S o).length), some (some (SNX12_18 S o).length), some (some (SNX12_20 S o).length), some (some (SNX12_22 S o).length), some (some (SNX12_24 S o).length), some (some (SNX12_26 S o).length), some (some (SNX12_28 S o).length), none, none, none, some (some (SNX12_30 S o).length), none, none, none, none, none, none, some none, none, some none, some none, some none, some none, some none, some none, some none, some none, some none, some none, none, none, none, some none]) := st_at hf329
  have hf334 : (SNX12_32 S o)[(SNX12_30 S o).length]? = some (0, 40, []) := st_at' hf330 (Nat.ne_of_lt (List.getElem?_eq_some_iff.mp hf325).1)
  have hw335 : ie_wf (SNX12_32 S o) (MNX12_104 S M o) := by have zz := wf_set (i := 30) (r := (SNX12_30 S o).length) hw331 hf329 ((List.getElem?_eq_some_iff.mp hf330).1); exact zz
  have hz336 : ie_zr (SNX12_32 S o) (MNX12_104 S M o) := zr_set hz332
  show V _ _ _ _ _ _ _ _ _ _ (SNX12_32 S o) (MNX12_104 S M o) _ _
  refine V_aload_n rfl dX12_init_754 rfl rfl ?_
  refine V_iconst (v := (-1)) rfl dX12_init_755 kc_m1 ?_
  refine V_putf (k0 := 35) (ty := .int) rfl dX12_init_756 hf333 icX12 tyX12_ok nmX12 (by decide) rfl w_1224 rfl (tyX12_ok _ (by decide)) rfl rfl ?_
  have hw337 : ie_wf (SNX12_32 S o) (MNX12_105 S M o) := wf_ms hw335 hf333 (Or.inl (by decide))
  have hz338 : ie_zr (SNX12_32 S o) (MNX12_105 S M o) := zr_ms hz336 ((List.getElem?_eq_some_iff.mp hf333).1)
  show V _ _ _ _ _ _ _ _ _ _ (SNX12_32 S o) (MNX12_105 S M o) _ _
  refine V_aload_n rfl dX12_init_759 rfl rfl ?_
  refine V_bipush (v := 64) rfl dX12_init_760 kb_64 ?_
  refine V_newa (n := 64) (fun a => [some (.ref (a o))]) (fun a => [.ref (a o)]) rfl dX12_init_762 w_245 (by decide +kernel) hw337 hz338 ⟨rfl, rfl⟩ (fun a' h => ⟨by first | rfl | simp only [h _ ((List.getElem?_eq_some_iff.mp hf333).1)], by first | rfl | simp only [h _ ((List.getElem?_eq_some_iff.mp hf333).1)]⟩) (fun a11111111111111111 hg16 => ?_)
  have hf339 : (SNX12_33 S o)[o]? = some (14, 53, [none, some (some S.length), some (some (SNX12_2 S o).length), none, some (some (SNX12_4 S o).length), none, none, some (some (SNX12_6 S o).length), none, none, none, some (some (SNX12_8 S o).length), some (some (SNX12_10 S o).length), some (some (SNX12_12 S o).length), none, none, none, none, none, some (some (SNX12_14 S o).length), some (some (SNX12_16 S o).length), some (some (SNX12_18 S o).length), some (some (SNX12_20 S o).length), some (some (SNX12_22 S o).length), some (some (SNX12_24 S o).length), some (some (SNX12_26 S o).length), some (some (SNX12_28 S o).length), none, none, none, some (some (SNX12_30 S o).length), none, none, none, none, none, none, some none, none, some none, some none, some none, some none, some none, some none, some none, some none, some none, some none, none, none, none, some none]) := ap_at hf333
  have hf340 : (SNX12_33 S o)[(SNX12_32 S o).length]? = some (0, 64, []) := nw_at
  have hw341 : ie_wf (SNX12_33 S o) (MNX12_105 S M o) := wf_app hw337 (by simp) hz338
  have hz342 : ie_zr (SNX12_33 S o) (MNX12_105 S M o) := zr_app hz338
  show V _ _ _ _ _ _ _ _ _ _ (SNX12_33 S o) (MNX12_105 S M o) _ _
  refine V_putr (k0 := 37) (ty := (.array .int)) (r := (SNX12_32 S o).length) rfl dX12_init_764 hf339 icX12 tyX12_ok nmX12 (by decide) (Nat.le_of_ble_eq_true rfl) w_1226 rfl rfl rfl (tyX12_ok _ (by decide)) rfl rfl ?_
  have hf343 : (SNX12_34 S o)[o]? = some (14, 53, [none, some (some S.length), some (some (SNX12_2 S o).length), none, some (some (SNX12_4 S o).length), none, none, some (some (SNX12_6 S o).length), none, none, none, some (some (SNX12_8 S o).length), some (some (SNX12_10 S o).length), some (some (SNX12_12 S o).length), none, none, none, none, none, some (some (SNX12_14 S o).length), some (some (SNX12_16 S o).length), some (some (SNX12_18 S o).length), some (some (SNX12_20 S o).length), some (some (SNX12_22 S o).length), some (some (SNX12_24 S o).length), some (some (SNX12_26 S o).length), some (some (SNX12_28 S o).length), none, none, none, some (some (SNX12_30 S o).length), none, none, none, none, none, none, some (some (SNX12_32 S o).length), none, some none, some none, some none, some none, some none, some none, some none, some none, some none, some none, none, none, none, some none]) := st_at hf339
  have hf344 : (SNX12_34 S o)[(SNX12_32 S o).length]? = some (0, 64, []) := st_at' hf340 (Nat.ne_of_lt (List.getElem?_eq_some_iff.mp hf333).1)
  have hw345 : ie_wf (SNX12_34 S o) (MNX12_105 S M o) := by have zz := wf_set (i := 37) (r := (SNX12_32 S o).length) hw341 hf339 ((List.getElem?_eq_some_iff.mp hf340).1); exact zz
  have hz346 : ie_zr (SNX12_34 S o) (MNX12_105 S M o) := zr_set hz342
  show V _ _ _ _ _ _ _ _ _ _ (SNX12_34 S o) (MNX12_105 S M o) _ _
  refine V_aload_n rfl dX12_init_767 rfl rfl ?_
  refine V_bipush (v := 96) rfl dX12_init_768 kb_96 ?_
  refine V_newa (n := 96) (fun a => [some (.ref (a o))]) (fun a => [.ref (a o)]) rfl dX12_init_770 w_245 (by decide +kernel) hw345 hz346 ⟨rfl, rfl⟩ (fun a' h => ⟨by first | rfl | simp only [h _ ((List.getElem?_eq_some_iff.mp hf343).1)], by first | rfl | simp only [h _ ((List.getElem?_eq_some_iff.mp hf343).1)]⟩) (fun a111111111111111111 hg17 => ?_)
  have hf347 : (SNX12_35 S o)[o]? = some (14, 53, [none, some (some S.length), some (some (SNX12_2 S o).length), none, some (some (SNX12_4 S o).length), none, none, some (some (SNX12_6 S o).length), none, none, none, some (some (SNX12_8 S o).length), some (some (SNX12_10 S o).length), some (some (SNX12_12 S o).length), none, none, none, none, none, some (some (SNX12_14 S o).length), some (some (SNX12_16 S o).length), some (some (SNX12_18 S o).length), some (some (SNX12_20 S o).length), some (some (SNX12_22 S o).length), some (some (SNX12_24 S o).length), some (some (SNX12_26 S o).length), some (some (SNX12_28 S o).length), none, none, none, some (some (SNX12_30 S o).length), none, none, none, none, none, none, some (some (SNX12_32 S o).length), none, some none, some none, some none, some none, some none, some none, some none, some none, some none, some none, none, none, none, some none]) := ap_at hf343
  have hf348 : (SNX12_35 S o)[(SNX12_34 S o).length]? = some (0, 96, []) := nw_at
  have hw349 : ie_wf (SNX12_35 S o) (MNX12_105 S M o) := wf_app hw345 (by simp) hz346
  have hz350 : ie_zr (SNX12_35 S o) (MNX12_105 S M o) := zr_app hz346
  show V _ _ _ _ _ _ _ _ _ _ (SNX12_35 S o) (MNX12_105 S M o) _ _
  refine V_putr (k0 := 39) (ty := (.array .int)) (r := (SNX12_34 S o).length) rfl dX12_init_772 hf347 icX12 tyX12_ok nmX12 (by decide) (Nat.le_of_ble_eq_true rfl) w_1228 rfl rfl rfl (tyX12_ok _ (by decide)) rfl rfl ?_
  have hf351 : (SNX12_36 S o)[o]? = some (14, 53, [none, some (some S.length), some (some (SNX12_2 S o).length), none, some (some (SNX12_4 S o).length), none, none, some (some (SNX12_6 S o).length), none, none, none, some (some (SNX12_8 S o).length), some (some (SNX12_10 S o).length), some (some (SNX12_12 S o).length), none, none, none, none, none, some (some (SNX12_14 S o).length), some (some (SNX12_16 S o).length), some (some (SNX12_18 S o).length), some (some (SNX12_20 S o).length), some (some (SNX12_22 S o).length), some (some (SNX12_24 S o).length), some (some (SNX12_26 S o).length), some (some (SNX12_28 S o).length), none, none, none, some (some (SNX12_30 S o).length), none, none, none, none, none, none, some (some (SNX12_32 S o).length), none, some (some (SNX12_34 S o).length), some none, some none, some none, some none, some none, some none, some none, some none, some none, none, none, none, some none]) := st_at hf347
  have hf352 : (SNX12_36 S o)[(SNX12_34 S o).length]? = some (0, 96, []) := st_at' hf348 (Nat.ne_of_lt (List.getElem?_eq_some_iff.mp hf343).1)
  have hw353 : ie_wf (SNX12_36 S o) (MNX12_105 S M o) := by have zz := wf_set (i := 39) (r := (SNX12_34 S o).length) hw349 hf347 ((List.getElem?_eq_some_iff.mp hf348).1); exact zz
  have hz354 : ie_zr (SNX12_36 S o) (MNX12_105 S M o) := zr_set hz350
  show V _ _ _ _ _ _ _ _ _ _ (SNX12_36 S o) (MNX12_105 S M o) _ _
  refine V_aload_n rfl dX12_init_775 rfl rfl ?_
  refine V_bipush (v := 9) rfl dX12_init_776 kb_9 ?_
  refine V_newa (n := 9) (fun a => [some (.ref (a o))]) (fun a => [.ref (a o)]) rfl dX12_init_778 w_245 (by decide +kernel) hw353 hz354 ⟨rfl, rfl⟩ (fun a' h => ⟨by first | rfl | simp only [h _ ((List.getElem?_eq_some_iff.mp hf351).1)], by first | rfl | simp only [h _ ((List.getElem?_eq_some_iff.mp hf351).1)]⟩) (fun a1111111111111111111 hg18 => ?_)
  have hf355 : (SNX12_37 S o)[o]? = some (14, 53, [none, some (some S.length), some (some (SNX12_2 S o).length), none, some (some (SNX12_4 S o).length), none, none, some (some (SNX12_6 S o).length), none, none, none, some (some (SNX12_8 S o).length), some (some (SNX12_10 S o).length), some (some (SNX12_12 S o).length), none, none, none, none, none, some (some (SNX12_14 S o).length), some (some (SNX12_16 S o).length), some (some (SNX12_18 S o).length), some (some (SNX12_20 S o).length), some (some (SNX12_22 S o).length), some (some (SNX12_24 S o).length), some (some (SNX12_26 S o).length), some (some (SNX12_28 S o).length), none, none, none, some (some (SNX12_30 S o).length), none, none, none, none, none, none, some (some (SNX12_32 S o).length), none, some (some (SNX12_34 S o).length), some none, some none, some none, some none, some none, some none, some none, some none, some none, none, none, none, some none]) := ap_at hf351
  have hf356 : (SNX12_37 S o)[(SNX12_36 S o).length]? = some (0, 9, []) := nw_at
  have hw357 : ie_wf (SNX12_37 S o) (MNX12_105 S M o) := wf_app hw353 (by simp) hz354
  have hz358 : ie_zr (SNX12_37 S o) (MNX12_105 S M o) := zr_app hz354
  show V _ _ _ _ _ _ _ _ _ _ (SNX12_37 S o) (MNX12_105 S M o) _ _
  refine V_putr (k0 := 40) (ty := (.array .int)) (r := (SNX12_36 S o).length) rfl dX12_init_780 hf355 icX12 tyX12_ok nmX12 (by decide) (Nat.le_of_ble_eq_true rfl) w_1229 rfl rfl rfl (tyX12_ok _ (by decide)) rfl rfl ?_
  have hf359 : (SNX12_38 S o)[o]? = some (14, 53, [none, some (some S.length), some (some (SNX12_2 S o).length), none, some (some (SNX12_4 S o).length), none, none, some (some (SNX12_6 S o).length), none, none, none, some (some (SNX12_8 S o).length), some (some (SNX12_10 S o).length), some (some (SNX12_12 S o).length), none, none, none, none, none, some (some (SNX12_14 S o).length), some (some (SNX12_16 S o).length), some (some (SNX12_18 S o).length), some (some (SNX12_20 S o).length), some (some (SNX12_22 S o).length), some (some (SNX12_24 S o).length), some (some (SNX12_26 S o).length), some (some (SNX12_28 S o).length), none, none, none, some (some (SNX12_30 S o).length), none, none, none, none, none, none, some (some (SNX12_32 S o).length), none, some (some (SNX12_34 S o).length), some (some (SNX12_36 S o).length), some none, some none, some none, some none, some none, some none, some none, some none, none, none, none, some none]) := st_at hf355
  have hf360 : (SNX12_38 S o)[(SNX12_36 S o).length]? = some (0, 9, []) := st_at' hf356 (Nat.ne_of_lt (List.getElem?_eq_some_iff.mp hf351).1)
  have hw361 : ie_wf (SNX12_38 S o) (MNX12_105 S M o) := by have zz := wf_set (i := 40) (r := (SNX12_36 S o).length) hw357 hf355 ((List.getElem?_eq_some_iff.mp hf356).1); exact zz
  have hz362 : ie_zr (SNX12_38 S o) (MNX12_105 S M o) := zr_set hz358
  show V _ _ _ _ _ _ _ _ _ _ (SNX12_38 S o) (MNX12_105 S M o) _ _
  refine V_aload_n rfl dX12_init_783 rfl rfl ?_
  refine V_sipush (v := 420) rfl dX12_init_784 ks_420 ?_
  refine V_newa (n := 420) (fun a => [some (.ref (a o))]) (fun a => [.ref (a o)]) rfl dX12_init_787 w_245 (by decide +kernel) hw361 hz362 ⟨rfl, rfl⟩ (fun a' h => ⟨by first | rfl | simp only [h _ ((List.getElem?_eq_some_iff.mp hf359).1)], by first | rfl | simp only [h _ ((List.getElem?_eq_some_iff.mp hf359).1)]⟩) (fun a11111111111111111111 hg19 => ?_)
  have hf363 : (SNX12_39 S o)[o]? = some (14, 53, [none, some (some S.length), some (some (SNX12_2 S o).length), none, some (some (SNX12_4 S o).length), none, none, some (some (SNX12_6 S o).length), none, none, none, some (some (SNX12_8 S o).length), some (some (SNX12_10 S o).length), some (some (SNX12_12 S o).length), none, none, none, none, none, some (some (SNX12_14 S o).length), some (some (SNX12_16 S o).length), some (some (SNX12_18 S o).length), some (some (SNX12_20 S o).length), some (some (SNX12_22 S o).length), some (some (SNX12_24 S o).length), some (some (SNX12_26 S o).length), some (some (SNX12_28 S o).length), none, none, none, some (some (SNX12_30 S o).length), none, none, none, none, none, none, some (some (SNX12_32 S o).length), none, some (some (SNX12_34 S o).length), some (some (SNX12_36 S o).length), some none, some none, some none, some none, some none, some none, some none, some none, none, none, none, some none]) := ap_at hf359
  have hf364 : (SNX12_39 S o)[(SNX12_38 S o).length]? = some (0, 420, []) := nw_at
  have hw365 : ie_wf (SNX12_39 S o) (MNX12_105 S M o) := wf_app hw361 (by simp) hz362
  have hz366 : ie_zr (SNX12_39 S o) (MNX12_105 S M o) := zr_app hz362
  show V _ _ _ _ _ _ _ _ _ _ (SNX12_39 S o) (MNX12_105 S M o) _ _
  refine V_putr (k0 := 41) (ty := (.array .int)) (r := (SNX12_38 S o).length) rfl dX12_init_789 hf363 icX12 tyX12_ok nmX12 (by decide) (Nat.le_of_ble_eq_true rfl) w_1230 rfl rfl rfl (tyX12_ok _ (by decide)) rfl rfl ?_
  have hf367 : (SNX12_40 S o)[o]? = some (14, 53, [none, some (some S.length), some (some (SNX12_2 S o).length), none, some (some (SNX12_4 S o).length), none, none, some (some (SNX12_6 S o).length), none, none, none, some (some (SNX12_8 S o).length), some (some (SNX12_10 S o).length), some (some (SNX12_12 S o).length), none, none, none, none, none, some (some (SNX12_14 S o).length), some (some (SNX12_16 S o).length), some (some (SNX12_18 S o).length), some (some (SNX12_20 S o).length), some (some (SNX12_22 S o).length), some (some (SNX12_24 S o).length), some (some (SNX12_26 S o).length), some (some (SNX12_28 S o).length), none, none, none, some (some (SNX12_30 S o).length), none, none, none, none, none, none, some (some (SNX12_32 S o).length), none, some (some (SNX12_34 S o).length), some (some (SNX12_36 S o).length), some (some (SNX12_38 S o).length), some none, some none, some none, some none, some none, some none, some none, none, none, none, some none]) := st_at hf363
  have hf368 : (SNX12_40 S o)[(SNX12_38 S o).length]? = some (0, 420, []) := st_at' hf364 (Nat.ne_of_lt (List.getElem?_eq_some_iff.mp hf359).1)
  have hw369 : ie_wf (SNX12_40 S o) (MNX12_105 S M o) := by have zz := wf_set (i := 41) (r := (SNX12_38 S o).length) hw365 hf363 ((List.getElem?_eq_some_iff.mp hf364).1); exact zz
  have hz370 : ie_zr (SNX12_40 S o) (MNX12_105 S M o) := zr_set hz366
  show V _ _ _ _ _ _ _ _ _ _ (SNX12_40 S o) (MNX12_105 S M o) _ _
  refine V_aload_n rfl dX12_init_792 rfl rfl ?_
  refine V_bipush (v := 10) rfl dX12_init_793 kb_10 ?_
  refine V_newa (n := 10) (fun a => [some (.ref (a o))]) (fun a => [.ref (a o)]) rfl dX12_init_795 w_245 (by decide +kernel) hw369 hz370 ⟨rfl, rfl⟩ (fun a' h => ⟨by first | rfl | simp only [h _ ((List.getElem?_eq_some_iff.mp hf367).1)], by first | rfl | simp only [h _ ((List.getElem?_eq_some_iff.mp hf367).1)]⟩) (fun a111111111111111111111 hg20 => ?_)
  have hf371 : (SNX12_41 S o)[o]? = some (14, 53, [none, some (some S.length), some (some (SNX12_2 S o).length), none, some (some (SNX12_4 S o).length), none, none, some (some (SNX12_6 S o).length), none, none, none, some (some (SNX12_8 S o).length), some (some (SNX12_10 S o).length), some (some (SNX12_12 S o).length), none, none, none, none, none, some (some (SNX12_14 S o).length), some (some (SNX12_16 S o).length), some (some (SNX12_18 S o).length), some (some (SNX12_20 S o).length), some (some (SNX12_22 S o).length), some (some (SNX12_24 S o).length), some (some (SNX12_26 S o).length), some (some (SNX12_28 S o).length), none, none, none, some (some (SNX12_30 S o).length), none, none, none, none, none, none, some (some (SNX12_32 S o).length), none, some (some (SNX12_34 S o).length), some (some (SNX12_36 S o).length), some (some (SNX12_38 S o).length), some none, some none, some none, some none, some none, some none, some none, none, none, none, some none]) := ap_at hf367
  have hf372 : (SNX12_41 S o)[(SNX12_40 S o).length]? = some (0, 10, []) := nw_at
  have hw373 : ie_wf (SNX12_41 S o) (MNX12_105 S M o) := wf_app hw369 (by simp) hz370
  have hz374 : ie_zr (SNX12_41 S o) (MNX12_105 S M o) := zr_app hz370
  show V _ _ _ _ _ _ _ _ _ _ (SNX12_41 S o) (MNX12_105 S M o) _ _
  refine V_putr (k0 := 42) (ty := (.array .int)) (r := (SNX12_40 S o).length) rfl dX12_init_797 hf371 icX12 tyX12_ok nmX12 (by decide) (Nat.le_of_ble_eq_true rfl) w_1231 rfl rfl rfl (tyX12_ok _ (by decide)) rfl rfl ?_
  have hf375 : (SNX12_42 S o)[o]? = some (14, 53, [none, some (some S.length), some (some (SNX12_2 S o).length), none, some (some (SNX12_4 S o).length), none, none, some (some (SNX12_6 S o).length), none, none, none, some (some (SNX12_8 S o).length), some (some (SNX12_10 S o).length), some (some (SNX12_12 S o).length), none, none, none, none, none, some (some (SNX12_14 S o).length), some (some (SNX12_16 S o).length), some (some (SNX12_18 S o).length), some (some (SNX12_20 S o).length), some (some (SNX12_22 S o).length), some (some (SNX12_24 S o).length), some (some (SNX12_26 S o).length), some (some (SNX12_28 S o).length), none, none, none, some (some (SNX12_30 S o).length), none, none, none, none, none, none, some (some (SNX12_32 S o).length), none, some (some (SNX12_34 S o).length), some (some (SNX12_36 S o).length), some (some (SNX12_38 S o).length), some (some (SNX12_40 S o).length), some none, some none, some none, some none, some none, some none, none, none, none, some none]) := st_at hf371
  have hf376 : (SNX12_42 S o)[(SNX12_40 S o).length]? = some (0, 10, []) := st_at' hf372 (Nat.ne_of_lt (List.getElem?_eq_some_iff.mp hf367).1)
  have hw377 : ie_wf (SNX12_42 S o) (MNX12_105 S M o) := by have zz := wf_set (i := 42) (r := (SNX12_40 S o).length) hw373 hf371 ((List.getElem?_eq_some_iff.mp hf372).1); exact zz
  have hz378 : ie_zr (SNX12_42 S o) (MNX12_105 S M o) := zr_set hz374
  show V _ _ _ _ _ _ _ _ _ _ (SNX12_42 S o) (MNX12_105 S M o) _ _
  refine V_aload_n rfl dX12_init_800 rfl rfl ?_
  refine V_bipush (v := 16) rfl dX12_init_801 kb_16 ?_
  refine V_newa (n := 16) (fun a => [some (.ref (a o))]) (fun a => [.ref (a o)]) rfl dX12_init_803 w_245 (by decide +kernel) hw377 hz378 ⟨rfl, rfl⟩ (fun a' h => ⟨by first | rfl | simp only [h _ ((List.getElem?_eq_some_iff.mp hf375).1)], by first | rfl | simp only [h _ ((List.getElem?_eq_some_iff.mp hf375).1)]⟩) (fun a1111111111111111111111 hg21 => ?_)
  have hf379 : (SNX12_43 S o)[o]? = some (14, 53, [none, some (some S.length), some (some (SNX12_2 S o).length), none, some (some (SNX12_4 S o).length), none, none, some (some (SNX12_6 S o).length), none, none, none, some (some (SNX12_8 S o).length), some (some (SNX12_10 S o).length), some (some (SNX12_12 S o).length), none, none, none, none, none, some (some (SNX12_14 S o).length), some (some (SNX12_16 S o).length), some (some (SNX12_18 S o).length), some (some (SNX12_20 S o).length), some (some (SNX12_22 S o).length), some (some (SNX12_24 S o).length), some (some (SNX12_26 S o).length), some (some (SNX12_28 S o).length), none, none, none, some (some (SNX12_30 S o).length), none, none, none, none, none, none, some (some (SNX12_32 S o).length), none, some (some (SNX12_34 S o).length), some (some (SNX12_36 S o).length), some (some (SNX12_38 S o).length), some (some (SNX12_40 S o).length), some none, some none, some none, some none, some none, some none, none, none, none, some none]) := ap_at hf375
  have hf380 : (SNX12_43 S o)[(SNX12_42 S o).length]? = some (0, 16, []) := nw_at
  have hw381 : ie_wf (SNX12_43 S o) (MNX12_105 S M o) := wf_app hw377 (by simp) hz378
  have hz382 : ie_zr (SNX12_43 S o) (MNX12_105 S M o) := zr_app hz378
  show V _ _ _ _ _ _ _ _ _ _ (SNX12_43 S o) (MNX12_105 S M o) _ _
  refine V_putr (k0 := 43) (ty := (.array .int)) (r := (SNX12_42 S o).length) rfl dX12_init_805 hf379 icX12 tyX12_ok nmX12 (by decide) (Nat.le_of_ble_eq_true rfl) w_1232 rfl rfl rfl (tyX12_ok _ (by decide)) rfl rfl ?_
  have hf383 : (SNX12_44 S o)[o]? = some (14, 53, [none, some (some S.length), some (some (SNX12_2 S o).length), none, some (some (SNX12_4 S o).length), none, none, some (some (SNX12_6 S o).length), none, none, none, some (some (SNX12_8 S o).length), some (some (SNX12_10 S o).length), some (some (SNX12_12 S o).length), none, none, none, none, none, some (some (SNX12_14 S o).length), some (some (SNX12_16 S o).length), some (some (SNX12_18 S o).length), some (some (SNX12_20 S o).length), some (some (SNX12_22 S o).length), some (some (SNX12_24 S o).length), some (some (SNX12_26 S o).length), some (some (SNX12_28 S o).length), none, none, none, some (some (SNX12_30 S o).length), none, none, none, none, none, none, some (some (SNX12_32 S o).length), none, some (some (SNX12_34 S o).length), some (some (SNX12_36 S o).length), some (some (SNX12_38 S o).length), some (some (SNX12_40 S o).length), some (some (SNX12_42 S o).length), some none, some none, some none, some none, some none, none, none, none, some none]) := st_at hf379
  have hf384 : (SNX12_44 S o)[(SNX12_42 S o).length]? = some (0, 16, []) := st_at' hf380 (Nat.ne_of_lt (List.getElem?_eq_some_iff.mp hf375).1)
  have hw385 : ie_wf (SNX12_44 S o) (MNX12_105 S M o) := by have zz := wf_set (i := 43) (r := (SNX12_42 S o).length) hw381 hf379 ((List.getElem?_eq_some_iff.mp hf380).1); exact zz
  have hz386 : ie_zr (SNX12_44 S o) (MNX12_105 S M o) := zr_set hz382
  show V _ _ _ _ _ _ _ _ _ _ (SNX12_44 S o) (MNX12_105 S M o) _ _
  refine V_aload_n rfl dX12_init_808 rfl rfl ?_
  refine V_ldc (v := 161051) rfl dX12_init_809 w_1188 ?_
  refine V_newa (n := 161051) (fun a => [some (.ref (a o))]) (fun a => [.ref (a o)]) rfl dX12_init_811 w_245 (by decide +kernel) hw385 hz386 ⟨rfl, rfl⟩ (fun a' h => ⟨by first | rfl | simp only [h _ ((List.getElem?_eq_some_iff.mp hf383).1)], by first | rfl | simp only [h _ ((List.getElem?_eq_some_iff.mp hf383).1)]⟩) (fun a11111111111111111111111 hg22 => ?_)
  have hf387 : (SNX12_45 S o)[o]? = some (14, 53, [none, some (some S.length), some (some (SNX12_2 S o).length), none, some (some (SNX12_4 S o).length), none, none, some (some (SNX12_6 S o).length), none, none, none, some (some (SNX12_8 S o).length), some (some (SNX12_10 S o).length), some (some (SNX12_12 S o).length), none, none, none, none, none, some (some (SNX12_14 S o).length), some (some (SNX12_16 S o).length), some (some (SNX12_18 S o).length), some (some (SNX12_20 S o).length), some (some (SNX12_22 S o).length), some (some (SNX12_24 S o).length), some (some (SNX12_26 S o).length), some (some (SNX12_28 S o).length), none, none, none, some (some (SNX12_30 S o).length), none, none, none, none, none, none, some (some (SNX12_32 S o).length), none, some (some (SNX12_34 S o).length), some (some (SNX12_36 S o).length), some (some (SNX12_38 S o).length), some (some (SNX12_40 S o).length), some (some (SNX12_42 S o).length), some none, some none, some none, some none, some none, none, none, none, some none]) := ap_at hf383
  have hf388 : (SNX12_45 S o)[(SNX12_44 S o).length]? = some (0, 161051, []) := nw_at
  have hw389 : ie_wf (SNX12_45 S o) (MNX12_105 S M o) := wf_app hw385 (by simp) hz386
  have hz390 : ie_zr (SNX12_45 S o) (MNX12_105 S M o) := zr_app hz386
  show V _ _ _ _ _ _ _ _ _ _ (SNX12_45 S o) (MNX12_105 S M o) _ _
  refine V_putr (k0 := 44) (ty := (.array .int)) (r := (SNX12_44 S o).length) rfl dX12_init_813 hf387 icX12 tyX12_ok nmX12 (by decide) (Nat.le_of_ble_eq_true rfl) w_1233 rfl rfl rfl (tyX12_ok _ (by decide)) rfl rfl ?_
  have hf391 : (SNX12_46 S o)[o]? = some (14, 53, [none, some (some S.length), some (some (SNX12_2 S o).length), none, some (some (SNX12_4 S o).length), none, none, some (some (SNX12_6 S o).length), none, none, none, some (some (SNX12_8 S o).length), some (some (SNX12_10 S o).length), some (some (SNX12_12 S o).length), none, none, none, none, none, some (some (SNX12_14 S o).length), some (some (SNX12_16 S o).length), some (some (SNX12_18 S o).length), some (some (SNX12_20 S o).length), some (some (SNX12_22 S o).length), some (some (SNX12_24 S o).length), some (some (SNX12_26 S o).length), some (some (SNX12_28 S o).length), none, none, none, some (some (SNX12_30 S o).length), none, none, none, none, none, none, some (some (SNX12_32 S o).length), none, some (some (SNX12_34 S o).length), some (some (SNX12_36 S o).length), some (some (SNX12_38 S o).length), some (some (SNX12_40 S o).length), some (some (SNX12_42 S o).length), some (some (SNX12_44 S o).length), some none, some none, some none, some none, none, none, none, some none]) := st_at hf387
  have hf392 : (SNX12_46 S o)[(SNX12_44 S o).length]? = some (0, 161051, []) := st_at' hf388 (Nat.ne_of_lt (List.getElem?_eq_some_iff.mp hf383).1)
  have hw393 : ie_wf (SNX12_46 S o) (MNX12_105 S M o) := by have zz := wf_set (i := 44) (r := (SNX12_44 S o).length) hw389 hf387 ((List.getElem?_eq_some_iff.mp hf388).1); exact zz
  have hz394 : ie_zr (SNX12_46 S o) (MNX12_105 S M o) := zr_set hz390
  show V _ _ _ _ _ _ _ _ _ _ (SNX12_46 S o) (MNX12_105 S M o) _ _
  refine V_aload_n rfl dX12_init_816 rfl rfl ?_
  refine V_bipush (v := 40) rfl dX12_init_817 kb_40 ?_
  refine V_newa (n := 40) (fun a => [some (.ref (a o))]) (fun a => [.ref (a o)]) rfl dX12_init_819 w_245 (by decide +kernel) hw393 hz394 ⟨rfl, rfl⟩ (fun a' h => ⟨by first | rfl | simp only [h _ ((List.getElem?_eq_some_iff.mp hf391).1)], by first | rfl | simp only [h _ ((List.getElem?_eq_some_iff.mp hf391).1)]⟩) (fun a111111111111111111111111 hg23 => ?_)
  have hf395 : (SNX12_47 S o)[o]? = some (14, 53, [none, some (some S.length), some (some (SNX12_2 S o).length), none, some (some (SNX12_4 S o).length), none, none, some (some (SNX12_6 S o).length), none, none, none, some (some (SNX12_8 S o).length), some (some (SNX12_10 S o).length), some (some (SNX12_12 S o).length), none, none, none, none, none, some (some (SNX12_14 S o).length), some (some (SNX12_16 S o).length), some (some (SNX12_18 S o).length), some (some (SNX12_20 S o).length), some (some (SNX12_22 S o).length), some (some (SNX12_24 S o).length), some (some (SNX12_26 S o).length), some (some (SNX12_28 S o).length), none, none, none, some (some (SNX12_30 S o).length), none, none, none, none, none, none, some (some (SNX12_32 S o).length), none, some (some (SNX12_34 S o).length), some (some (SNX12_36 S o).length), some (some (SNX12_38 S o).length), some (some (SNX12_40 S o).length), some (some (SNX12_42 S o).length), some (some (SNX12_44 S o).length), some none, some none, some none, some none, none, none, none, some none]) := ap_at hf391
  have hf396 : (SNX12_47 S o)[(SNX12_46 S o).length]? = some (0, 40, []) := nw_at
  have hw397 : ie_wf (SNX12_47 S o) (MNX12_105 S M o) := wf_app hw393 (by simp) hz394
  have hz398 : ie_zr (SNX12_47 S o) (MNX12_105 S M o) := zr_app hz394
  show V _ _ _ _ _ _ _ _ _ _ (SNX12_47 S o) (MNX12_105 S M o) _ _
  refine V_putr (k0 := 45) (ty := (.array .int)) (r := (SNX12_46 S o).length) rfl dX12_init_821 hf395 icX12 tyX12_ok nmX12 (by decide) (Nat.le_of_ble_eq_true rfl) w_1234 rfl rfl rfl (tyX12_ok _ (by decide)) rfl rfl ?_
  have hf399 : (SNX12_48 S o)[o]? = some (14, 53, [none, some (some S.length), some (some (SNX12_2 S o).length), none, some (some (SNX12_4 S o).length), none, none, some (some (SNX12_6 S o).length), none, none, none, some (some (SNX12_8 S o).length), some (some (SNX12_10 S o).length), some (some (SNX12_12 S o).length), none, none, none, none, none, some (some (SNX12_14 S o).length), some (some (SNX12_16 S o).length), some (some (SNX12_18 S o).length), some (some (SNX12_20 S o).length), some (some (SNX12_22 S o).length), some (some (SNX12_24 S o).length), some (some (SNX12_26 S o).length), some (some (SNX12_28 S o).length), none, none, none, some (some (SNX12_30 S o).length), none, none, none, none, none, none, some (some (SNX12_32 S o).length), none, some (some (SNX12_34 S o).length), some (some (SNX12_36 S o).length), some (some (SNX12_38 S o).length), some (some (SNX12_40 S o).length), some (some (SNX12_42 S o).length), some (some (SNX12_44 S o).length), some (some (SNX12_46 S o).length), some none, some none, some none, none, none, none, some none]) := st_at hf395
  have hf400 : (SNX12_48 S o)[(SNX12_46 S o).length]? = some (0, 40, []) := st_at' hf396 (Nat.ne_of_lt (List.getElem?_eq_some_iff.mp hf391).1)
  have hw401 : ie_wf (SNX12_48 S o) (MNX12_105 S M o) := by have zz := wf_set (i := 45) (r := (SNX12_46 S o).length) hw397 hf395 ((List.getElem?_eq_some_iff.mp hf396).1); exact zz
  have hz402 : ie_zr (SNX12_48 S o) (MNX12_105 S M o) := zr_set hz398
  show V _ _ _ _ _ _ _ _ _ _ (SNX12_48 S o) (MNX12_105 S M o) _ _
  refine V_aload_n rfl dX12_init_824 rfl rfl ?_
  refine V_sipush (v := 2048) rfl dX12_init_825 ks_2048 ?_
  refine V_newa (n := 2048) (fun a => [some (.ref (a o))]) (fun a => [.ref (a o)]) rfl dX12_init_828 w_245 (by decide +kernel) hw401 hz402 ⟨rfl, rfl⟩ (fun a' h => ⟨by first | rfl | simp only [h _ ((List.getElem?_eq_some_iff.mp hf399).1)], by first | rfl | simp only [h _ ((List.getElem?_eq_some_iff.mp hf399).1)]⟩) (fun a1111111111111111111111111 hg24 => ?_)
  have hf403 : (SNX12_49 S o)[o]? = some (14, 53, [none, some (some S.length), some (some (SNX12_2 S o).length), none, some (some (SNX12_4 S o).length), none, none, some (some (SNX12_6 S o).length), none, none, none, some (some (SNX12_8 S o).length), some (some (SNX12_10 S o).length), some (some (SNX12_12 S o).length), none, none, none, none, none, some (some (SNX12_14 S o).length), some (some (SNX12_16 S o).length), some (some (SNX12_18 S o).length), some (some (SNX12_20 S o).length), some (some (SNX12_22 S o).length), some (some (SNX12_24 S o).length), some (some (SNX12_26 S o).length), some (some (SNX12_28 S o).length), none, none, none, some (some (SNX12_30 S o).length), none, none, none, none, none, none, some (some (SNX12_32 S o).length), none, some (some (SNX12_34 S o).length), some (some (SNX12_36 S o).length), some (some (SNX12_38 S o).length), some (some (SNX12_40 S o).length), some (some (SNX12_42 S o).length), some (some (SNX12_44 S o).length), some (some (SNX12_46 S o).length), some none, some none, some none, none, none, none, some none]) := ap_at hf399
  have hf404 : (SNX12_49 S o)[(SNX12_48 S o).length]? = some (0, 2048, []) := nw_at
  have hw405 : ie_wf (SNX12_49 S o) (MNX12_105 S M o) := wf_app hw401 (by simp) hz402
  have hz406 : ie_zr (SNX12_49 S o) (MNX12_105 S M o) := zr_app hz402
  show V _ _ _ _ _ _ _ _ _ _ (SNX12_49 S o) (MNX12_105 S M o) _ _
  refine V_putr (k0 := 46) (ty := (.array .int)) (r := (SNX12_48 S o).length) rfl dX12_init_830 hf403 icX12 tyX12_ok nmX12 (by decide) (Nat.le_of_ble_eq_true rfl) w_1235 rfl rfl rfl (tyX12_ok _ (by decide)) rfl rfl ?_
  have hf407 : (SNX12_50 S o)[o]? = some (14, 53, [none, some (some S.length), some (some (SNX12_2 S o).length), none, some (some (SNX12_4 S o).length), none, none, some (some (SNX12_6 S o).length), none, none, none, some (some (SNX12_8 S o).length), some (some (SNX12_10 S o).length), some (some (SNX12_12 S o).length), none, none, none, none, none, some (some (SNX12_14 S o).length), some (some (SNX12_16 S o).length), some (some (SNX12_18 S o).length), some (some (SNX12_20 S o).length), some (some (SNX12_22 S o).length), some (some (SNX12_24 S o).length), some (some (SNX12_26 S o).length), some (some (SNX12_28 S o).length), none, none, none, some (some (SNX12_30 S o).length), none, none, none, none, none, none, some (some (SNX12_32 S o).length), none, some (some (SNX12_34 S o).length), some (some (SNX12_36 S o).length), some (some (SNX12_38 S o).length), some (some (SNX12_40 S o).length), some (some (SNX12_42 S o).length), some (some (SNX12_44 S o).length), some (some (SNX12_46 S o).length), some (some (SNX12_48 S o).length), some none, some none, none, none, none, some none]) := st_at hf403
  have hf408 : (SNX12_50 S o)[(SNX12_48 S o).length]? = some (0, 2048, []) := st_at' hf404 (Nat.ne_of_lt (List.getElem?_eq_some_iff.mp hf399).1)
  have hw409 : ie_wf (SNX12_50 S o) (MNX12_105 S M o) := by have zz := wf_set (i := 46) (r := (SNX12_48 S o).length) hw405 hf403 ((List.getElem?_eq_some_iff.mp hf404).1); exact zz
  have hz410 : ie_zr (SNX12_50 S o) (MNX12_105 S M o) := zr_set hz406
  show V _ _ _ _ _ _ _ _ _ _ (SNX12_50 S o) (MNX12_105 S M o) _ _
  refine V_aload_n rfl dX12_init_833 rfl rfl ?_
  refine V_bipush (v := 13) rfl dX12_init_834 kb_13 ?_
  refine V_newa (n := 13) (fun a => [some (.ref (a o))]) (fun a => [.ref (a o)]) rfl dX12_init_836 w_245 (by decide +kernel) hw409 hz410 ⟨rfl, rfl⟩ (fun a' h => ⟨by first | rfl | simp only [h _ ((List.getElem?_eq_some_iff.mp hf407).1)], by first | rfl | simp only [h _ ((List.getElem?_eq_some_iff.mp hf407).1)]⟩) (fun a11111111111111111111111111 hg25 => ?_)
  have hf411 : (SNX12_51 S o)[o]? = some (14, 53, [none, some (some S.length), some (some (SNX12_2 S o).length), none, some (some (SNX12_4 S o).length), none, none, some (some (SNX12_6 S o).length), none, none, none, some (some (SNX12_8 S o).length), some (some (SNX12_10 S o).length), some (some (SNX12_12 S o).length), none, none, none, none, none, some (some (SNX12_14 S o).length), some (some (SNX12_16 S o).length), some (some (SNX12_18 S o).length), some (some (SNX12_20 S o).length), some (some (SNX12_22 S o).length), some (some (SNX12_24 S o).length), some (some (SNX12_26 S o).length), some (some (SNX12_28 S o).length), none, none, none, some (some (SNX12_30 S o).length), none, none, none, none, none, none, some (some (SNX12_32 S o).length), none, some (some (SNX12_34 S o).length), some (some (SNX12_36 S o).length), some (some (SNX12_38 S o).length), some (some (SNX12_40 S o).length), some (some (SNX12_42 S o).length), some (some (SNX12_44 S o).length), some (some (SNX12_46 S o).length), some (some (SNX12_48 S o).length), some none, some none, none, none, none, some none]) := ap_at hf407
  have hf412 : (SNX12_51 S o)[(SNX12_50 S o).length]? = some (0, 13, []) := nw_at
  have hw413 : ie_wf (SNX12_51 S o) (MNX12_105 S M o) := wf_app hw409 (by simp) hz410
  have hz414 : ie_zr (SNX12_51 S o) (MNX12_105 S M o) := zr_app hz410
  show V _ _ _ _ _ _ _ _ _ _ (SNX12_51 S o) (MNX12_105 S M o) _ _
  refine V_putr (k0 := 47) (ty := (.array .int)) (r := (SNX12_50 S o).length) rfl dX12_init_838 hf411 icX12 tyX12_ok nmX12 (by decide) (Nat.le_of_ble_eq_true rfl) w_1236 rfl rfl rfl (tyX12_ok _ (by decide)) rfl rfl ?_
  have hf415 : (SNX12_52 S o)[o]? = some (14, 53, [none, some (some S.length), some (some (SNX12_2 S o).length), none, some (some (SNX12_4 S o).length), none, none, some (some (SNX12_6 S o).length), none, none, none, some (some (SNX12_8 S o).length), some (some (SNX12_10 S o).length), some (some (SNX12_12 S o).length), none, none, none, none, none, some (some (SNX12_14 S o).length), some (some (SNX12_16 S o).length), some (some (SNX12_18 S o).length), some (some (SNX12_20 S o).length), some (some (SNX12_22 S o).length), some (some (SNX12_24 S o).length), some (some (SNX12_26 S o).length), some (some (SNX12_28 S o).length), none, none, none, some (some (SNX12_30 S o).length), none, none, none, none, none, none, some (some (SNX12_32 S o).length), none, some (some (SNX12_34 S o).length), some (some (SNX12_36 S o).length), some (some (SNX12_38 S o).length), some (some (SNX12_40 S o).length), some (some (SNX12_42 S o).length), some (some (SNX12_44 S o).length), some (some (SNX12_46 S o).length), some (some (SNX12_48 S o).length), some (some (SNX12_50 S o).length), some none, none, none, none, some none]) := st_at hf411
  have hf416 : (SNX12_52 S o)[(SNX12_50 S o).length]? = some (0, 13, []) := st_at' hf412 (Nat.ne_of_lt (List.getElem?_eq_some_iff.mp hf407).1)
  have hw417 : ie_wf (SNX12_52 S o) (MNX12_105 S M o) := by have zz := wf_set (i := 47) (r := (SNX12_50 S o).length) hw413 hf411 ((List.getElem?_eq_some_iff.mp hf412).1); exact zz
  have hz418 : ie_zr (SNX12_52 S o) (MNX12_105 S M o) := zr_set hz414
  show V _ _ _ _ _ _ _ _ _ _ (SNX12_52 S o) (MNX12_105 S M o) _ _
  refine V_aload_n rfl dX12_init_841 rfl rfl ?_
  refine V_bipush (v := 10) rfl dX12_init_842 kb_10 ?_
  refine V_newa (n := 10) (fun a => [some (.ref (a o))]) (fun a => [.ref (a o)]) rfl dX12_init_844 w_245 (by decide +kernel) hw417 hz418 ⟨rfl, rfl⟩ (fun a' h => ⟨by first | rfl | simp only [h _ ((List.getElem?_eq_some_iff.mp hf415).1)], by first | rfl | simp only [h _ ((List.getElem?_eq_some_iff.mp hf415).1)]⟩) (fun a111111111111111111111111111 hg26 => ?_)
  have hf419 : (SNX12_53 S o)[o]? = some (14, 53, [none, some (some S.length), some (some (SNX12_2 S o).length), none, some (some (SNX12_4 S o).length), none, none, some (some (SNX12_6 S o).length), none, none, none, some (some (SNX12_8 S o).length), some (some (SNX12_10 S o).length), some (some (SNX12_12 S o).length), none, none, none, none, none, some (some (SNX12_14 S o).length), some (some (SNX12_16 S o).length), some (some (SNX12_18 S o).length), some (some (SNX12_20 S o).length), some (some (SNX12_22 S o).length), some (some (SNX12_24 S o).length), some (some (SNX12_26 S o).length), some (some (SNX12_28 S o).length), none, none, none, some (some (SNX12_30 S o).length), none, none, none, none, none, none, some (some (SNX12_32 S o).length), none, some (some (SNX12_34 S o).length), some (some (SNX12_36 S o).length), some (some (SNX12_38 S o).length), some (some (SNX12_40 S o).length), some (some (SNX12_42 S o).length), some (some (SNX12_44 S o).length), some (some (SNX12_46 S o).length), some (some (SNX12_48 S o).length), some (some (SNX12_50 S o).length), some none, none, none, none, some none]) := ap_at hf415
  have hf420 : (SNX12_53 S o)[(SNX12_52 S o).length]? = some (0, 10, []) := nw_at
  have hw421 : ie_wf (SNX12_53 S o) (MNX12_105 S M o) := wf_app hw417 (by simp) hz418
  have hz422 : ie_zr (SNX12_53 S o) (MNX12_105 S M o) := zr_app hz418
  show V _ _ _ _ _ _ _ _ _ _ (SNX12_53 S o) (MNX12_105 S M o) _ _
  refine V_putr (k0 := 48) (ty := (.array .int)) (r := (SNX12_52 S o).length) rfl dX12_init_846 hf419 icX12 tyX12_ok nmX12 (by decide) (Nat.le_of_ble_eq_true rfl) w_1237 rfl rfl rfl (tyX12_ok _ (by decide)) rfl rfl ?_
  have hf423 : (SNX12_54 S o)[o]? = some (14, 53, [none, some (some S.length), some (some (SNX12_2 S o).length), none, some (some (SNX12_4 S o).length), none, none, some (some (SNX12_6 S o).length), none, none, none, some (some (SNX12_8 S o).length), some (some (SNX12_10 S o).length), some (some (SNX12_12 S o).length), none, none, none, none, none, some (some (SNX12_14 S o).length), some (some (SNX12_16 S o).length), some (some (SNX12_18 S o).length), some (some (SNX12_20 S o).length), some (some (SNX12_22 S o).length), some (some (SNX12_24 S o).length), some (some (SNX12_26 S o).length), some (some (SNX12_28 S o).length), none, none, none, some (some (SNX12_30 S o).length), none, none, none, none, none, none, some (some (SNX12_32 S o).length), none, some (some (SNX12_34 S o).length), some (some (SNX12_36 S o).length), some (some (SNX12_38 S o).length), some (some (SNX12_40 S o).length), some (some (SNX12_42 S o).length), some (some (SNX12_44 S o).length), some (some (SNX12_46 S o).length), some (some (SNX12_48 S o).length), some (some (SNX12_50 S o).length), some (some (SNX12_52 S o).length), none, none, none, some none]) := st_at hf419
  have hf424 : (SNX12_54 S o)[(SNX12_52 S o).length]? = some (0, 10, []) := st_at' hf420 (Nat.ne_of_lt (List.getElem?_eq_some_iff.mp hf415).1)
  have hw425 : ie_wf (SNX12_54 S o) (MNX12_105 S M o) := by have zz := wf_set (i := 48) (r := (SNX12_52 S o).length) hw421 hf419 ((List.getElem?_eq_some_iff.mp hf420).1); exact zz
  have hz426 : ie_zr (SNX12_54 S o) (MNX12_105 S M o) := zr_set hz422
  show V _ _ _ _ _ _ _ _ _ _ (SNX12_54 S o) (MNX12_105 S M o) _ _
  refine V_aload_n rfl dX12_init_849 rfl rfl ?_
  refine V_sipush (v := 2500) rfl dX12_init_850 ks_2500 ?_
  refine V_newa (n := 2500) (fun a => [some (.ref (a o))]) (fun a => [.ref (a o)]) rfl dX12_init_853 w_245 (by decide +kernel) hw425 hz426 ⟨rfl, rfl⟩ (fun a' h => ⟨by first | rfl | simp only [h _ ((List.getElem?_eq_some_iff.mp hf423).1)], by first | rfl | simp only [h _ ((List.getElem?_eq_some_iff.mp hf423).1)]⟩) (fun a1111111111111111111111111111 hg27 => ?_)
  have hf427 : (SNX12_55 S o)[o]? = some (14, 53, [none, some (some S.length), some (some (SNX12_2 S o).length), none, some (some (SNX12_4 S o).length), none, none, some (some (SNX12_6 S o).length), none, none, none, some (some (SNX12_8 S o).length), some (some (SNX12_10 S o).length), some (some (SNX12_12 S o).length), none, none, none, none, none, some (some (SNX12_14 S o).length), some (some (SNX12_16 S o).length), some (some (SNX12_18 S o).length), some (some (SNX12_20 S o).length), some (some (SNX12_22 S o).length), some (some (SNX12_24 S o).length), some (some (SNX12_26 S o).length), some (some (SNX12_28 S o).length), none, none, none, some (some (SNX12_30 S o).length), none, none, none, none, none, none, some (some (SNX12_32 S o).length), none, some (some (SNX12_34 S o).length), some (some (SNX12_36 S o).length), some (some (SNX12_38 S o).length), some (some (SNX12_40 S o).length), some (some (SNX12_42 S o).length), some (some (SNX12_44 S o).length), some (some (SNX12_46 S o).length), some (some (SNX12_48 S o).length), some (some (SNX12_50 S o).length), some (some (SNX12_52 S o).length), none, none, none, some none]) := ap_at hf423
  have hf428 : (SNX12_55 S o)[(SNX12_54 S o).length]? = some (0, 2500, []) := nw_at
  have hw429 : ie_wf (SNX12_55 S o) (MNX12_105 S M o) := wf_app hw425 (by simp) hz426
  have hz430 : ie_zr (SNX12_55 S o) (MNX12_105 S M o) := zr_app hz426
  show V _ _ _ _ _ _ _ _ _ _ (SNX12_55 S o) (MNX12_105 S M o) _ _
  refine V_putr (k0 := 52) (ty := (.array .int)) (r := (SNX12_54 S o).length) rfl dX12_init_855 hf427 icX12 tyX12_ok nmX12 (by decide) (Nat.le_of_ble_eq_true rfl) w_1241 rfl rfl rfl (tyX12_ok _ (by decide)) rfl rfl ?_
  have hf431 : (SNX12_56 S o)[o]? = some (14, 53, [none, some (some S.length), some (some (SNX12_2 S o).length), none, some (some (SNX12_4 S o).length), none, none, some (some (SNX12_6 S o).length), none, none, none, some (some (SNX12_8 S o).length), some (some (SNX12_10 S o).length), some (some (SNX12_12 S o).length), none, none, none, none, none, some (some (SNX12_14 S o).length), some (some (SNX12_16 S o).length), some (some (SNX12_18 S o).length), some (some (SNX12_20 S o).length), some (some (SNX12_22 S o).length), some (some (SNX12_24 S o).length), some (some (SNX12_26 S o).length), some (some (SNX12_28 S o).length), none, none, none, some (some (SNX12_30 S o).length), none, none, none, none, none, none, some (some (SNX12_32 S o).length), none, some (some (SNX12_34 S o).length), some (some (SNX12_36 S o).length), some (some (SNX12_38 S o).length), some (some (SNX12_40 S o).length), some (some (SNX12_42 S o).length), some (some (SNX12_44 S o).length), some (some (SNX12_46 S o).length), some (some (SNX12_48 S o).length), some (some (SNX12_50 S o).length), some (some (SNX12_52 S o).length), none, none, none, some (some (SNX12_54 S o).length)]) := st_at hf427
  have hf432 : (SNX12_56 S o)[(SNX12_54 S o).length]? = some (0, 2500, []) := st_at' hf428 (Nat.ne_of_lt (List.getElem?_eq_some_iff.mp hf423).1)
  have hw433 : ie_wf (SNX12_56 S o) (MNX12_105 S M o) := by have zz := wf_set (i := 52) (r := (SNX12_54 S o).length) hw429 hf427 ((List.getElem?_eq_some_iff.mp hf428).1); exact zz
  have hz434 : ie_zr (SNX12_56 S o) (MNX12_105 S M o) := zr_set hz430
  show V _ _ _ _ _ _ _ _ _ _ (SNX12_56 S o) (MNX12_105 S M o) _ _
  exact V_vret dX12_init_858 rfl (by decide) (by decide) ⟨rfl, rfl, rfl, fun p hp => ((hg27 p (lt_len hp len54)).trans ((hg26 p (lt_len hp len52)).trans ((hg25 p (lt_len hp len50)).trans ((hg24 p (lt_len hp len48)).trans ((hg23 p (lt_len hp len46)).trans ((hg22 p (lt_len hp len44)).trans ((hg21 p (lt_len hp len42)).trans ((hg20 p (lt_len hp len40)).trans ((hg19 p (lt_len hp len38)).trans ((hg18 p (lt_len hp len36)).trans ((hg17 p (lt_len hp len34)).trans ((hg16 p (lt_len hp len32)).trans ((hg15 p (lt_len hp len30)).trans ((hg14 p (lt_len hp len28)).trans ((hg13 p (lt_len hp len26)).trans ((hg12 p (lt_len hp len24)).trans ((hg11 p (lt_len hp len22)).trans ((hg10 p (lt_len hp len20)).trans ((hg9 p (lt_len hp len18)).trans ((hg8 p (lt_len hp len16)).trans ((hg7 p (lt_len hp len14)).trans ((hg6 p (lt_len hp len12)).trans ((hg5 p (lt_len hp len10)).trans ((hg4 p (lt_len hp len8)).trans ((hg3 p (lt_len hp len6)).trans ((hg2 p (lt_len hp len4)).trans ((hg1 p (lt_len hp len2)).trans (hg0 p hp))))))))))))))))))))))))))))⟩
