def F_Wd_areNeighbours (x0 : Int32) (x1 : Int32) : Option (Int32) :=
  jn (fun (tJ1 : Int32) => if tJ1 = (1 : Int32) then some (1 : Int32) else if tJ1 = (4 : Int32) then some (1 : Int32) else some (0 : Int32)) (fun J1 => if x0 ≤ x1 then J1 (x1 - x0) else J1 (x0 - x1))
def F_Wd_canBeLast_4 (w : Nat) (x1 : Int32) (x2 : Int32) (σ : GS) (KL1_47 : Int32 → Option (Int32)) : Nat → Int32 → Option (Int32)
  | 0, _ => none
  | n + 1, v3_1 => if (σ.1 w 1) ≤ v3_1 then KL1_47 v3_1 else if ((x2 >>> (v3_1 &&& 31)) &&& (1 : Int32)) = (1 : Int32) then gd (iB x1 64) (gd (iB v3_1 64) (bp (F_Wd_areNeighbours (σ.1 (w + 1) x1.toNatClampNeg) (σ.1 (w + 1) v3_1.toNatClampNeg)) (fun (r5 : Int32) => if r5 = (0 : Int32) then some (0 : Int32) else F_Wd_canBeLast_4 w x1 x2 σ KL1_47 n (v3_1 + 1)))) else F_Wd_canBeLast_4 w x1 x2 σ KL1_47 n (v3_1 + 1)
def F_Wd_canBeLast (w : Nat) (x1 : Int32) (x2 : Int32) (σ : GS) : Option (Int32) :=
  jn (fun (v3_1 : Int32) => some (1 : Int32)) (fun KL1_47 => F_Wd_canBeLast_4 w x1 x2 σ KL1_47 50000 (x1 + (1 : Int32)))
def F_Id_add_3 (x1 : Int32) (x2 : Int64) (KL1_41 : Int32 → GS → Option (GS)) : Nat → Int32 → GS → Option (GS)
  | 0, _, _ => none
  | n + 1, v4_1, σL1 => if (σL1.1 36 4) ≤ v4_1 then KL1_41 v4_1 σL1 else gd (idI (σL1.1 36 1)) (gd (iB v4_1 40) (if (σL1.1 ((σL1.1 36 1).toNatClampNeg) v4_1.toNatClampNeg) = x1 then gd (idJ (σL1.1 36 3)) (gd (iB v4_1 40) (gd (idJ (σL1.1 36 3)) (gd (iB v4_1 40) (jn (s2 σL1 ((σL1.1 36 3).toNatClampNeg) v4_1.toNatClampNeg ((σL1.2 ((σL1.1 36 3).toNatClampNeg) v4_1.toNatClampNeg) + x2)) (fun (σ16 : GS) => some σ16))))) else F_Id_add_3 x1 x2 KL1_41 n (v4_1 + 1) σL1))
def F_Id_add (x1 : Int32) (x2 : Int64) (σ : GS) : Option (GS) :=
  jn (fun (v4_1 : Int32) (σL1 : GS) => if (40 : Int32) ≤ (σL1.1 36 4) then some σL1 else gd (idI (σL1.1 36 1)) (gd (iB (σL1.1 36 4) 40) (jn (s1 σL1 ((σL1.1 36 1).toNatClampNeg) ((σL1.1 36 4).toNatClampNeg) x1) (fun (σ4 : GS) => gd (idJ (σ4.1 36 3)) (gd (iB (σ4.1 36 4) 40) (jn (s2 σ4 ((σ4.1 36 3).toNatClampNeg) ((σ4.1 36 4).toNatClampNeg) x2) (fun (σ7 : GS) => jn (s1 σ7 36 4 ((σ7.1 36 4) + (1 : Int32))) (fun (σ8 : GS) => some σ8)))))))) (fun KL1_41 => F_Id_add_3 x1 x2 KL1_41 50000 (0 : Int32) σ)
def F_Id_takeOff_17 (x2 : Int32) (x3 : Int32) (v4_2 : Int32) (KL3_86 : Int32 → GS → Option (GS)) : Nat → Int32 → GS → Option (GS)
  | 0, _, _ => none
  | n + 1, v5_3, σL3 => if x3 ≤ v5_3 then KL3_86 v5_3 σL3 else gd (idI (σL3.1 36 0)) (gd (iB v4_2 40) (if (((σL3.1 ((σL3.1 36 0).toNatClampNeg) v4_2.toNatClampNeg) >>> (v5_3 &&& 31)) &&& (1 : Int32)) = (1 : Int32) then gd (idI (σL3.1 36 0)) (gd (iB v4_2 40) (bp (F_Wd_canBeLast 32 v5_3 (σL3.1 ((σL3.1 36 0).toNatClampNeg) v4_2.toNatClampNeg) σL3) (fun (r9 : Int32) => if r9 = (0 : Int32) then F_Id_takeOff_17 x2 x3 v4_2 KL3_86 n (v5_3 + 1) σL3 else gd (idI (σL3.1 36 0)) (gd (iB v4_2 40) (gd (idJ (σL3.1 36 2)) (gd (iB v4_2 40) (bv (F_Id_add ((σL3.1 ((σL3.1 36 0).toNatClampNeg) v4_2.toNatClampNeg) &&& (((1 : Int32) <<< (v5_3 &&& 31)) ^^^ (-1 : Int32))) (σL3.2 ((σL3.1 36 2).toNatClampNeg) v4_2.toNatClampNeg) σL3) (fun (σ15 : GS) => F_Id_takeOff_17 x2 x3 v4_2 KL3_86 n (v5_3 + 1) σ15)))))))) else F_Id_takeOff_17 x2 x3 v4_2 KL3_86 n (v5_3 + 1) σL3))
def F_Id_takeOff_8 (x2 : Int32) (x3 : Int32) (KL2_92 : Int32 → GS → Option (GS)) : Nat → Int32 → GS → Option (GS)
  | 0, _, _ => none
  | n + 1, v4_2, σL2 => if x2 ≤ v4_2 then KL2_92 v4_2 σL2 else jn (fun (v5_3 : Int32) (σL3 : GS) => F_Id_takeOff_8 x2 x3 KL2_92 n (v4_2 + 1) σL3) (fun KL3_86 => F_Id_takeOff_17 x2 x3 v4_2 KL3_86 50000 (0 : Int32) σL2)
def F_Id_takeOff (x2 : Int32) (x3 : Int32) (σ : GS) : Option (GS) :=
  jn (s1 σ 36 4 (0 : Int32)) (fun (σ1 : GS) => jn (fun (v4_2 : Int32) (σL2 : GS) => some σL2) (fun KL2_92 => F_Id_takeOff_8 x2 x3 KL2_92 50000 (0 : Int32) σ1))
def F_Id_swap (σ : GS) : Option (GS) :=
  jn (s1 σ 36 0 (σ.1 36 1)) (fun (σ1 : GS) => jn (s1 σ1 36 1 (σ.1 36 0)) (fun (σ2 : GS) => jn (s1 σ2 36 2 (σ2.1 36 3)) (fun (σ3 : GS) => jn (s1 σ3 36 3 (σ2.1 36 2)) (fun (σ4 : GS) => some σ4))))
def F_Id_tally_38 (u2_6 : Int32) (KL7_76 : Int32 → Int32 → GS → Option (GS)) : Nat → Int32 → Int32 → GS → Option (GS)
  | 0, _, _, _ => none
  | n + 1, v3_7, v4_7, σL7 => if u2_6 ≤ v4_7 then KL7_76 v3_7 v4_7 σL7 else bv (F_Id_takeOff v3_7 u2_6 σL7) (fun (σ11 : GS) => bv (F_Id_swap σ11) (fun (σ13 : GS) => jn (s1 σ13 36 6 ((σ13.1 36 6) + (σ13.1 36 4))) (fun (σ14 : GS) => F_Id_tally_38 u2_6 KL7_76 n (σ13.1 36 4) (v4_7 + 1) σ14)))
def F_Id_tally (σ : GS) : Option (GS) :=
  gd (idI (σ.1 36 0)) (jn (s1 σ ((σ.1 36 0).toNatClampNeg) 0 (((1 : Int32) <<< ((if (18 : Int32) < (σ.1 32 1) then (18 : Int32) else (σ.1 32 1)) &&& 31)) - (1 : Int32))) (fun (σ2 : GS) => gd (idJ (σ2.1 36 2)) (jn (s2 σ2 ((σ2.1 36 2).toNatClampNeg) 0 (1 : Int64)) (fun (σ4 : GS) => jn (s1 σ4 36 6 (1 : Int32)) (fun (σ5 : GS) => jn (if (18 : Int32) < (σ.1 32 1) then (18 : Int32) else (σ.1 32 1) : Int32) (fun u2_6 => jn (fun (v3_7 : Int32) (v4_7 : Int32) (σL7 : GS) => gd (idJ (σL7.1 36 2)) (jn (s2 σL7 36 5 (σL7.2 ((σL7.1 36 2).toNatClampNeg) 0)) (fun (σ9 : GS) => some σ9))) (fun KL7_76 => F_Id_tally_38 u2_6 KL7_76 50000 (1 : Int32) (0 : Int32) σ5)))))))
def F_J_fillI_5 (q0 : Nat) (n0 : Nat) (x1 : Int32) (u3_1 : Int32) (KL2_20 : Int32 → GS → Option (GS)) : Nat → Int32 → GS → Option (GS)
  | 0, _, _ => none
  | n + 1, v2_2, σL2 => if u3_1 ≤ v2_2 then KL2_20 v2_2 σL2 else gd (iB v2_2 n0) (jn (s1 σL2 q0 v2_2.toNatClampNeg x1) (fun (σ4 : GS) => F_J_fillI_5 q0 n0 x1 u3_1 KL2_20 n (v2_2 + 1) σ4))
def F_J_fillI (q0 : Nat) (n0 : Nat) (x1 : Int32) (σ : GS) : Option (GS) :=
  jn (Int32.ofNat n0 : Int32) (fun u3_1 => jn (fun (v2_2 : Int32) (σL2 : GS) => some σL2) (fun KL2_20 => F_J_fillI_5 q0 n0 x1 u3_1 KL2_20 50000 (0 : Int32) σ))
def F_Qu_numberOfCode_6  (KL1_31 : Int32 → Int32 → Int32 → Option (Int32)) : Nat → Int32 → Int32 → Int32 → Option (Int32)
  | 0, _, _, _ => none
  | n + 1, v1_1, v2_1, v3_1 => if v3_1 ≤ (0 : Int32) then KL1_31 v1_1 v2_1 v3_1 else F_Qu_numberOfCode_6 KL1_31 n (v1_1 + ((v3_1 - v3_1 / (10 : Int32) * (10 : Int32)) * v2_1)) (v2_1 * (5 : Int32)) (v3_1 / (10 : Int32))
def F_Qu_numberOfCode (x0 : Int32) : Option (Int32) :=
  jn (fun (v1_1 : Int32) (v2_1 : Int32) (v3_1 : Int32) => some v1_1) (fun KL1_31 => F_Qu_numberOfCode_6 KL1_31 50000 (0 : Int32) (1 : Int32) x0)
def F_Qu_numberOf (x1 : Int32) (x2 : Int32) (σ : GS) : Option (Int32 × GS) :=
  bp (F_Qu_numberOfCode x1) (fun (r2 : Int32) => if r2 < (0 : Int32) then some ((-1 : Int32), σ) else if r2 < (781 : Int32) then gd (iB r2 781) (jn (fun (σJ4 : GS) => gd (iB r2 781) (some (σJ4.1 58 r2.toNatClampNeg, σJ4))) (fun J4 => if (σ.1 58 r2.toNatClampNeg) = (-1 : Int32) then if (166 : Int32) ≤ (σ.1 54 9) then J4 σ else gd (iB (σ.1 54 9) 166) (jn (s1 σ 55 ((σ.1 54 9).toNatClampNeg) x1) (fun (σ7 : GS) => gd (iB (σ7.1 54 9) 166) (jn (s1 σ7 56 ((σ7.1 54 9).toNatClampNeg) x2) (fun (σ9 : GS) => gd (iB r2 781) (jn (s1 σ9 58 r2.toNatClampNeg (σ9.1 54 9)) (fun (σ11 : GS) => jn (s1 σ11 54 9 ((σ11.1 54 9) + (1 : Int32))) (fun (σ12 : GS) => J4 σ12))))))) else J4 σ)) else some ((-1 : Int32), σ))
def F_X_isStreet (x0 : Int32) : Option (Int32) :=
  if x0 < (0 : Int32) then some (0 : Int32) else if (5 : Int32) ≤ x0 then some (0 : Int32) else some (1 : Int32)
def F_Wd_takeOut_2 (w : Nat) (KL1_32 : Int32 → GS → Option (GS)) : Nat → Int32 → GS → Option (GS)
  | 0, _, _ => none
  | n + 1, v2_1, σL1 => if (σL1.1 w 1) ≤ (v2_1 + (1 : Int32)) then KL1_32 v2_1 σL1 else gd (iB (v2_1 + (1 : Int32)) 64) (gd (iB v2_1 64) (jn (s1 σL1 (w + 1) v2_1.toNatClampNeg (σL1.1 (w + 1) (v2_1 + (1 : Int32)).toNatClampNeg)) (fun (σ5 : GS) => F_Wd_takeOut_2 w KL1_32 n (v2_1 + 1) σ5)))
def F_Wd_takeOut (w : Nat) (x1 : Int32) (σ : GS) : Option (GS) :=
  jn (fun (v2_1 : Int32) (σL1 : GS) => jn (s1 σL1 w 1 ((σL1.1 w 1) - (1 : Int32))) (fun (σ2 : GS) => some σ2)) (fun KL1_32 => F_Wd_takeOut_2 w KL1_32 50000 x1 σ)
def F_Wd_putIn_15 (w : Nat) (x1 : Int32) (x2 : Int32) (KL1_40 : Int32 → GS → Option (GS)) : Nat → Int32 → GS → Option (GS)
  | 0, _, _ => none
  | n + 1, v3_1, σL1 => if v3_1 ≤ x1 then KL1_40 v3_1 σL1 else gd (iB (v3_1 - (1 : Int32)) 64) (gd (iB v3_1 64) (jn (s1 σL1 (w + 1) v3_1.toNatClampNeg (σL1.1 (w + 1) (v3_1 - (1 : Int32)).toNatClampNeg)) (fun (σ7 : GS) => F_Wd_putIn_15 w x1 x2 KL1_40 n (v3_1 + (-1)) σ7)))
def F_Wd_putIn (w : Nat) (x1 : Int32) (x2 : Int32) (σ : GS) : Option (GS) :=
  if (σ.1 w 1) < (64 : Int32) then jn (fun (v3_1 : Int32) (σL1 : GS) => gd (iB x1 64) (jn (s1 σL1 (w + 1) x1.toNatClampNeg x2) (fun (σ3 : GS) => jn (s1 σ3 w 1 ((σ3.1 w 1) + (1 : Int32))) (fun (σ4 : GS) => some σ4)))) (fun KL1_40 => F_Wd_putIn_15 w x1 x2 KL1_40 50000 (σ.1 w 1) σ) else some σ
def F_Wd_go_62 (w : Nat) (x1 : Int32) (σJ4 : GS) (KL5_86 : Int32 → Option (GS)) : Nat → Int32 → Option (GS)
  | 0, _ => none
  | n + 1, v2_5 => if (σJ4.1 w 1) ≤ v2_5 then KL5_86 v2_5 else gd (iB v2_5 64) (if x1 ≤ (σJ4.1 (w + 1) v2_5.toNatClampNeg) then KL5_86 v2_5 else F_Wd_go_62 w x1 σJ4 KL5_86 n (v2_5 + 1))
def F_Wd_go_13 (w : Nat) (x1 : Int32) (σ : GS) (KL3_38 : Int32 → Option (GS)) : Nat → Int32 → Option (GS)
  | 0, _ => none
  | n + 1, v2_3 => if v2_3 ≤ (0 : Int32) then KL3_38 v2_3 else gd (iB (v2_3 - (1 : Int32)) 64) (bp (F_Wd_areNeighbours (σ.1 (w + 1) (v2_3 - (1 : Int32)).toNatClampNeg) x1) (fun (r18 : Int32) => if r18 = (0 : Int32) then KL3_38 v2_3 else F_Wd_go_13 w x1 σ KL3_38 n (v2_3 + (-1))))
def F_Wd_go (w : Nat) (x1 : Int32) (σ : GS) : Option (GS) :=
  bp (F_X_isStreet x1) (fun (r2 : Int32) => if r2 = (0 : Int32) then some σ else jn (fun (v2_3 : Int32) => jn (fun (σJ4 : GS) => jn (fun (v2_5 : Int32) => bv (F_Wd_putIn w v2_5 x1 σJ4) (fun (σ7 : GS) => some σ7)) (fun KL5_86 => F_Wd_go_62 w x1 σJ4 KL5_86 50000 v2_3)) (fun J4 => if v2_3 ≤ (0 : Int32) then J4 σ else gd (iB (v2_3 - (1 : Int32)) 64) (if (σ.1 (w + 1) (v2_3 - (1 : Int32)).toNatClampNeg) = x1 then bv (F_Wd_takeOut w (v2_3 - (1 : Int32)) σ) (fun (σ13 : GS) => some σ13) else J4 σ))) (fun KL3_38 => F_Wd_go_13 w x1 σ KL3_38 50000 (σ.1 w 1)))
def F_Wd_goAlong_29 (w : Nat) (x1 : Int32) (KL2_53 : Int32 → GS → Option (GS)) : Nat → Int32 → GS → Option (GS)
  | 0, _, _ => none
  | n + 1, v2_2, σL2 => if v2_2 ≤ (0 : Int32) then KL2_53 v2_2 σL2 else gd (zB v2_2) (bv (F_Wd_go w (((x1 / v2_2) - (x1 / v2_2) / (10 : Int32) * (10 : Int32)) - (1 : Int32)) σL2) (fun (σ4 : GS) => F_Wd_goAlong_29 w x1 KL2_53 n (v2_2 / (10 : Int32)) σ4))
def F_Wd_goAlong_4 (w : Nat) (x1 : Int32) (σ : GS) (KL1_29 : Int32 → Int32 → Option (GS)) : Nat → Int32 → Int32 → Option (GS)
  | 0, _, _ => none
  | n + 1, v2_1, v3_1 => if (9 : Int32) ≤ v3_1 then KL1_29 v2_1 v3_1 else gd (zB v2_1) (if (x1 / v2_1) < (10 : Int32) then KL1_29 v2_1 v3_1 else F_Wd_goAlong_4 w x1 σ KL1_29 n (v2_1 * (10 : Int32)) (v3_1 + 1))
def F_Wd_goAlong (w : Nat) (x1 : Int32) (σ : GS) : Option (GS) :=
  jn (fun (v2_1 : Int32) (v3_1 : Int32) => jn (fun (v2_2 : Int32) (σL2 : GS) => some σL2) (fun KL2_53 => F_Wd_goAlong_29 w x1 KL2_53 50000 v2_1 σ)) (fun KL1_29 => F_Wd_goAlong_4 w x1 σ KL1_29 50000 (1 : Int32) (1 : Int32))
def F_Wd_becomes (w : Nat) (x1 : Int32) (σ : GS) : Option (GS) :=
  jn (s1 σ w 1 (0 : Int32)) (fun (σ1 : GS) => bv (F_Wd_goAlong w x1 σ1) (fun (σ3 : GS) => some σ3))
def F_Wd_code_16 (w : Nat) (σ : GS) (KL1_44 : Int32 → Int32 → Option (Int32)) : Nat → Int32 → Int32 → Option (Int32)
  | 0, _, _ => none
  | n + 1, v1_1, v2_1 => if (σ.1 w 1) ≤ v2_1 then KL1_44 v1_1 v2_1 else gd (iB v2_1 64) (F_Wd_code_16 w σ KL1_44 n (((v1_1 * (10 : Int32)) + (σ.1 (w + 1) v2_1.toNatClampNeg)) + (1 : Int32)) (v2_1 + 1))
def F_Wd_code (w : Nat) (σ : GS) : Option (Int32) :=
  if (σ.1 w 1) ≤ (9 : Int32) then jn (fun (v1_1 : Int32) (v2_1 : Int32) => some v1_1) (fun KL1_44 => F_Wd_code_16 w σ KL1_44 50000 (0 : Int32) (0 : Int32)) else some (-6 : Int32)
def F_Qu_survey_42 (v2_6 : Int32) (KL7_102 : Int32 → GS → Option (GS)) : Nat → Int32 → GS → Option (GS)
  | 0, _, _ => none
  | n + 1, v3_7, σL7 => if (5 : Int32) ≤ v3_7 then KL7_102 v3_7 σL7 else gd (iB v2_6 166) (bv (F_Wd_becomes 32 (σL7.1 55 v2_6.toNatClampNeg) σL7) (fun (σ10 : GS) => bv (F_Wd_go 32 v3_7 σ10) (fun (σ12 : GS) => if (σ12.1 32 1) ≤ (4 : Int32) then bp (F_Wd_code 32 σ12) (fun (r14 : Int32) => bc (F_Qu_numberOf r14 (σ12.1 32 1) σ12) (fun (r16 : Int32) (σ17 : GS) => gd (iB ((v2_6 * (5 : Int32)) + v3_7) 830) (jn (s1 σ17 57 (((v2_6 * (5 : Int32)) + v3_7).toNatClampNeg) r16) (fun (σ19 : GS) => F_Qu_survey_42 v2_6 KL7_102 n (v3_7 + 1) σ19)))) else gd (iB ((v2_6 * (5 : Int32)) + v3_7) 830) (jn (s1 σ12 57 (((v2_6 * (5 : Int32)) + v3_7).toNatClampNeg) (-1 : Int32)) (fun (σ21 : GS) => F_Qu_survey_42 v2_6 KL7_102 n (v3_7 + 1) σ21)))))
def F_Qu_survey_25  (KL6_108 : Int32 → GS → Option (GS)) : Nat → Int32 → GS → Option (GS)
  | 0, _, _ => none
  | n + 1, v2_6, σL6 => if (166 : Int32) ≤ v2_6 then KL6_108 v2_6 σL6 else if (σL6.1 54 9) ≤ v2_6 then KL6_108 v2_6 σL6 else jn (fun (v3_7 : Int32) (σL7 : GS) => F_Qu_survey_25 KL6_108 n (v2_6 + 1) σL7) (fun KL7_102 => F_Qu_survey_42 v2_6 KL7_102 50000 (0 : Int32) σL6)
def F_Qu_survey (σ : GS) : Option (GS) :=
  if (σ.1 54 9) ≤ (0 : Int32) then bv (F_J_fillI 58 781 (-1 : Int32) σ) (fun (σ2 : GS) => bc (F_Qu_numberOf (0 : Int32) (0 : Int32) σ2) (fun (r4 : Int32) (σ5 : GS) => jn (fun (v2_6 : Int32) (σL6 : GS) => some σL6) (fun KL6_108 => F_Qu_survey_25 KL6_108 50000 (0 : Int32) σ5))) else some σ
def F_Qu_addGuard (x1 : Int32) (σ : GS) : Option (GS) :=
  if (σ.1 54 8) < (20 : Int32) then bp (F_Qu_numberOfCode x1) (fun (r2 : Int32) => jn (fun (tJ3 : Int32) => gd (iB (σ.1 54 8) 20) (jn (s1 σ 61 ((σ.1 54 8).toNatClampNeg) tJ3) (fun (σ5 : GS) => jn (s1 σ5 54 8 ((σ5.1 54 8) + (1 : Int32))) (fun (σ6 : GS) => some σ6)))) (fun J3 => jn (fun (dJ7 : Unit) => J3 (-1 : Int32)) (fun J7 => if r2 < (0 : Int32) then J7 () else if (781 : Int32) ≤ r2 then J7 () else gd (iB r2 781) (J3 (σ.1 58 r2.toNatClampNeg))))) else some σ
def F_Qu_catchFire (x1 : Int32) (σ : GS) : Option (GS) :=
  if (166 : Int32) ≤ (σ.1 54 7) then some σ else gd (iB (σ.1 54 7) 166) (jn (s1 σ 60 ((σ.1 54 7).toNatClampNeg) x1) (fun (σ2 : GS) => jn (s1 σ2 54 7 ((σ2.1 54 7) + (1 : Int32))) (fun (σ3 : GS) => gd (iB x1 166) (jn (s1 σ3 59 x1.toNatClampNeg (1 : Int32)) (fun (σ5 : GS) => some σ5)))))
def F_Qu_spread_2 (x1 : Int32) (KL1_43 : Int32 → GS → Option (GS)) : Nat → Int32 → GS → Option (GS)
  | 0, _, _ => none
  | n + 1, v2_1, σL1 => if (5 : Int32) ≤ v2_1 then KL1_43 v2_1 σL1 else gd (iB ((x1 * (5 : Int32)) + v2_1) 830) (if (σL1.1 57 ((x1 * (5 : Int32)) + v2_1).toNatClampNeg) = (-1 : Int32) then F_Qu_spread_2 x1 KL1_43 n (v2_1 + 1) σL1 else gd (iB (σL1.1 57 ((x1 * (5 : Int32)) + v2_1).toNatClampNeg) 166) (if (σL1.1 59 (σL1.1 57 ((x1 * (5 : Int32)) + v2_1).toNatClampNeg).toNatClampNeg) = (0 : Int32) then bv (F_Qu_catchFire (σL1.1 57 ((x1 * (5 : Int32)) + v2_1).toNatClampNeg) σL1) (fun (σ5 : GS) => F_Qu_spread_2 x1 KL1_43 n (v2_1 + 1) σ5) else F_Qu_spread_2 x1 KL1_43 n (v2_1 + 1) σL1))
def F_Qu_spread (x1 : Int32) (σ : GS) : Option (GS) :=
  jn (fun (v2_1 : Int32) (σL1 : GS) => some σL1) (fun KL1_43 => F_Qu_spread_2 x1 KL1_43 50000 (0 : Int32) σ)
def F_Qu_burn_81 (x2 : Int32) (v4_7 : Int32) (u5_8 : Int32) (KL9_105 : Int32 → GS → Option (Int32 × GS)) : Nat → Int32 → GS → Option (Int32 × GS)
  | 0, _, _ => none
  | n + 1, v6_9, σL9 => if u5_8 ≤ v6_9 then KL9_105 v6_9 σL9 else gd (iB v6_9 166) (bv (F_Qu_spread (σL9.1 60 v6_9.toNatClampNeg) σL9) (fun (σ12 : GS) => F_Qu_burn_81 x2 v4_7 u5_8 KL9_105 n (v6_9 + 1) σ12))
def F_Qu_burn_66 (x2 : Int32) (KL7_114 : Int32 → Int32 → GS → Option (Int32 × GS)) : Nat → Int32 → Int32 → GS → Option (Int32 × GS)
  | 0, _, _, _ => none
  | n + 1, v3_7, v4_7, σL7 => if x2 ≤ v4_7 then KL7_114 v3_7 v4_7 σL7 else jn (σL7.1 54 7 : Int32) (fun u5_8 => jn (fun (v6_9 : Int32) (σL9 : GS) => F_Qu_burn_66 x2 KL7_114 n u5_8 (v4_7 + 1) σL9) (fun KL9_105 => F_Qu_burn_81 x2 v4_7 u5_8 KL9_105 50000 v3_7 σL7))
def F_Qu_burn_10 (x1 : Int32) (x2 : Int32) (KL3_51 : Int32 → GS → Option (Int32 × GS)) : Nat → Int32 → GS → Option (Int32 × GS)
  | 0, _, _ => none
  | n + 1, v3_3, σL3 => if (σL3.1 54 8) ≤ v3_3 then KL3_51 v3_3 σL3 else if v3_3 = x1 then F_Qu_burn_10 x1 x2 KL3_51 n (v3_3 + 1) σL3 else gd (iB v3_3 20) (if (σL3.1 61 v3_3.toNatClampNeg) = (-1 : Int32) then F_Qu_burn_10 x1 x2 KL3_51 n (v3_3 + 1) σL3 else gd (iB v3_3 20) (gd (iB (σL3.1 61 v3_3.toNatClampNeg) 166) (jn (s1 σL3 59 ((σL3.1 61 v3_3.toNatClampNeg).toNatClampNeg) (1 : Int32)) (fun (σ18 : GS) => F_Qu_burn_10 x1 x2 KL3_51 n (v3_3 + 1) σ18))))
def F_Qu_burn (x1 : Int32) (x2 : Int32) (σ : GS) : Option (Int32 × GS) :=
  bv (F_J_fillI 59 166 (0 : Int32) σ) (fun (σ2 : GS) => jn (fun (v3_3 : Int32) (σL3 : GS) => jn (s1 σL3 54 7 (0 : Int32)) (fun (σ4 : GS) => bv (F_Qu_catchFire (0 : Int32) σ4) (fun (σ6 : GS) => jn (fun (v3_7 : Int32) (v4_7 : Int32) (σL7 : GS) => some (σL7.1 54 7, σL7)) (fun KL7_114 => F_Qu_burn_66 x2 KL7_114 50000 (0 : Int32) (0 : Int32) σ6)))) (fun KL3_51 => F_Qu_burn_10 x1 x2 KL3_51 50000 (0 : Int32) σ2))
def F_Qu_edgeBurns_2 (σ : GS) (KL1_33 : Int32 → Option (Int32)) : Nat → Int32 → Option (Int32)
  | 0, _ => none
  | n + 1, v1_1 => if (σ.1 54 7) ≤ v1_1 then KL1_33 v1_1 else gd (iB v1_1 166) (gd (iB (σ.1 60 v1_1.toNatClampNeg) 166) (if (σ.1 56 (σ.1 60 v1_1.toNatClampNeg).toNatClampNeg) = (4 : Int32) then some (1 : Int32) else F_Qu_edgeBurns_2 σ KL1_33 n (v1_1 + 1)))
def F_Qu_edgeBurns (σ : GS) : Option (Int32) :=
  jn (fun (v1_1 : Int32) => some (0 : Int32)) (fun KL1_33 => F_Qu_edgeBurns_2 σ KL1_33 50000 (0 : Int32))
def F_Rd_takeBlank (σ : GS) : Option (Int32 × GS) :=
  if (σ.1 15 4) = (0 : Int32) then some ((0 : Int32), σ) else jn (s1 σ 15 4 (-1 : Int32)) (fun (σ1 : GS) => some ((1 : Int32), σ1))
def F_Rd_takeFigure (x1 : Int32) (σ : GS) : Option (Int32 × GS) :=
  if (σ.1 15 4) = (-1 : Int32) then some ((0 : Int32), σ) else if (4 : Int32) < (σ.1 15 4) then some ((0 : Int32), σ) else if (1 : Int32) ≤ (σ.1 15 3) then jn (fun (σJ1 : GS) => jn (s1 σJ1 15 4 ((σJ1.1 15 4) + (1 : Int32))) (fun (σ2 : GS) => some ((1 : Int32), σ2))) (fun J1 => if (σ.1 15 4) = (0 : Int32) then gd (iB ((σ.1 15 3) - (1 : Int32)) 5) (jn (s1 σ 17 (((σ.1 15 3) - (1 : Int32)).toNatClampNeg) x1) (fun (σ7 : GS) => J1 σ7)) else gd (iB ((σ.1 15 3) - (1 : Int32)) 5) (gd (iB ((σ.1 15 3) - (1 : Int32)) 5) (jn (s1 σ 18 (((σ.1 15 3) - (1 : Int32)).toNatClampNeg) ((((σ.1 18 ((σ.1 15 3) - (1 : Int32)).toNatClampNeg) * (10 : Int32)) + x1) + (1 : Int32))) (fun (σ5 : GS) => J1 σ5)))) else some ((0 : Int32), σ)
def F_Rd_kindOf (x0 : Int32) : Option (Int32) :=
  if x0 = 99 then some (2 : Int32) else if x0 = 104 then some (3 : Int32) else if x0 = 111 then some (5 : Int32) else if x0 = 114 then some (4 : Int32) else if x0 = 115 then some (1 : Int32) else if x0 = 119 then some (0 : Int32) else some (-9 : Int32)
def F_Rd_takeLetter (x1 : Int32) (σ : GS) : Option (Int32 × GS) :=
  bp (F_Rd_kindOf x1) (fun (r2 : Int32) => if r2 = (-9 : Int32) then some ((0 : Int32), σ) else if (σ.1 15 4) = (0 : Int32) then some ((0 : Int32), σ) else if (σ.1 15 3) < (5 : Int32) then gd (iB (σ.1 15 3) 5) (jn (s1 σ 16 ((σ.1 15 3).toNatClampNeg) r2) (fun (σ4 : GS) => gd (iB (σ4.1 15 3) 5) (jn (s1 σ4 17 ((σ4.1 15 3).toNatClampNeg) (0 : Int32)) (fun (σ6 : GS) => gd (iB (σ6.1 15 3) 5) (jn (s1 σ6 18 ((σ6.1 15 3).toNatClampNeg) (0 : Int32)) (fun (σ8 : GS) => jn (s1 σ8 15 3 ((σ8.1 15 3) + (1 : Int32))) (fun (σ9 : GS) => jn (s1 σ9 15 4 (0 : Int32)) (fun (σ10 : GS) => some ((1 : Int32), σ10))))))))) else some ((0 : Int32), σ))
def F_Rd_take (x1 : Int32) (σ : GS) : Option (Int32 × GS) :=
  if x1 = (32 : Int32) then bc (F_Rd_takeBlank σ) (fun (r11 : Int32) (σ12 : GS) => gd (bB r11) (some (r11, σ12))) else bp (F_X_isStreet (x1 - (48 : Int32))) (fun (r2 : Int32) => if r2 = (0 : Int32) then bc (F_Rd_takeLetter x1 σ) (fun (r4 : Int32) (σ5 : GS) => gd (bB r4) (some (r4, σ5))) else bc (F_Rd_takeFigure (x1 - (48 : Int32)) σ) (fun (r7 : Int32) (σ8 : GS) => gd (bB r7) (some (r7, σ8))))
def F_Rd_read_12 (q1 : Nat) (x2 : Int32) (KL3_41 : Int32 → GS → Option (Int32 × GS)) : Nat → Int32 → GS → Option (Int32 × GS)
  | 0, _, _ => none
  | n + 1, v3_3, σL3 => if x2 ≤ v3_3 then KL3_41 v3_3 σL3 else if (80 : Int32) ≤ v3_3 then KL3_41 v3_3 σL3 else gd (iB v3_3 80) (bc (F_Rd_take (σL3.1 q1 v3_3.toNatClampNeg) σL3) (fun (r7 : Int32) (σ8 : GS) => if r7 = (0 : Int32) then some (v3_3, σ8) else F_Rd_read_12 q1 x2 KL3_41 n (v3_3 + 1) σ8))
def F_Rd_read (q1 : Nat) (x2 : Int32) (σ : GS) : Option (Int32 × GS) :=
  jn (s1 σ 15 3 (0 : Int32)) (fun (σ1 : GS) => jn (s1 σ1 15 4 (-1 : Int32)) (fun (σ2 : GS) => jn (fun (v3_3 : Int32) (σL3 : GS) => if (σL3.1 15 4) = (0 : Int32) then some (x2, σL3) else some ((-9 : Int32), σL3)) (fun KL3_41 => F_Rd_read_12 q1 x2 KL3_41 50000 (0 : Int32) σ2)))
def F_Wd_goBackAlong_2 (w : Nat) (KL1_24 : Int32 → GS → Option (GS)) : Nat → Int32 → GS → Option (GS)
  | 0, _, _ => none
  | n + 1, v2_1, σL1 => if v2_1 ≤ (0 : Int32) then KL1_24 v2_1 σL1 else bv (F_Wd_go w ((v2_1 - v2_1 / (10 : Int32) * (10 : Int32)) - (1 : Int32)) σL1) (fun (σ3 : GS) => F_Wd_goBackAlong_2 w KL1_24 n (v2_1 / (10 : Int32)) σ3)
def F_Wd_goBackAlong (w : Nat) (x1 : Int32) (σ : GS) : Option (GS) :=
  jn (fun (v2_1 : Int32) (σL1 : GS) => some σL1) (fun KL1_24 => F_Wd_goBackAlong_2 w KL1_24 50000 x1 σ)
def F_Wd_becomesWay (w : Nat) (x1 : Int32) (x2 : Int32) (σ : GS) : Option (GS) :=
  jn (s1 σ w 1 (0 : Int32)) (fun (σ1 : GS) => bv (F_Wd_goBackAlong w x1 σ1) (fun (σ3 : GS) => bv (F_Wd_goAlong w x2 σ3) (fun (σ5 : GS) => some σ5)))
def F_To_measure_34 (q1 : Nat) (v4_2 : Int32) (KL3_100 : Int32 → GS → Option (GS)) : Nat → Int32 → GS → Option (GS)
  | 0, _, _ => none
  | n + 1, v5_3, σL3 => if (σL3.1 50 3) < v5_3 then KL3_100 v5_3 σL3 else jn (fun (tJ4 : Int32) => jn (fun (tJ5 : Int32) => bv (F_Wd_becomesWay 32 tJ4 tJ5 σL3) (fun (σ7 : GS) => gd (iB ((v4_2 * (7 : Int32)) + v5_3) 49) (jn (s1 σ7 51 (((v4_2 * (7 : Int32)) + v5_3).toNatClampNeg) (σ7.1 32 1)) (fun (σ9 : GS) => F_To_measure_34 q1 v4_2 KL3_100 n (v5_3 + 1) σ9)))) (fun J5 => if v5_3 = (0 : Int32) then J5 (0 : Int32) else gd (iB (v5_3 - (1 : Int32)) 40) (J5 (σL3.1 q1 (v5_3 - (1 : Int32)).toNatClampNeg)))) (fun J4 => if v4_2 = (0 : Int32) then J4 (0 : Int32) else gd (iB (v4_2 - (1 : Int32)) 40) (J4 (σL3.1 q1 (v4_2 - (1 : Int32)).toNatClampNeg)))
def F_To_measure_22 (q1 : Nat) (KL2_106 : Int32 → GS → Option (GS)) : Nat → Int32 → GS → Option (GS)
  | 0, _, _ => none
  | n + 1, v4_2, σL2 => if (σL2.1 50 3) < v4_2 then KL2_106 v4_2 σL2 else jn (fun (v5_3 : Int32) (σL3 : GS) => F_To_measure_22 q1 KL2_106 n (v4_2 + 1) σL3) (fun KL3_100 => F_To_measure_34 q1 v4_2 KL3_100 50000 (0 : Int32) σL2)
def F_To_measure (q1 : Nat) (x2 : Int32) (σ : GS) : Option (GS) :=
  jn (s1 σ 50 3 (if (0 : Int32) < (if (if (6 : Int32) < (40 : Int32) then (6 : Int32) else (40 : Int32)) < x2 then (if (6 : Int32) < (40 : Int32) then (6 : Int32) else (40 : Int32)) else x2) then (if (if (6 : Int32) < (40 : Int32) then (6 : Int32) else (40 : Int32)) < x2 then (if (6 : Int32) < (40 : Int32) then (6 : Int32) else (40 : Int32)) else x2) else (0 : Int32))) (fun (σ1 : GS) => jn (fun (v4_2 : Int32) (σL2 : GS) => some σL2) (fun KL2_106 => F_To_measure_22 q1 KL2_106 50000 (0 : Int32) σ1))
def F_To_lengthOfOrder_6 (σ : GS) (KL1_50 : Int32 → Int32 → Int32 → Option (Int32)) : Nat → Int32 → Int32 → Int32 → Option (Int32)
  | 0, _, _, _ => none
  | n + 1, v1_1, v2_1, v3_1 => if (σ.1 50 3) ≤ v3_1 then KL1_50 v1_1 v2_1 v3_1 else gd (iB v3_1 6) (gd (iB (((v2_1 * (7 : Int32)) + (σ.1 52 v3_1.toNatClampNeg)) + (1 : Int32)) 49) (gd (iB v3_1 6) (F_To_lengthOfOrder_6 σ KL1_50 n (v1_1 + (σ.1 51 (((v2_1 * (7 : Int32)) + (σ.1 52 v3_1.toNatClampNeg)) + (1 : Int32)).toNatClampNeg)) ((σ.1 52 v3_1.toNatClampNeg) + (1 : Int32)) (v3_1 + 1))))
def F_To_lengthOfOrder (σ : GS) : Option (Int32) :=
  jn (fun (v1_1 : Int32) (v2_1 : Int32) (v3_1 : Int32) => gd (iB (v2_1 * (7 : Int32)) 49) (some (v1_1 + (σ.1 51 (v2_1 * (7 : Int32)).toNatClampNeg)))) (fun KL1_50 => F_To_lengthOfOrder_6 σ KL1_50 50000 (0 : Int32) (0 : Int32) (0 : Int32))
def F_To_exchange (x1 : Int32) (x2 : Int32) (σ : GS) : Option (GS) :=
  gd (iB x1 6) (gd (iB x2 6) (gd (iB x1 6) (jn (s1 σ 52 x1.toNatClampNeg (σ.1 52 x2.toNatClampNeg)) (fun (σ4 : GS) => gd (iB x2 6) (jn (s1 σ4 52 x2.toNatClampNeg (σ.1 52 x1.toNatClampNeg)) (fun (σ6 : GS) => some σ6))))))
def F_To_stepOrder_91  (KL5_113 : Int32 → Int32 → GS → Option (Int32 × GS)) : Nat → Int32 → Int32 → GS → Option (Int32 × GS)
  | 0, _, _, _ => none
  | n + 1, v3_5, v4_5, σL5 => if v4_5 ≤ v3_5 then KL5_113 v3_5 v4_5 σL5 else bv (F_To_exchange v3_5 v4_5 σL5) (fun (σ7 : GS) => F_To_stepOrder_91 KL5_113 n (v3_5 + 1) (v4_5 + (-1)) σ7)
def F_To_stepOrder_47 (v1_1 : Int32) (σ : GS) (KL2_73 : Int32 → Option (Int32 × GS)) : Nat → Int32 → Option (Int32 × GS)
  | 0, _ => none
  | n + 1, v2_2 => if v2_2 ≤ v1_1 then KL2_73 v2_2 else gd (iB v2_2 6) (gd (iB v1_1 6) (if (σ.1 52 v1_1.toNatClampNeg) ≤ (σ.1 52 v2_2.toNatClampNeg) then KL2_73 v2_2 else F_To_stepOrder_47 v1_1 σ KL2_73 n (v2_2 + (-1))))
def F_To_stepOrder_7 (σ : GS) (KL1_34 : Int32 → Option (Int32 × GS)) : Nat → Int32 → Option (Int32 × GS)
  | 0, _ => none
  | n + 1, v1_1 => if v1_1 < (0 : Int32) then KL1_34 v1_1 else gd (iB v1_1 6) (gd (iB (v1_1 + (1 : Int32)) 6) (if (σ.1 52 v1_1.toNatClampNeg) ≤ (σ.1 52 (v1_1 + (1 : Int32)).toNatClampNeg) then KL1_34 v1_1 else F_To_stepOrder_7 σ KL1_34 n (v1_1 + (-1))))
def F_To_stepOrder (σ : GS) : Option (Int32 × GS) :=
  jn (fun (v1_1 : Int32) => if (0 : Int32) ≤ v1_1 then jn (fun (v2_2 : Int32) => bv (F_To_exchange v1_1 v2_2 σ) (fun (σ4 : GS) => jn (fun (v3_5 : Int32) (v4_5 : Int32) (σL5 : GS) => some ((1 : Int32), σL5)) (fun KL5_113 => F_To_stepOrder_91 KL5_113 50000 (v1_1 + (1 : Int32)) ((σ4.1 50 3) - (1 : Int32)) σ4))) (fun KL2_73 => F_To_stepOrder_47 v1_1 σ KL2_73 50000 ((σ.1 50 3) - (1 : Int32))) else some ((0 : Int32), σ)) (fun KL1_34 => F_To_stepOrder_7 σ KL1_34 50000 ((σ.1 50 3) - (2 : Int32)))
def F_To_search_31  (KL3_87 : Int32 → GS → Option (GS)) : Nat → Int32 → GS → Option (GS)
  | 0, _, _ => none
  | n + 1, v1_3, σL3 => if (720 : Int32) ≤ v1_3 then KL3_87 v1_3 σL3 else bp (F_To_lengthOfOrder σL3) (fun (r5 : Int32) => jn (fun (σJ6 : GS) => bc (F_To_stepOrder σJ6) (fun (r8 : Int32) (σ9 : GS) => if r8 = (0 : Int32) then some σ9 else F_To_search_31 KL3_87 n (v1_3 + 1) σ9)) (fun J6 => if (σL3.1 50 4) ≤ r5 then J6 σL3 else jn (s1 σL3 50 4 r5) (fun (σ11 : GS) => gd (cpB (0 : Int32) (0 : Int32) (σ11.1 50 3) 6 6) (jn (cA σ11 52 53 (0 : Int32).toNatClampNeg (0 : Int32).toNatClampNeg (σ11.1 50 3).toNatClampNeg) (fun (σ12 : GS) => J6 σ12)))))
def F_To_search_2  (KL1_23 : Int32 → GS → Option (GS)) : Nat → Int32 → GS → Option (GS)
  | 0, _, _ => none
  | n + 1, v1_1, σL1 => if (σL1.1 50 3) ≤ v1_1 then KL1_23 v1_1 σL1 else gd (iB v1_1 6) (jn (s1 σL1 52 v1_1.toNatClampNeg v1_1) (fun (σ17 : GS) => F_To_search_2 KL1_23 n (v1_1 + 1) σ17))
def F_To_search (σ : GS) : Option (GS) :=
  jn (fun (v1_1 : Int32) (σL1 : GS) => jn (s1 σL1 50 4 (1000000 : Int32)) (fun (σ2 : GS) => jn (fun (v1_3 : Int32) (σL3 : GS) => some σL3) (fun KL3_87 => F_To_search_31 KL3_87 50000 (0 : Int32) σ2))) (fun KL1_23 => F_To_search_2 KL1_23 50000 (0 : Int32) σ)
def F_Tn_settle_23  (KL3_109 : Int32 → GS → Option (GS)) : Nat → Int32 → GS → Option (GS)
  | 0, _, _ => none
  | n + 1, v3_3, σL3 => if (σL3.1 19 2) ≤ v3_3 then KL3_109 v3_3 σL3 else gd (iB v3_3 5) (gd (iB v3_3 5) (jn (s1 σL3 20 v3_3.toNatClampNeg (σL3.1 16 v3_3.toNatClampNeg)) (fun (σ6 : GS) => gd (iB v3_3 5) (bv (F_Wd_becomes 32 (σ6.1 18 v3_3.toNatClampNeg) σ6) (fun (σ9 : GS) => bp (F_Wd_code 32 σ9) (fun (r11 : Int32) => gd (iB (v3_3 * (4 : Int32)) 1220) (jn (s1 σ9 21 ((v3_3 * (4 : Int32)).toNatClampNeg) r11) (fun (σ13 : GS) => gd (iB v3_3 5) (gd (iB ((v3_3 * (4 : Int32)) + (1 : Int32)) 1220) (jn (s1 σ13 21 (((v3_3 * (4 : Int32)) + (1 : Int32)).toNatClampNeg) (σ13.1 17 v3_3.toNatClampNeg)) (fun (σ16 : GS) => gd (iB ((v3_3 * (4 : Int32)) + (2 : Int32)) 1220) (jn (s1 σ16 21 (((v3_3 * (4 : Int32)) + (2 : Int32)).toNatClampNeg) (0 : Int32)) (fun (σ18 : GS) => gd (iB ((v3_3 * (4 : Int32)) + (3 : Int32)) 1220) (jn (s1 σ18 21 (((v3_3 * (4 : Int32)) + (3 : Int32)).toNatClampNeg) (0 : Int32)) (fun (σ20 : GS) => F_Tn_settle_23 KL3_109 n (v3_3 + 1) σ20)))))))))))))))
def F_Tn_settle (σ : GS) : Option (GS) :=
  jn (s1 σ 19 2 (if (0 : Int32) < (if (5 : Int32) < (σ.1 15 3) then (5 : Int32) else (σ.1 15 3)) then (if (5 : Int32) < (σ.1 15 3) then (5 : Int32) else (σ.1 15 3)) else (0 : Int32))) (fun (σ1 : GS) => jn (s1 σ1 19 3 (0 : Int32)) (fun (σ2 : GS) => jn (fun (v3_3 : Int32) (σL3 : GS) => some σL3) (fun KL3_109 => F_Tn_settle_23 KL3_109 50000 (0 : Int32) σ2)))
def F_Tn_becomes (t : Nat) (t1 : Nat) (σ : GS) : Option (GS) :=
  jn (s1 σ t 2 (σ.1 t1 2)) (fun (σ1 : GS) => jn (s1 σ1 t 3 (σ1.1 t1 3)) (fun (σ2 : GS) => gd (cpB (0 : Int32) (0 : Int32) (5 : Int32) 5 5) (jn (cA σ2 (t1 + 1) (t + 1) (0 : Int32).toNatClampNeg (0 : Int32).toNatClampNeg (5 : Int32).toNatClampNeg) (fun (σ3 : GS) => gd (cpB (0 : Int32) (0 : Int32) (1220 : Int32) 1220 1220) (jn (cA σ3 (t1 + 2) (t + 2) (0 : Int32).toNatClampNeg (0 : Int32).toNatClampNeg (1220 : Int32).toNatClampNeg) (fun (σ5 : GS) => some σ5))))))
def F_Tn_load (k : Nat) (x1 : Int32) (σ : GS) : Option (GS) :=
  if x1 < (0 : Int32) then some σ else if x1 < (σ.1 19 2) then gd (iB x1 5) (jn (s1 σ k 0 (σ.1 20 x1.toNatClampNeg)) (fun (σ2 : GS) => gd (iB (((σ.1 19 3) * (20 : Int32)) + (x1 * (4 : Int32))) 1220) (jn (s1 σ2 k 1 (σ2.1 21 (((σ.1 19 3) * (20 : Int32)) + (x1 * (4 : Int32))).toNatClampNeg)) (fun (σ4 : GS) => gd (iB ((((σ.1 19 3) * (20 : Int32)) + (x1 * (4 : Int32))) + (1 : Int32)) 1220) (jn (s1 σ4 k 2 (σ4.1 21 ((((σ.1 19 3) * (20 : Int32)) + (x1 * (4 : Int32))) + (1 : Int32)).toNatClampNeg)) (fun (σ6 : GS) => gd (iB ((((σ.1 19 3) * (20 : Int32)) + (x1 * (4 : Int32))) + (2 : Int32)) 1220) (jn (s1 σ6 k 3 (σ6.1 21 ((((σ.1 19 3) * (20 : Int32)) + (x1 * (4 : Int32))) + (2 : Int32)).toNatClampNeg)) (fun (σ8 : GS) => gd (iB ((((σ.1 19 3) * (20 : Int32)) + (x1 * (4 : Int32))) + (3 : Int32)) 1220) (jn (s1 σ8 k 4 (σ8.1 21 ((((σ.1 19 3) * (20 : Int32)) + (x1 * (4 : Int32))) + (3 : Int32)).toNatClampNeg)) (fun (σ10 : GS) => some σ10)))))))))) else some σ
def F_Tn_store (k : Nat) (x1 : Int32) (σ : GS) : Option (GS) :=
  if x1 < (0 : Int32) then some σ else if x1 < (σ.1 19 2) then gd (iB (((σ.1 19 3) * (20 : Int32)) + (x1 * (4 : Int32))) 1220) (jn (s1 σ 21 ((((σ.1 19 3) * (20 : Int32)) + (x1 * (4 : Int32))).toNatClampNeg) (σ.1 k 1)) (fun (σ2 : GS) => gd (iB ((((σ.1 19 3) * (20 : Int32)) + (x1 * (4 : Int32))) + (1 : Int32)) 1220) (jn (s1 σ2 21 (((((σ.1 19 3) * (20 : Int32)) + (x1 * (4 : Int32))) + (1 : Int32)).toNatClampNeg) (σ2.1 k 2)) (fun (σ4 : GS) => gd (iB ((((σ.1 19 3) * (20 : Int32)) + (x1 * (4 : Int32))) + (2 : Int32)) 1220) (jn (s1 σ4 21 (((((σ.1 19 3) * (20 : Int32)) + (x1 * (4 : Int32))) + (2 : Int32)).toNatClampNeg) (σ4.1 k 3)) (fun (σ6 : GS) => gd (iB ((((σ.1 19 3) * (20 : Int32)) + (x1 * (4 : Int32))) + (3 : Int32)) 1220) (jn (s1 σ6 21 (((((σ.1 19 3) * (20 : Int32)) + (x1 * (4 : Int32))) + (3 : Int32)).toNatClampNeg) (σ6.1 k 4)) (fun (σ8 : GS) => some σ8)))))))) else some σ
def F_Wd_clear (w : Nat) (σ : GS) : Option (GS) :=
  jn (s1 σ w 1 (0 : Int32)) (fun (σ1 : GS) => some σ1)
def F_Wd_lastStreets_4 (w : Nat) (σ : GS) (KL1_38 : Int32 → Int32 → Option (Int32)) : Nat → Int32 → Int32 → Option (Int32)
  | 0, _, _ => none
  | n + 1, v1_1, v2_1 => if (σ.1 w 1) ≤ v2_1 then KL1_38 v1_1 v2_1 else bp (F_Wd_canBeLast w v2_1 (-1 : Int32) σ) (fun (r3 : Int32) => if r3 = (0 : Int32) then F_Wd_lastStreets_4 w σ KL1_38 n v1_1 (v2_1 + 1) else gd (iB v2_1 64) (F_Wd_lastStreets_4 w σ KL1_38 n (v1_1 ||| ((1 : Int32) <<< ((σ.1 (w + 1) v2_1.toNatClampNeg) &&& 31))) (v2_1 + 1)))
def F_Wd_lastStreets (w : Nat) (σ : GS) : Option (Int32) :=
  jn (fun (v1_1 : Int32) (v2_1 : Int32) => some v1_1) (fun KL1_38 => F_Wd_lastStreets_4 w σ KL1_38 50000 (0 : Int32) (0 : Int32))
def F_Wk_goHome_7 (k : Nat) (r2 : Int32) (KL3_51 : Int32 → GS → Option (GS)) : Nat → Int32 → GS → Option (GS)
  | 0, _, _ => none
  | n + 1, v3_3, σL3 => if (5 : Int32) ≤ v3_3 then KL3_51 v3_3 σL3 else if ((r2 >>> (v3_3 &&& 31)) &&& (1 : Int32)) = (1 : Int32) then bv (F_Wd_go 32 v3_3 σL3) (fun (σ5 : GS) => bp (F_Wd_code 32 σ5) (fun (r7 : Int32) => jn (s1 σ5 k 1 r7) (fun (σ8 : GS) => jn (s1 σ8 k 4 ((σ8.1 k 4) + (1 : Int32))) (fun (σ9 : GS) => some σ9)))) else F_Wk_goHome_7 k r2 KL3_51 n (v3_3 + 1) σL3
def F_Wk_goHome (k : Nat) (σ : GS) : Option (GS) :=
  bp (F_Wd_lastStreets 32 σ) (fun (r2 : Int32) => jn (fun (v3_3 : Int32) (σL3 : GS) => some σL3) (fun KL3_51 => F_Wk_goHome_7 k r2 KL3_51 50000 (0 : Int32) σ))
def F_Wd_goNear (w : Nat) (x1 : Int32) (σ : GS) : Option (Int32 × GS) :=
  bv (F_Wd_go w x1 σ) (fun (σ2 : GS) => if (9 : Int32) < (σ2.1 w 1) then bv (F_Wd_go w x1 σ2) (fun (σ4 : GS) => some ((0 : Int32), σ4)) else some ((1 : Int32), σ2))
def F_Wk_isOf (x0 : Int32) (x1 : Int32) : Option (Int32) :=
  if x0 = x1 then some (1 : Int32) else if x1 = (0 : Int32) then some (1 : Int32) else jn (fun (dJ1 : Unit) => if x0 = (5 : Int32) then if x1 = (2 : Int32) then some (1 : Int32) else some (0 : Int32) else some (0 : Int32)) (fun J1 => if x0 = (4 : Int32) then if x1 = (1 : Int32) then some (1 : Int32) else J1 () else J1 ())
def F_Wk_is (k : Nat) (x1 : Int32) (σ : GS) : Option (Int32) :=
  bp (F_Wk_isOf (σ.1 k 0) x1) (fun (r2 : Int32) => gd (bB r2) (some r2))
def F_Wk_turnByTurns (k : Nat) (x1 : Int32) (σ : GS) : Option (GS) :=
  jn (fun (tJ1 : Int32) => jn (s1 σ k 2 (((σ.1 k 2) + tJ1) - ((σ.1 k 2) + tJ1) / (5 : Int32) * (5 : Int32))) (fun (σ2 : GS) => jn (s1 σ2 k 3 ((1 : Int32) - (σ2.1 k 3))) (fun (σ3 : GS) => some σ3))) (fun J1 => if (σ.1 k 3) = (0 : Int32) then J1 x1 else J1 ((5 : Int32) - x1))
def F_Wk_turn (k : Nat) (σ : GS) : Option (GS) :=
  bp (F_Wk_is k (1 : Int32) σ) (fun (r2 : Int32) => if r2 = (0 : Int32) then if (σ.1 k 0) = (2 : Int32) then bv (F_Wk_turnByTurns k (1 : Int32) σ) (fun (σ6 : GS) => some σ6) else if (σ.1 k 0) = (5 : Int32) then jn (s1 σ k 2 (((σ.1 k 2) + (1 : Int32)) - ((σ.1 k 2) + (1 : Int32)) / (5 : Int32) * (5 : Int32))) (fun (σ3 : GS) => some σ3) else some σ else bv (F_Wk_turnByTurns k (2 : Int32) σ) (fun (σ9 : GS) => some σ9))
def F_Wk_passStreet (k : Nat) (σ : GS) : Option (GS) :=
  bv (F_Wd_clear 32 σ) (fun (σ2 : GS) => bv (F_Wd_goAlong 32 (σ2.1 k 1) σ2) (fun (σ4 : GS) => if (σ4.1 k 0) = (3 : Int32) then bv (F_Wk_goHome k σ4) (fun (σ17 : GS) => some σ17) else bc (F_Wd_goNear 32 (σ4.1 k 2) σ4) (fun (r6 : Int32) (σ7 : GS) => jn (fun (σJ8 : GS) => bp (F_Wd_code 32 σJ8) (fun (r10 : Int32) => jn (s1 σJ8 k 1 r10) (fun (σ11 : GS) => bv (F_Wk_turn k σ11) (fun (σ13 : GS) => some σ13)))) (fun J8 => if r6 = (0 : Int32) then J8 σ7 else jn (s1 σ7 k 4 ((σ7.1 k 4) + (1 : Int32))) (fun (σ14 : GS) => J8 σ14)))))
def F_Wk_passHour (k : Nat) (σ : GS) : Option (GS) :=
  bv (F_Wk_passStreet k σ) (fun (σ2 : GS) => if (σ2.1 k 0) = (4 : Int32) then bv (F_Wk_passStreet k σ2) (fun (σ4 : GS) => some σ4) else some σ2)
def F_Tn_passHour_51  (KL4_82 : Int32 → GS → Option (GS)) : Nat → Int32 → GS → Option (GS)
  | 0, _, _ => none
  | n + 1, v3_4, σL4 => if (σL4.1 19 2) ≤ v3_4 then KL4_82 v3_4 σL4 else bv (F_Tn_load 34 v3_4 σL4) (fun (σ6 : GS) => bv (F_Wk_passHour 34 σ6) (fun (σ8 : GS) => bv (F_Tn_store 34 v3_4 σ8) (fun (σ10 : GS) => F_Tn_passHour_51 KL4_82 n (v3_4 + 1) σ10)))
def F_Tn_passHour (σ : GS) : Option (GS) :=
  if (σ.1 19 3) < (60 : Int32) then gd (cpB ((σ.1 19 3) * (20 : Int32)) (((σ.1 19 3) + (1 : Int32)) * (20 : Int32)) (20 : Int32) 1220 1220) (jn (cA σ 21 21 ((σ.1 19 3) * (20 : Int32)).toNatClampNeg (((σ.1 19 3) + (1 : Int32)) * (20 : Int32)).toNatClampNeg (20 : Int32).toNatClampNeg) (fun (σ1 : GS) => jn (s1 σ1 19 3 ((σ1.1 19 3) + (1 : Int32))) (fun (σ3 : GS) => jn (fun (v3_4 : Int32) (σL4 : GS) => some σL4) (fun KL4_82 => F_Tn_passHour_51 KL4_82 50000 (0 : Int32) σ3)))) else some σ
def F_Tn_placeOf (x1 : Int32) (σ : GS) : Option (Int32) :=
  gd (iB (((σ.1 19 3) * (20 : Int32)) + (x1 * (4 : Int32))) 1220) (some (σ.1 21 (((σ.1 19 3) * (20 : Int32)) + (x1 * (4 : Int32))).toNatClampNeg))
def F_Tn_othersAt_4 (x1 : Int32) (σ : GS) (KL1_39 : Int32 → Int32 → Option (Int32)) : Nat → Int32 → Int32 → Option (Int32)
  | 0, _, _ => none
  | n + 1, v2_1, v3_1 => if (σ.1 19 2) ≤ v3_1 then KL1_39 v2_1 v3_1 else if v3_1 = x1 then F_Tn_othersAt_4 x1 σ KL1_39 n v2_1 (v3_1 + 1) else bp (F_Tn_placeOf v3_1 σ) (fun (r3 : Int32) => bp (F_Tn_placeOf x1 σ) (fun (r5 : Int32) => if r3 = r5 then F_Tn_othersAt_4 x1 σ KL1_39 n (v2_1 + 1) (v3_1 + 1) else F_Tn_othersAt_4 x1 σ KL1_39 n v2_1 (v3_1 + 1)))
def F_Tn_othersAt (x1 : Int32) (σ : GS) : Option (Int32) :=
  jn (fun (v2_1 : Int32) (v3_1 : Int32) => some v2_1) (fun KL1_39 => F_Tn_othersAt_4 x1 σ KL1_39 50000 (0 : Int32) (0 : Int32))
def F_Tn_howManyAtHome_4 (σ : GS) (KL1_29 : Int32 → Int32 → Option (Int32)) : Nat → Int32 → Int32 → Option (Int32)
  | 0, _, _ => none
  | n + 1, v1_1, v2_1 => if (σ.1 19 2) ≤ v2_1 then KL1_29 v1_1 v2_1 else bp (F_Tn_placeOf v2_1 σ) (fun (r3 : Int32) => if r3 = (0 : Int32) then F_Tn_howManyAtHome_4 σ KL1_29 n (v1_1 + 1) (v2_1 + 1) else F_Tn_howManyAtHome_4 σ KL1_29 n v1_1 (v2_1 + 1))
def F_Tn_howManyAtHome (σ : GS) : Option (Int32) :=
  jn (fun (v1_1 : Int32) (v2_1 : Int32) => some v1_1) (fun KL1_29 => F_Tn_howManyAtHome_4 σ KL1_29 50000 (0 : Int32) (0 : Int32))
def F_Tn_howManyAre_4 (x1 : Int32) (σ : GS) (KL1_34 : Int32 → Int32 → Option (Int32)) : Nat → Int32 → Int32 → Option (Int32)
  | 0, _, _ => none
  | n + 1, v2_1, v3_1 => if (σ.1 19 2) ≤ v3_1 then KL1_34 v2_1 v3_1 else gd (iB v3_1 5) (bp (F_Wk_isOf (σ.1 20 v3_1.toNatClampNeg) x1) (fun (r4 : Int32) => if r4 = (0 : Int32) then F_Tn_howManyAre_4 x1 σ KL1_34 n v2_1 (v3_1 + 1) else F_Tn_howManyAre_4 x1 σ KL1_34 n (v2_1 + 1) (v3_1 + 1)))
def F_Tn_howManyAre (x1 : Int32) (σ : GS) : Option (Int32) :=
  jn (fun (v2_1 : Int32) (v3_1 : Int32) => some v2_1) (fun KL1_34 => F_Tn_howManyAre_4 x1 σ KL1_34 50000 (0 : Int32) (0 : Int32))
def F_Wd_streetAt (w : Nat) (x1 : Int32) (σ : GS) : Option (Int32) :=
  if x1 < (0 : Int32) then some (0 : Int32) else if (σ.1 w 1) ≤ x1 then some (0 : Int32) else gd (iB x1 64) (some (σ.1 (w + 1) x1.toNatClampNeg))
def F_Tr_nearestAlong_10 (w : Nat) (KL1_48 : Int32 → Int32 → GS → Option (Int32 × GS)) : Nat → Int32 → Int32 → GS → Option (Int32 × GS)
  | 0, _, _, _ => none
  | n + 1, v2_1, v3_1, σL1 => if (σL1.1 w 1) ≤ v3_1 then KL1_48 v2_1 v3_1 σL1 else bp (F_Wd_streetAt w v3_1 σL1) (fun (r3 : Int32) => bv (F_Wd_go 48 r3 σL1) (fun (σ5 : GS) => F_Tr_nearestAlong_10 w KL1_48 n (if (σ5.1 48 1) < v2_1 then (σ5.1 48 1) else v2_1) (v3_1 + 1) σ5))
def F_Tr_nearestAlong (w : Nat) (σ : GS) : Option (Int32 × GS) :=
  jn (fun (v2_1 : Int32) (v3_1 : Int32) (σL1 : GS) => some (v2_1, σL1)) (fun KL1_48 => F_Tr_nearestAlong_10 w KL1_48 50000 (σ.1 48 1) (0 : Int32) σ)
def F_Tr_nearestFromFirst_11  (KL3_36 : Int32 → GS → Option (Int32 × GS)) : Nat → Int32 → GS → Option (Int32 × GS)
  | 0, _, _ => none
  | n + 1, v2_3, σL3 => if v2_3 < (0 : Int32) then KL3_36 v2_3 σL3 else bp (F_Wd_streetAt 42 v2_3 σL3) (fun (r8 : Int32) => bv (F_Wd_go 48 r8 σL3) (fun (σ10 : GS) => F_Tr_nearestFromFirst_11 KL3_36 n (v2_3 + (-1)) σ10))
def F_Tr_nearestFromFirst (x1 : Int32) (σ : GS) : Option (Int32 × GS) :=
  bv (F_Wd_clear 48 σ) (fun (σ2 : GS) => jn (fun (v2_3 : Int32) (σL3 : GS) => bc (F_Tr_nearestAlong 44 σL3) (fun (r5 : Int32) (σ6 : GS) => some (r5, σ6))) (fun KL3_36 => F_Tr_nearestFromFirst_11 KL3_36 50000 (x1 - (1 : Int32)) σ2))
def F_Tr_nearestFromSecond_9  (KL3_41 : Int32 → GS → Option (Int32 × GS)) : Nat → Int32 → GS → Option (Int32 × GS)
  | 0, _, _ => none
  | n + 1, v2_3, σL3 => if (σL3.1 42 1) ≤ v2_3 then KL3_41 v2_3 σL3 else bp (F_Wd_streetAt 42 v2_3 σL3) (fun (r8 : Int32) => bv (F_Wd_go 48 r8 σL3) (fun (σ10 : GS) => F_Tr_nearestFromSecond_9 KL3_41 n (v2_3 + 1) σ10))
def F_Tr_nearestFromSecond (x1 : Int32) (σ : GS) : Option (Int32 × GS) :=
  bv (F_Wd_clear 48 σ) (fun (σ2 : GS) => jn (fun (v2_3 : Int32) (σL3 : GS) => bc (F_Tr_nearestAlong 46 σL3) (fun (r5 : Int32) (σ6 : GS) => some (r5, σ6))) (fun KL3_41 => F_Tr_nearestFromSecond_9 KL3_41 50000 x1 σ2))
def F_Tr_width_33  (KL7_73 : Int32 → Int32 → GS → Option (Int32 × GS)) : Nat → Int32 → Int32 → GS → Option (Int32 × GS)
  | 0, _, _, _ => none
  | n + 1, v4_7, v5_7, σL7 => if (σL7.1 42 1) < v5_7 then KL7_73 v4_7 v5_7 σL7 else bc (F_Tr_nearestFromFirst v5_7 σL7) (fun (r9 : Int32) (σ10 : GS) => bc (F_Tr_nearestFromSecond v5_7 σ10) (fun (r12 : Int32) (σ13 : GS) => F_Tr_width_33 KL7_73 n (if v4_7 < (if r12 < r9 then r12 else r9) then (if r12 < r9 then r12 else r9) else v4_7) (v5_7 + 1) σ13))
def F_Tr_width (x1 : Int32) (x2 : Int32) (x3 : Int32) (σ : GS) : Option (Int32 × GS) :=
  bv (F_Wd_becomesWay 42 x1 x2 σ) (fun (σ2 : GS) => bv (F_Wd_becomesWay 44 x1 x3 σ2) (fun (σ4 : GS) => bv (F_Wd_becomesWay 46 x2 x3 σ4) (fun (σ6 : GS) => jn (fun (v4_7 : Int32) (v5_7 : Int32) (σL7 : GS) => some (v4_7, σL7)) (fun KL7_73 => F_Tr_width_33 KL7_73 50000 (0 : Int32) (0 : Int32) σ6))))
def F_X_isRow (x0 : Int32) : Option (Int32) :=
  if x0 < (0 : Int32) then some (0 : Int32) else if (6 : Int32) ≤ x0 then some (0 : Int32) else some (1 : Int32)
def F_X_found (x1 : Int32) (σ : GS) : Option (Int32 × GS) :=
  jn (s1 σ 0 15 x1) (fun (σ1 : GS) => if x1 < (1 : Int32) then some ((-3 : Int32), σ1) else if (5 : Int32) < x1 then some ((-3 : Int32), σ1) else gd (iB x1 6) (gd (iB x1 6) (jn (s1 σ1 62 x1.toNatClampNeg ((σ1.1 62 x1.toNatClampNeg) + (1 : Int32))) (fun (σ4 : GS) => some ((-3 : Int32), σ4)))))
def F_X_renewRow (x1 : Int32) (x2 : Int32) (σ : GS) : Option (GS) :=
  gd (iB x1 6) (jn (s1 σ 8 x1.toNatClampNeg x2) (fun (σ2 : GS) => gd (iB x1 6) (bv (F_J_fillI (2 + x1.toNatClampNeg) 40 (0 : Int32) σ2) (fun (σ5 : GS) => some σ5))))
def F_X_row (x1 : Int32) (x2 : Int32) (σ : GS) : Option (Int32 × GS) :=
  bp (F_X_isRow x1) (fun (r2 : Int32) => if r2 = (0 : Int32) then some ((-1 : Int32), σ) else if x2 ≤ (40 : Int32) then if (0 : Int32) ≤ x2 then bv (F_X_renewRow x1 x2 σ) (fun (σ4 : GS) => some (x2, σ4)) else bc (F_X_found (5 : Int32) σ) (fun (r6 : Int32) (σ7 : GS) => some (r6, σ7)) else some ((-1 : Int32), σ))
def F_X_rowRefusal (x1 : Int32) (σ : GS) : Option (Int32 × GS) :=
  bp (F_X_isRow x1) (fun (r2 : Int32) => if r2 = (0 : Int32) then some ((-1 : Int32), σ) else gd (iB x1 6) (if (0 : Int32) ≤ (σ.1 8 x1.toNatClampNeg) then some ((0 : Int32), σ) else bc (F_X_found (1 : Int32) σ) (fun (r5 : Int32) (σ6 : GS) => some (r5, σ6))))
def F_X_placeRefusal (x1 : Int32) (x2 : Int32) (σ : GS) : Option (Int32 × GS) :=
  bc (F_X_rowRefusal x1 σ) (fun (r2 : Int32) (σ3 : GS) => if r2 = (0 : Int32) then jn (fun (dJ4 : Unit) => bc (F_X_found (2 : Int32) σ3) (fun (r6 : Int32) (σ7 : GS) => some (r6, σ7))) (fun J4 => if x2 < (0 : Int32) then J4 () else gd (iB x1 6) (if x2 < (σ3.1 8 x1.toNatClampNeg) then some ((0 : Int32), σ3) else J4 ())) else some (r2, σ3))
def F_X_lay (x1 : Int32) (x2 : Int32) (x3 : Int32) (σ : GS) : Option (Int32 × GS) :=
  bc (F_X_placeRefusal x1 x2 σ) (fun (r2 : Int32) (σ3 : GS) => if r2 = (0 : Int32) then gd (iB x1 6) (gd (iB x2 40) (jn (s1 σ3 0 16 (σ3.1 (2 + x1.toNatClampNeg) x2.toNatClampNeg)) (fun (σ6 : GS) => gd (iB x1 6) (gd (iB x2 40) (jn (s1 σ6 (2 + x1.toNatClampNeg) x2.toNatClampNeg x3) (fun (σ9 : GS) => some ((1 : Int32), σ9))))))) else some (r2, σ3))
def F_X_at (x1 : Int32) (x2 : Int32) (σ : GS) : Option (Int32 × GS) :=
  bc (F_X_placeRefusal x1 x2 σ) (fun (r2 : Int32) (σ3 : GS) => if r2 = (0 : Int32) then gd (iB x1 6) (gd (iB x2 40) (jn (s1 σ3 0 16 (σ3.1 (2 + x1.toNatClampNeg) x2.toNatClampNeg)) (fun (σ6 : GS) => some ((1 : Int32), σ6)))) else some (r2, σ3))
def F_X_tear (x1 : Int32) (σ : GS) : Option (Int32 × GS) :=
  bc (F_X_rowRefusal x1 σ) (fun (r2 : Int32) (σ3 : GS) => if r2 = (0 : Int32) then gd (iB x1 6) (jn (s1 σ3 8 x1.toNatClampNeg (-1 : Int32)) (fun (σ5 : GS) => some ((1 : Int32), σ5))) else some (r2, σ3))
def F_X_hasPlaces (x0 : Int32) (x1 : Int32) (x2 : Int32) : Option (Int32) :=
  if x1 < (0 : Int32) then some (0 : Int32) else if x0 < x1 then some (0 : Int32) else if (x0 - x1) < x2 then some (0 : Int32) else some (1 : Int32)
def F_X_copy (x1 : Int32) (x2 : Int32) (x3 : Int32) (x4 : Int32) (x5 : Int32) (σ : GS) : Option (Int32 × GS) :=
  bp (F_X_isRow x1) (fun (r2 : Int32) => if r2 = (0 : Int32) then some ((-1 : Int32), σ) else bp (F_X_isRow x3) (fun (r4 : Int32) => if r4 = (0 : Int32) then some ((-1 : Int32), σ) else if (0 : Int32) ≤ x5 then gd (iB x1 6) (if (σ.1 8 x1.toNatClampNeg) < (0 : Int32) then bc (F_X_found (1 : Int32) σ) (fun (r7 : Int32) (σ8 : GS) => some (r7, σ8)) else gd (iB x3 6) (if (0 : Int32) ≤ (σ.1 8 x3.toNatClampNeg) then gd (iB x1 6) (bp (F_X_hasPlaces (σ.1 8 x1.toNatClampNeg) x2 x5) (fun (r12 : Int32) => if r12 = (0 : Int32) then bc (F_X_found (2 : Int32) σ) (fun (r14 : Int32) (σ15 : GS) => some (r14, σ15)) else gd (iB x3 6) (bp (F_X_hasPlaces (σ.1 8 x3.toNatClampNeg) x4 x5) (fun (r18 : Int32) => if r18 = (0 : Int32) then bc (F_X_found (2 : Int32) σ) (fun (r24 : Int32) (σ25 : GS) => some (r24, σ25)) else gd (iB x1 6) (gd (iB x3 6) (gd (cpB x2 x4 x5 40 40) (jn (cA σ (2 + x1.toNatClampNeg) (2 + x3.toNatClampNeg) x2.toNatClampNeg x4.toNatClampNeg x5.toNatClampNeg) (fun (σ21 : GS) => some ((1 : Int32), σ21))))))))) else bc (F_X_found (1 : Int32) σ) (fun (r29 : Int32) (σ30 : GS) => some (r29, σ30)))) else bc (F_X_found (5 : Int32) σ) (fun (r34 : Int32) (σ35 : GS) => some (r34, σ35))))
def F_X_mean_35 (x1 : Int32) (u3_5 : Int32) (σ3 : GS) (KL6_62 : Int64 → Int32 → Option (Int32 × GS)) : Nat → Int64 → Int32 → Option (Int32 × GS)
  | 0, _, _ => none
  | n + 1, v4_6, v6_6 => if u3_5 ≤ v6_6 then KL6_62 v4_6 v6_6 else gd (iB x1 6) (gd (iB v6_6 40) (F_X_mean_35 x1 u3_5 σ3 KL6_62 n (v4_6 + ((σ3.1 (2 + x1.toNatClampNeg) v6_6.toNatClampNeg).toInt64)) (v6_6 + 1)))
def F_X_mean (x1 : Int32) (σ : GS) : Option (Int32 × GS) :=
  bc (F_X_rowRefusal x1 σ) (fun (r2 : Int32) (σ3 : GS) => if r2 = (0 : Int32) then gd (iB x1 6) (if (σ3.1 8 x1.toNatClampNeg) = (0 : Int32) then bc (F_X_found (4 : Int32) σ3) (fun (r12 : Int32) (σ13 : GS) => some (r12, σ13)) else jn (σ3.1 8 x1.toNatClampNeg : Int32) (fun u3_5 => jn (fun (v4_6 : Int64) (v6_6 : Int32) => gd (zL u3_5.toInt64) (jn (s1 σ3 0 16 ((v4_6 / u3_5.toInt64).toInt32)) (fun (σ7 : GS) => some ((1 : Int32), σ7)))) (fun KL6_62 => F_X_mean_35 x1 u3_5 σ3 KL6_62 50000 (0 : Int64) (0 : Int32)))) else some (r2, σ3))
def F_X_isText (x0 : Int32) : Option (Int32) :=
  if x0 < (0 : Int32) then some (0 : Int32) else if (4 : Int32) ≤ x0 then some (0 : Int32) else some (1 : Int32)
def F_J_fillB_5 (q0 : Nat) (n0 : Nat) (x1 : Int32) (u3_1 : Int32) (KL2_20 : Int32 → GS → Option (GS)) : Nat → Int32 → GS → Option (GS)
  | 0, _, _ => none
  | n + 1, v2_2, σL2 => if u3_1 ≤ v2_2 then KL2_20 v2_2 σL2 else gd (iB v2_2 n0) (jn (s1 σL2 q0 v2_2.toNatClampNeg (vp_nar .byte x1)) (fun (σ4 : GS) => F_J_fillB_5 q0 n0 x1 u3_1 KL2_20 n (v2_2 + 1) σ4))
def F_J_fillB (q0 : Nat) (n0 : Nat) (x1 : Int32) (σ : GS) : Option (GS) :=
  jn (Int32.ofNat n0 : Int32) (fun u3_1 => jn (fun (v2_2 : Int32) (σL2 : GS) => some σL2) (fun KL2_20 => F_J_fillB_5 q0 n0 x1 u3_1 KL2_20 50000 (0 : Int32) σ))
def F_X_text (x1 : Int32) (x2 : Int32) (σ : GS) : Option (Int32 × GS) :=
  bp (F_X_isText x1) (fun (r2 : Int32) => if r2 = (0 : Int32) then some ((-1 : Int32), σ) else if x2 ≤ (80 : Int32) then if (0 : Int32) ≤ x2 then gd (iB x1 4) (jn (s1 σ 14 x1.toNatClampNeg x2) (fun (σ4 : GS) => gd (iB x1 4) (bv (F_J_fillB (10 + x1.toNatClampNeg) 80 (32 : Int32) σ4) (fun (σ7 : GS) => some (x2, σ7))))) else bc (F_X_found (5 : Int32) σ) (fun (r9 : Int32) (σ10 : GS) => some (r9, σ10)) else some ((-1 : Int32), σ))
def F_X_textRefusal (x1 : Int32) (σ : GS) : Option (Int32 × GS) :=
  bp (F_X_isText x1) (fun (r2 : Int32) => if r2 = (0 : Int32) then some ((-1 : Int32), σ) else gd (iB x1 4) (if (0 : Int32) ≤ (σ.1 14 x1.toNatClampNeg) then some ((0 : Int32), σ) else bc (F_X_found (1 : Int32) σ) (fun (r5 : Int32) (σ6 : GS) => some (r5, σ6))))
def F_X_put (x1 : Int32) (x2 : Int32) (x3 : Int32) (σ : GS) : Option (Int32 × GS) :=
  bc (F_X_textRefusal x1 σ) (fun (r2 : Int32) (σ3 : GS) => if r2 = (0 : Int32) then if x2 < (0 : Int32) then bc (F_X_found (2 : Int32) σ3) (fun (r5 : Int32) (σ6 : GS) => some (r5, σ6)) else gd (iB x1 4) (if x2 < (σ3.1 14 x1.toNatClampNeg) then gd (iB x1 4) (gd (iB x2 80) (gd (iB x1 4) (gd (iB x2 80) (jn (s1 σ3 (10 + x1.toNatClampNeg) x2.toNatClampNeg (vp_nar .byte x3.toInt8.toInt32)) (fun (σ12 : GS) => some ((σ3.1 (10 + x1.toNatClampNeg) x2.toNatClampNeg) + (1000 : Int32), σ12)))))) else bc (F_X_found (2 : Int32) σ3) (fun (r14 : Int32) (σ15 : GS) => some (r14, σ15))) else some (r2, σ3))
def F_X_fault (x1 : Int32) (σ : GS) : Option (Int32 × GS) :=
  bc (F_X_textRefusal x1 σ) (fun (r2 : Int32) (σ3 : GS) => if r2 = (0 : Int32) then gd (iB x1 4) (gd (iB x1 4) (bc (F_Rd_read (10 + x1.toNatClampNeg) (σ3.1 14 x1.toNatClampNeg) σ3) (fun (r7 : Int32) (σ8 : GS) => some (r7, σ8)))) else some (r2, σ3))
def F_X_town_56  (KL11_77 : Int32 → GS → Option (Int32 × GS)) : Nat → Int32 → GS → Option (Int32 × GS)
  | 0, _, _ => none
  | n + 1, v3_11, σL11 => if (3 : Int32) ≤ v3_11 then KL11_77 v3_11 σL11 else gd (iB v3_11 3) (jn (s1 σL11 (23 + 3 * v3_11.toNatClampNeg) 2 (0 : Int32)) (fun (σ13 : GS) => F_X_town_56 KL11_77 n (v3_11 + 1) σ13))
def F_X_town (x1 : Int32) (σ : GS) : Option (Int32 × GS) :=
  bc (F_X_textRefusal x1 σ) (fun (r2 : Int32) (σ3 : GS) => if r2 = (0 : Int32) then gd (iB x1 4) (gd (iB x1 4) (bc (F_Rd_read (10 + x1.toNatClampNeg) (σ3.1 14 x1.toNatClampNeg) σ3) (fun (r7 : Int32) (σ8 : GS) => if r7 = (-9 : Int32) then bv (F_Tn_settle σ8) (fun (σ10 : GS) => jn (fun (v3_11 : Int32) (σL11 : GS) => some (σL11.1 19 2, σL11)) (fun KL11_77 => F_X_town_56 KL11_77 50000 (0 : Int32) σ10)) else some ((-4 : Int32), σ8)))) else some (r2, σ3))
def F_X_isWalker (x1 : Int32) (σ : GS) : Option (Int32) :=
  if x1 < (0 : Int32) then some (0 : Int32) else if (σ.1 19 2) ≤ x1 then some (0 : Int32) else some (1 : Int32)
def F_X_factOf (x1 : Int32) (x2 : Int32) (σ : GS) : Option (Int32 × GS) :=
  bv (F_Tn_load 34 x1 σ) (fun (σ2 : GS) => if x2 = 0 then some (σ2.1 34 0, σ2) else if x2 = 1 then some (σ2.1 34 1, σ2) else if x2 = 2 then some (σ2.1 34 2, σ2) else if x2 = 3 then some (σ2.1 34 4, σ2) else bv (F_Wd_becomes 32 (σ2.1 34 1) σ2) (fun (σ4 : GS) => some (σ4.1 32 1, σ4)))
def F_X_walker (x1 : Int32) (x2 : Int32) (σ : GS) : Option (Int32 × GS) :=
  bp (F_X_isWalker x1 σ) (fun (r2 : Int32) => if r2 = (0 : Int32) then some ((-1 : Int32), σ) else if x2 < (0 : Int32) then some ((-1 : Int32), σ) else if x2 ≤ (4 : Int32) then bc (F_X_factOf x1 x2 σ) (fun (r4 : Int32) (σ5 : GS) => jn (s1 σ5 0 16 r4) (fun (σ6 : GS) => some ((1 : Int32), σ6))) else some ((-1 : Int32), σ))
def F_X_gap (x1 : Int32) (x2 : Int32) (σ : GS) : Option (Int32 × GS) :=
  bv (F_Wd_becomesWay 32 x1 x2 σ) (fun (σ2 : GS) => some (σ2.1 32 1, σ2))
def F_X_driftOf_7 (u2_1 : Int32) (KL2_26 : Int32 → GS → Option (Int32 × GS)) : Nat → Int32 → GS → Option (Int32 × GS)
  | 0, _, _ => none
  | n + 1, v3_2, σL2 => if (4 : Int32) ≤ v3_2 then KL2_26 v3_2 σL2 else bv (F_Wk_passStreet 34 σL2) (fun (σ7 : GS) => F_X_driftOf_7 u2_1 KL2_26 n (v3_2 + 1) σ7)
def F_X_driftOf (σ : GS) : Option (Int32 × GS) :=
  jn (σ.1 34 1 : Int32) (fun u2_1 => jn (fun (v3_2 : Int32) (σL2 : GS) => bc (F_X_gap u2_1 (σL2.1 34 1) σL2) (fun (r4 : Int32) (σ5 : GS) => some (r4, σ5))) (fun KL2_26 => F_X_driftOf_7 u2_1 KL2_26 50000 (0 : Int32) σ))
def F_J_bitCount (x0 : Int32) : Option (Int32) :=
  some ((((((((x0 - (((x0.toUInt32 >>> ((1 : Int32).toUInt32 &&& Int32.toUInt32 31)).toInt32) &&& (1431655765 : Int32))) &&& (858993459 : Int32)) + ((((x0 - (((x0.toUInt32 >>> ((1 : Int32).toUInt32 &&& Int32.toUInt32 31)).toInt32) &&& (1431655765 : Int32))).toUInt32 >>> ((2 : Int32).toUInt32 &&& Int32.toUInt32 31)).toInt32) &&& (858993459 : Int32))) + (((((x0 - (((x0.toUInt32 >>> ((1 : Int32).toUInt32 &&& Int32.toUInt32 31)).toInt32) &&& (1431655765 : Int32))) &&& (858993459 : Int32)) + ((((x0 - (((x0.toUInt32 >>> ((1 : Int32).toUInt32 &&& Int32.toUInt32 31)).toInt32) &&& (1431655765 : Int32))).toUInt32 >>> ((2 : Int32).toUInt32 &&& Int32.toUInt32 31)).toInt32) &&& (858993459 : Int32))).toUInt32 >>> ((4 : Int32).toUInt32 &&& Int32.toUInt32 31)).toInt32)) &&& (252645135 : Int32)) + (((((((x0 - (((x0.toUInt32 >>> ((1 : Int32).toUInt32 &&& Int32.toUInt32 31)).toInt32) &&& (1431655765 : Int32))) &&& (858993459 : Int32)) + ((((x0 - (((x0.toUInt32 >>> ((1 : Int32).toUInt32 &&& Int32.toUInt32 31)).toInt32) &&& (1431655765 : Int32))).toUInt32 >>> ((2 : Int32).toUInt32 &&& Int32.toUInt32 31)).toInt32) &&& (858993459 : Int32))) + (((((x0 - (((x0.toUInt32 >>> ((1 : Int32).toUInt32 &&& Int32.toUInt32 31)).toInt32) &&& (1431655765 : Int32))) &&& (858993459 : Int32)) + ((((x0 - (((x0.toUInt32 >>> ((1 : Int32).toUInt32 &&& Int32.toUInt32 31)).toInt32) &&& (1431655765 : Int32))).toUInt32 >>> ((2 : Int32).toUInt32 &&& Int32.toUInt32 31)).toInt32) &&& (858993459 : Int32))).toUInt32 >>> ((4 : Int32).toUInt32 &&& Int32.toUInt32 31)).toInt32)) &&& (252645135 : Int32)).toUInt32 >>> ((8 : Int32).toUInt32 &&& Int32.toUInt32 31)).toInt32)) + ((((((((x0 - (((x0.toUInt32 >>> ((1 : Int32).toUInt32 &&& Int32.toUInt32 31)).toInt32) &&& (1431655765 : Int32))) &&& (858993459 : Int32)) + ((((x0 - (((x0.toUInt32 >>> ((1 : Int32).toUInt32 &&& Int32.toUInt32 31)).toInt32) &&& (1431655765 : Int32))).toUInt32 >>> ((2 : Int32).toUInt32 &&& Int32.toUInt32 31)).toInt32) &&& (858993459 : Int32))) + (((((x0 - (((x0.toUInt32 >>> ((1 : Int32).toUInt32 &&& Int32.toUInt32 31)).toInt32) &&& (1431655765 : Int32))) &&& (858993459 : Int32)) + ((((x0 - (((x0.toUInt32 >>> ((1 : Int32).toUInt32 &&& Int32.toUInt32 31)).toInt32) &&& (1431655765 : Int32))).toUInt32 >>> ((2 : Int32).toUInt32 &&& Int32.toUInt32 31)).toInt32) &&& (858993459 : Int32))).toUInt32 >>> ((4 : Int32).toUInt32 &&& Int32.toUInt32 31)).toInt32)) &&& (252645135 : Int32)) + (((((((x0 - (((x0.toUInt32 >>> ((1 : Int32).toUInt32 &&& Int32.toUInt32 31)).toInt32) &&& (1431655765 : Int32))) &&& (858993459 : Int32)) + ((((x0 - (((x0.toUInt32 >>> ((1 : Int32).toUInt32 &&& Int32.toUInt32 31)).toInt32) &&& (1431655765 : Int32))).toUInt32 >>> ((2 : Int32).toUInt32 &&& Int32.toUInt32 31)).toInt32) &&& (858993459 : Int32))) + (((((x0 - (((x0.toUInt32 >>> ((1 : Int32).toUInt32 &&& Int32.toUInt32 31)).toInt32) &&& (1431655765 : Int32))) &&& (858993459 : Int32)) + ((((x0 - (((x0.toUInt32 >>> ((1 : Int32).toUInt32 &&& Int32.toUInt32 31)).toInt32) &&& (1431655765 : Int32))).toUInt32 >>> ((2 : Int32).toUInt32 &&& Int32.toUInt32 31)).toInt32) &&& (858993459 : Int32))).toUInt32 >>> ((4 : Int32).toUInt32 &&& Int32.toUInt32 31)).toInt32)) &&& (252645135 : Int32)).toUInt32 >>> ((8 : Int32).toUInt32 &&& Int32.toUInt32 31)).toInt32)).toUInt32 >>> ((16 : Int32).toUInt32 &&& Int32.toUInt32 31)).toInt32)) &&& (63 : Int32))
def F_X_mark (x1 : Int32) (x2 : Int32) (σ : GS) : Option (Int32 × GS) :=
  bp (F_X_isWalker x1 σ) (fun (r2 : Int32) => if r2 = (0 : Int32) then some ((-1 : Int32), σ) else if x2 ≤ (0 : Int32) then some ((-1 : Int32), σ) else if x2 ≤ (5 : Int32) then bv (F_Tn_load 34 x1 σ) (fun (σ4 : GS) => bp (F_Wk_is 34 x2 σ4) (fun (r6 : Int32) => if r6 = (0 : Int32) then bc (F_X_found (3 : Int32) σ4) (fun (r25 : Int32) (σ26 : GS) => some (r25, σ26)) else if x2 = 1 then bv (F_Wk_turn 34 σ4) (fun (σ8 : GS) => some (σ8.1 34 2, σ8)) else if x2 = 2 then bc (F_X_driftOf σ4) (fun (r10 : Int32) (σ11 : GS) => some (r10, σ11)) else if x2 = 3 then bv (F_Wd_becomes 32 (σ4.1 34 1) σ4) (fun (σ13 : GS) => bp (F_Wd_lastStreets 32 σ13) (fun (r15 : Int32) => bp (F_J_bitCount r15) (fun (r17 : Int32) => some (r17, σ13)))) else if x2 = 4 then bv (F_Wk_passHour 34 σ4) (fun (σ19 : GS) => bv (F_Wd_becomes 32 (σ19.1 34 1) σ19) (fun (σ21 : GS) => some (σ21.1 32 1, σ21))) else bp (F_Tn_othersAt x1 σ4) (fun (r23 : Int32) => some (r23, σ4)))) else some ((-1 : Int32), σ))
def F_X_isCode_15  (KL1_41 : Int32 → Option (Int32)) : Nat → Int32 → Option (Int32)
  | 0, _ => none
  | n + 1, v1_1 => if v1_1 ≤ (0 : Int32) then KL1_41 v1_1 else bp (F_X_isStreet ((v1_1 - v1_1 / (10 : Int32) * (10 : Int32)) - (1 : Int32))) (fun (r3 : Int32) => if r3 = (0 : Int32) then some (0 : Int32) else F_X_isCode_15 KL1_41 n (v1_1 / (10 : Int32)))
def F_X_isCode (x0 : Int32) : Option (Int32) :=
  if x0 < (0 : Int32) then some (0 : Int32) else if x0 ≤ (555555555 : Int32) then jn (fun (v1_1 : Int32) => some (1 : Int32)) (fun KL1_41 => F_X_isCode_15 KL1_41 50000 x0) else some (0 : Int32)
def F_X_plainOf (x1 : Int32) (σ : GS) : Option (Int32 × GS) :=
  bv (F_Wd_becomes 32 x1 σ) (fun (σ2 : GS) => bp (F_Wd_code 32 σ2) (fun (r4 : Int32) => some (r4, σ2)))
def F_X_stand (x1 : Int32) (x2 : Int32) (σ : GS) : Option (Int32 × GS) :=
  bp (F_X_isWalker x1 σ) (fun (r2 : Int32) => if r2 = (0 : Int32) then some ((-1 : Int32), σ) else bp (F_X_isCode x2) (fun (r4 : Int32) => if r4 = (0 : Int32) then some ((-1 : Int32), σ) else bv (F_Tn_load 34 x1 σ) (fun (σ6 : GS) => bc (F_X_plainOf x2 σ6) (fun (r8 : Int32) (σ9 : GS) => jn (s1 σ9 34 1 r8) (fun (σ10 : GS) => bv (F_Tn_store 34 x1 σ10) (fun (σ12 : GS) => some (σ6.1 34 1, σ12)))))))
def F_X_head (x1 : Int32) (x2 : Int32) (σ : GS) : Option (Int32 × GS) :=
  bp (F_X_isWalker x1 σ) (fun (r2 : Int32) => if r2 = (0 : Int32) then some ((-1 : Int32), σ) else bp (F_X_isStreet x2) (fun (r4 : Int32) => if r4 = (0 : Int32) then some ((-1 : Int32), σ) else bv (F_Tn_load 34 x1 σ) (fun (σ6 : GS) => jn (s1 σ6 34 2 x2) (fun (σ7 : GS) => jn (s1 σ7 34 3 (0 : Int32)) (fun (σ8 : GS) => bv (F_Tn_store 34 x1 σ8) (fun (σ10 : GS) => some (σ6.1 34 2, σ10)))))))
def F_X_hours_44 (x1 : Int32) (KL1_70 : Int32 → GS → Option (Int32 × GS)) : Nat → Int32 → GS → Option (Int32 × GS)
  | 0, _, _ => none
  | n + 1, v2_1, σL1 => if x1 ≤ v2_1 then KL1_70 v2_1 σL1 else bv (F_Tn_passHour σL1) (fun (σ3 : GS) => F_X_hours_44 x1 KL1_70 n (v2_1 + 1) σ3)
def F_X_hours (x1 : Int32) (σ : GS) : Option (Int32 × GS) :=
  if x1 < (0 : Int32) then some ((-1 : Int32), σ) else if x1 ≤ (20 : Int32) then if (σ.1 19 2) = (0 : Int32) then some ((-4 : Int32), σ) else if ((σ.1 19 3) + x1) ≤ (60 : Int32) then jn (fun (v2_1 : Int32) (σL1 : GS) => some (σL1.1 19 3, σL1)) (fun KL1_70 => F_X_hours_44 x1 KL1_70 50000 (0 : Int32) σ) else some ((-2 : Int32), σ) else some ((-1 : Int32), σ)
def F_X_undo (x1 : Int32) (σ : GS) : Option (Int32 × GS) :=
  if x1 < (0 : Int32) then some ((-1 : Int32), σ) else if x1 ≤ (σ.1 19 3) then jn (s1 σ 19 3 x1) (fun (σ1 : GS) => some ((σ.1 19 3) - x1, σ1)) else some ((-1 : Int32), σ)
def F_X_isKeepingPlace (x0 : Int32) : Option (Int32) :=
  if x0 < (0 : Int32) then some (0 : Int32) else if (3 : Int32) ≤ x0 then some (0 : Int32) else some (1 : Int32)
def F_X_keep (x1 : Int32) (σ : GS) : Option (Int32 × GS) :=
  bp (F_X_isKeepingPlace x1) (fun (r2 : Int32) => if r2 = (0 : Int32) then some ((-1 : Int32), σ) else if (σ.1 19 2) = (0 : Int32) then some ((-4 : Int32), σ) else gd (iB x1 3) (bv (F_Tn_becomes (23 + 3 * x1.toNatClampNeg) 19 σ) (fun (σ5 : GS) => some (σ5.1 19 3, σ5))))
def F_X_on (x1 : Int32) (σ : GS) : Option (Int32 × GS) :=
  bp (F_X_isKeepingPlace x1) (fun (r2 : Int32) => if r2 = (0 : Int32) then some ((-1 : Int32), σ) else gd (iB x1 3) (if (σ.1 (23 + 3 * x1.toNatClampNeg) 2) = (0 : Int32) then bc (F_X_found (1 : Int32) σ) (fun (r8 : Int32) (σ9 : GS) => some (r8, σ9)) else gd (iB x1 3) (bv (F_Tn_becomes 19 (23 + 3 * x1.toNatClampNeg) σ) (fun (σ6 : GS) => some (σ6.1 19 3, σ6)))))
def F_X_plain (x1 : Int32) (σ : GS) : Option (Int32 × GS) :=
  bp (F_X_isCode x1) (fun (r2 : Int32) => if r2 = (0 : Int32) then some ((-1 : Int32), σ) else bc (F_X_plainOf x1 σ) (fun (r4 : Int32) (σ5 : GS) => some (r4, σ5)))
def F_X_join (x1 : Int32) (x2 : Int32) (σ : GS) : Option (Int32 × GS) :=
  bp (F_X_isCode x1) (fun (r2 : Int32) => if r2 = (0 : Int32) then some ((-1 : Int32), σ) else bp (F_X_isCode x2) (fun (r4 : Int32) => if r4 = (0 : Int32) then some ((-1 : Int32), σ) else bv (F_Wd_becomes 32 x1 σ) (fun (σ6 : GS) => bv (F_Wd_goAlong 32 x2 σ6) (fun (σ8 : GS) => bp (F_Wd_code 32 σ8) (fun (r10 : Int32) => some (r10, σ8))))))
def F_X_back (x1 : Int32) (σ : GS) : Option (Int32 × GS) :=
  bp (F_X_isCode x1) (fun (r2 : Int32) => if r2 = (0 : Int32) then some ((-1 : Int32), σ) else bv (F_Wd_clear 32 σ) (fun (σ4 : GS) => bv (F_Wd_goBackAlong 32 x1 σ4) (fun (σ6 : GS) => bp (F_Wd_code 32 σ6) (fun (r8 : Int32) => some (r8, σ6)))))
def F_X_far (x1 : Int32) (x2 : Int32) (σ : GS) : Option (Int32 × GS) :=
  bp (F_X_isCode x1) (fun (r2 : Int32) => if r2 = (0 : Int32) then some ((-1 : Int32), σ) else bp (F_X_isCode x2) (fun (r4 : Int32) => if r4 = (0 : Int32) then some ((-1 : Int32), σ) else bc (F_X_gap x1 x2 σ) (fun (r6 : Int32) (σ7 : GS) => some (r6, σ7))))
def F_X_ends (x1 : Int32) (σ : GS) : Option (Int32 × GS) :=
  bp (F_X_isCode x1) (fun (r2 : Int32) => if r2 = (0 : Int32) then some ((-1 : Int32), σ) else bv (F_Wd_becomes 32 x1 σ) (fun (σ4 : GS) => bp (F_Wd_lastStreets 32 σ4) (fun (r6 : Int32) => some (r6, σ4))))
def F_X_begins (x1 : Int32) (σ : GS) : Option (Int32 × GS) :=
  bp (F_X_isCode x1) (fun (r2 : Int32) => if r2 = (0 : Int32) then some ((-1 : Int32), σ) else bv (F_Wd_clear 32 σ) (fun (σ4 : GS) => bv (F_Wd_goBackAlong 32 x1 σ4) (fun (σ6 : GS) => bp (F_Wd_lastStreets 32 σ6) (fun (r8 : Int32) => some (r8, σ6)))))
def F_X_commonDivisor_9  (KL1_45 : Int64 → Int64 → Int32 → Option (Int64)) : Nat → Int64 → Int64 → Int32 → Option (Int64)
  | 0, _, _, _ => none
  | n + 1, v4_1, v6_1, v8_1 => if (200 : Int32) ≤ v8_1 then KL1_45 v4_1 v6_1 v8_1 else if (lg_cmp v6_1 (0 : Int64)) ≤ (0 : Int32) then KL1_45 v4_1 v6_1 v8_1 else gd (zL v6_1) (F_X_commonDivisor_9 KL1_45 n v6_1 (v4_1 - v4_1 / v6_1 * v6_1) (v8_1 + 1))
def F_X_commonDivisor (x0 : Int64) (x2 : Int64) : Option (Int64) :=
  jn (fun (v4_1 : Int64) (v6_1 : Int64) (v8_1 : Int32) => some v4_1) (fun KL1_45 => F_X_commonDivisor_9 KL1_45 50000 x0 x2 (0 : Int32))
def F_X_tell (x1 : Int64) (x3 : Int64) (σ : GS) : Option (Int32 × GS) :=
  bp (F_X_commonDivisor x1 x3) (fun (r2 : Int64) => if (lg_cmp r2 (0 : Int64)) ≤ (0 : Int32) then some ((1 : Int32), σ) else gd (zL r2) (jn (s2 σ 0 17 (x1 / r2)) (fun (σ3 : GS) => gd (zL r2) (jn (s2 σ3 0 18 (x3 / r2)) (fun (σ4 : GS) => some ((1 : Int32), σ4))))))
def F_X_ways (x1 : Int32) (x2 : Int32) (σ : GS) : Option (Int32 × GS) :=
  bp (F_X_isCode x1) (fun (r2 : Int32) => if r2 = (0 : Int32) then some ((-1 : Int32), σ) else bp (F_X_isCode x2) (fun (r4 : Int32) => if r4 = (0 : Int32) then some ((-1 : Int32), σ) else bv (F_Wd_becomesWay 32 x1 x2 σ) (fun (σ6 : GS) => bv (F_Id_tally σ6) (fun (σ8 : GS) => bc (F_X_tell (σ8.2 36 5) (1 : Int64) σ8) (fun (r10 : Int32) (σ11 : GS) => some (r10, σ11))))))
def F_X_between (x1 : Int32) (x2 : Int32) (σ : GS) : Option (Int32 × GS) :=
  bp (F_X_isCode x1) (fun (r2 : Int32) => if r2 = (0 : Int32) then some ((-1 : Int32), σ) else bp (F_X_isCode x2) (fun (r4 : Int32) => if r4 = (0 : Int32) then some ((-1 : Int32), σ) else bv (F_Wd_becomesWay 32 x1 x2 σ) (fun (σ6 : GS) => bv (F_Id_tally σ6) (fun (σ8 : GS) => some (σ8.1 36 6, σ8)))))
def F_X_lies (x1 : Int32) (x2 : Int32) (x3 : Int32) (σ : GS) : Option (Int32 × GS) :=
  bp (F_X_isCode x1) (fun (r2 : Int32) => if r2 = (0 : Int32) then some ((-1 : Int32), σ) else bp (F_X_isCode x2) (fun (r4 : Int32) => if r4 = (0 : Int32) then some ((-1 : Int32), σ) else bp (F_X_isCode x3) (fun (r6 : Int32) => if r6 = (0 : Int32) then some ((-1 : Int32), σ) else bc (F_X_gap x1 x3 σ) (fun (r8 : Int32) (σ9 : GS) => bc (F_X_gap x3 x2 σ9) (fun (r11 : Int32) (σ12 : GS) => bc (F_X_gap x1 x2 σ12) (fun (r14 : Int32) (σ15 : GS) => if (r8 + r11) = r14 then some ((1 : Int32), σ15) else some ((0 : Int32), σ15)))))))
def F_X_path_47 (x3 : Int32) (KL11_82 : Int32 → GS → Option (Int32 × GS)) : Nat → Int32 → GS → Option (Int32 × GS)
  | 0, _, _ => none
  | n + 1, v4_11, σL11 => gd (iB x3 6) (if (σL11.1 8 x3.toNatClampNeg) ≤ v4_11 then KL11_82 v4_11 σL11 else gd (iB x3 6) (bp (F_Wd_streetAt 32 v4_11 σL11) (fun (r15 : Int32) => gd (iB v4_11 40) (jn (s1 σL11 (2 + x3.toNatClampNeg) v4_11.toNatClampNeg r15) (fun (σ17 : GS) => F_X_path_47 x3 KL11_82 n (v4_11 + 1) σ17)))))
def F_X_path (x1 : Int32) (x2 : Int32) (x3 : Int32) (σ : GS) : Option (Int32 × GS) :=
  bp (F_X_isCode x1) (fun (r2 : Int32) => if r2 = (0 : Int32) then some ((-1 : Int32), σ) else bp (F_X_isCode x2) (fun (r4 : Int32) => if r4 = (0 : Int32) then some ((-1 : Int32), σ) else bp (F_X_isRow x3) (fun (r6 : Int32) => if r6 = (0 : Int32) then some ((-1 : Int32), σ) else bv (F_Wd_becomesWay 32 x1 x2 σ) (fun (σ8 : GS) => bv (F_X_renewRow x3 (σ8.1 32 1) σ8) (fun (σ10 : GS) => jn (fun (v4_11 : Int32) (σL11 : GS) => some (σL11.1 32 1, σL11)) (fun KL11_82 => F_X_path_47 x3 KL11_82 50000 (0 : Int32) σ10))))))
def F_X_thin (x1 : Int32) (x2 : Int32) (x3 : Int32) (σ : GS) : Option (Int32 × GS) :=
  bp (F_X_isCode x1) (fun (r2 : Int32) => if r2 = (0 : Int32) then some ((-1 : Int32), σ) else bp (F_X_isCode x2) (fun (r4 : Int32) => if r4 = (0 : Int32) then some ((-1 : Int32), σ) else bp (F_X_isCode x3) (fun (r6 : Int32) => if r6 = (0 : Int32) then some ((-1 : Int32), σ) else bc (F_Tr_width x1 x2 x3 σ) (fun (r8 : Int32) (σ9 : GS) => some (r8, σ9)))))
def F_X_crossingsAt_23 (x0 : Int32) (KL1_49 : Int64 → Int64 → Int32 → Option (Int64)) : Nat → Int64 → Int64 → Int32 → Option (Int64)
  | 0, _, _, _ => none
  | n + 1, v1_1, v3_1, v5_1 => if x0 ≤ v5_1 then KL1_49 v1_1 v3_1 v5_1 else F_X_crossingsAt_23 x0 KL1_49 n v3_1 (((3 : Int64) * v3_1) - v1_1) (v5_1 + 1)
def F_X_crossingsAt (x0 : Int32) : Option (Int64) :=
  if (0 : Int32) < x0 then jn (fun (v1_1 : Int64) (v3_1 : Int64) (v5_1 : Int32) => some v3_1) (fun KL1_49 => F_X_crossingsAt_23 x0 KL1_49 50000 (0 : Int64) (5 : Int64) (1 : Int32)) else if x0 = (0 : Int32) then some (1 : Int64) else some (0 : Int64)
def F_X_ring (x1 : Int32) (σ : GS) : Option (Int32 × GS) :=
  if x1 < (0 : Int32) then some ((-1 : Int32), σ) else if x1 ≤ (30 : Int32) then bp (F_X_crossingsAt x1) (fun (r2 : Int64) => bc (F_X_tell r2 (1 : Int64) σ) (fun (r4 : Int32) (σ5 : GS) => some (r4, σ5))) else some ((-1 : Int32), σ)
def F_X_crossingsUpTo_4 (x0 : Int32) (KL1_22 : Int64 → Int32 → Option (Int64)) : Nat → Int64 → Int32 → Option (Int64)
  | 0, _, _ => none
  | n + 1, v1_1, v3_1 => if x0 < v3_1 then KL1_22 v1_1 v3_1 else bp (F_X_crossingsAt v3_1) (fun (r3 : Int64) => F_X_crossingsUpTo_4 x0 KL1_22 n (v1_1 + r3) (v3_1 + 1))
def F_X_crossingsUpTo (x0 : Int32) : Option (Int64) :=
  jn (fun (v1_1 : Int64) (v3_1 : Int32) => some v1_1) (fun KL1_22 => F_X_crossingsUpTo_4 x0 KL1_22 50000 (0 : Int64) (0 : Int32))
def F_X_within (x1 : Int32) (σ : GS) : Option (Int32 × GS) :=
  if x1 < (0 : Int32) then some ((-1 : Int32), σ) else if x1 ≤ (30 : Int32) then bp (F_X_crossingsUpTo x1) (fun (r2 : Int64) => bc (F_X_tell r2 (1 : Int64) σ) (fun (r4 : Int32) (σ5 : GS) => some (r4, σ5))) else some ((-1 : Int32), σ)
def F_X_edge (x1 : Int32) (σ : GS) : Option (Int32 × GS) :=
  if x1 < (0 : Int32) then some ((-1 : Int32), σ) else if x1 ≤ (30 : Int32) then bp (F_X_crossingsAt x1) (fun (r2 : Int64) => bp (F_X_crossingsUpTo x1) (fun (r4 : Int64) => bc (F_X_tell r2 r4 σ) (fun (r6 : Int32) (σ7 : GS) => some (r6, σ7)))) else some ((-1 : Int32), σ)
def F_X_crossingsNotBy1_4 (x0 : Int32) (KL1_22 : Int64 → Int32 → Option (Int64)) : Nat → Int64 → Int32 → Option (Int64)
  | 0, _, _ => none
  | n + 1, v1_1, v3_1 => if x0 < v3_1 then KL1_22 v1_1 v3_1 else bp (F_X_crossingsAt v3_1) (fun (r3 : Int64) => F_X_crossingsNotBy1_4 x0 KL1_22 n (r3 - v1_1) (v3_1 + 1))
def F_X_crossingsNotBy1 (x0 : Int32) : Option (Int64) :=
  jn (fun (v1_1 : Int64) (v3_1 : Int32) => some v1_1) (fun KL1_22 => F_X_crossingsNotBy1_4 x0 KL1_22 50000 (0 : Int64) (0 : Int32))
def F_X_crossingsNotBy2_6 (x0 : Int32) (KL1_35 : Int64 → Int32 → Option (Int64)) : Nat → Int64 → Int32 → Option (Int64)
  | 0, _, _ => none
  | n + 1, v1_1, v3_1 => if x0 < v3_1 then KL1_35 v1_1 v3_1 else bp (F_X_crossingsAt v3_1) (fun (r3 : Int64) => bp (F_X_crossingsNotBy1 (v3_1 - (1 : Int32))) (fun (r5 : Int64) => F_X_crossingsNotBy2_6 x0 KL1_35 n ((r3 - ((2 : Int64) * r5)) + v1_1) (v3_1 + 2)))
def F_X_crossingsNotBy2 (x0 : Int32) : Option (Int64) :=
  jn (fun (v1_1 : Int64) (v3_1 : Int32) => some v1_1) (fun KL1_35 => F_X_crossingsNotBy2_6 x0 KL1_35 50000 (0 : Int64) (x0 - x0 / (2 : Int32) * (2 : Int32)))
def F_X_beyond (x1 : Int32) (x2 : Int32) (σ : GS) : Option (Int32 × GS) :=
  bp (F_X_isCode x1) (fun (r2 : Int32) => if r2 = (0 : Int32) then some ((-1 : Int32), σ) else if x2 < (0 : Int32) then some ((-1 : Int32), σ) else if x2 ≤ (20 : Int32) then bv (F_Wd_becomes 32 x1 σ) (fun (σ4 : GS) => bp (F_Wd_lastStreets 32 σ4) (fun (r6 : Int32) => bp (F_J_bitCount r6) (fun (r8 : Int32) => if r8 = (0 : Int32) then bp (F_X_crossingsAt x2) (fun (r21 : Int64) => bc (F_X_tell r21 (1 : Int64) σ4) (fun (r23 : Int32) (σ24 : GS) => some (r23, σ24))) else if r8 = (1 : Int32) then bp (F_X_crossingsNotBy1 x2) (fun (r15 : Int64) => bc (F_X_tell r15 (1 : Int64) σ4) (fun (r17 : Int32) (σ18 : GS) => some (r17, σ18))) else bp (F_X_crossingsNotBy2 x2) (fun (r10 : Int64) => bc (F_X_tell r10 (1 : Int64) σ4) (fun (r12 : Int32) (σ13 : GS) => some (r12, σ13)))))) else some ((-1 : Int32), σ))
def F_X_houses_17 (x1 : Int32) (σ : GS) (KL1_41 : Int64 → Int32 → Option (Int32 × GS)) : Nat → Int64 → Int32 → Option (Int32 × GS)
  | 0, _, _ => none
  | n + 1, v2_1, v4_1 => if x1 < v4_1 then KL1_41 v2_1 v4_1 else bp (F_X_crossingsNotBy2 v4_1) (fun (r6 : Int64) => F_X_houses_17 x1 σ KL1_41 n (v2_1 + ((5 : Int64) * r6)) (v4_1 + 1))
def F_X_houses (x1 : Int32) (σ : GS) : Option (Int32 × GS) :=
  if x1 < (0 : Int32) then some ((-1 : Int32), σ) else if x1 ≤ (20 : Int32) then jn (fun (v2_1 : Int64) (v4_1 : Int32) => bc (F_X_tell v2_1 (1 : Int64) σ) (fun (r3 : Int32) (σ4 : GS) => some (r3, σ4))) (fun KL1_41 => F_X_houses_17 x1 σ KL1_41 50000 (0 : Int64) (0 : Int32)) else some ((-1 : Int32), σ)
def F_X_streetsRefusal_14 (x1 : Int32) (KL4_50 : Int32 → GS → Option (Int32 × GS)) : Nat → Int32 → GS → Option (Int32 × GS)
  | 0, _, _ => none
  | n + 1, v3_4, σL4 => gd (iB x1 6) (if (σL4.1 8 x1.toNatClampNeg) ≤ v3_4 then KL4_50 v3_4 σL4 else gd (iB x1 6) (gd (iB v3_4 40) (bp (F_X_isStreet (σL4.1 (2 + x1.toNatClampNeg) v3_4.toNatClampNeg)) (fun (r9 : Int32) => if r9 = (0 : Int32) then bc (F_X_found (3 : Int32) σL4) (fun (r11 : Int32) (σ12 : GS) => some (r11, σ12)) else F_X_streetsRefusal_14 x1 KL4_50 n (v3_4 + 1) σL4))))
def F_X_streetsRefusal (x1 : Int32) (σ : GS) : Option (Int32 × GS) :=
  bc (F_X_rowRefusal x1 σ) (fun (r2 : Int32) (σ3 : GS) => if r2 = (0 : Int32) then jn (fun (v3_4 : Int32) (σL4 : GS) => some ((0 : Int32), σL4)) (fun KL4_50 => F_X_streetsRefusal_14 x1 KL4_50 50000 (0 : Int32) σ3) else some (r2, σ3))
def F_X_walk_21 (x1 : Int32) (KL6_52 : Int32 → GS → Option (Int32 × GS)) : Nat → Int32 → GS → Option (Int32 × GS)
  | 0, _, _ => none
  | n + 1, v3_6, σL6 => gd (iB x1 6) (if (σL6.1 8 x1.toNatClampNeg) ≤ v3_6 then KL6_52 v3_6 σL6 else gd (iB x1 6) (gd (iB v3_6 40) (bv (F_Wd_go 32 (σL6.1 (2 + x1.toNatClampNeg) v3_6.toNatClampNeg) σL6) (fun (σ16 : GS) => F_X_walk_21 x1 KL6_52 n (v3_6 + 1) σ16))))
def F_X_walk (x1 : Int32) (σ : GS) : Option (Int32 × GS) :=
  bc (F_X_streetsRefusal x1 σ) (fun (r2 : Int32) (σ3 : GS) => if r2 = (0 : Int32) then bv (F_Wd_clear 32 σ3) (fun (σ5 : GS) => jn (fun (v3_6 : Int32) (σL6 : GS) => if (σL6.1 32 1) ≤ (9 : Int32) then gd (iB x1 6) (jn (s1 σL6 0 16 ((σL6.1 8 x1.toNatClampNeg) - (σL6.1 32 1))) (fun (σ8 : GS) => bp (F_Wd_code 32 σ8) (fun (r10 : Int32) => some (r10, σ8)))) else some ((-6 : Int32), σL6)) (fun KL6_52 => F_X_walk_21 x1 KL6_52 50000 (0 : Int32) σ5)) else some (r2, σ3))
def F_X_reaches_27 (x1 : Int32) (KL6_85 : Int32 → Int32 → Int32 → GS → Option (Int32 × GS)) : Nat → Int32 → Int32 → Int32 → GS → Option (Int32 × GS)
  | 0, _, _, _, _ => none
  | n + 1, v3_6, v4_6, v5_6, σL6 => gd (iB x1 6) (if (σL6.1 8 x1.toNatClampNeg) ≤ v5_6 then KL6_85 v3_6 v4_6 v5_6 σL6 else gd (iB x1 6) (gd (iB v5_6 40) (bv (F_Wd_go 32 (σL6.1 (2 + x1.toNatClampNeg) v5_6.toNatClampNeg) σL6) (fun (σ12 : GS) => if (σ12.1 32 1) ≤ v3_6 then F_X_reaches_27 x1 KL6_85 n v3_6 v4_6 (v5_6 + 1) σ12 else F_X_reaches_27 x1 KL6_85 n (σ12.1 32 1) (v5_6 + (1 : Int32)) (v5_6 + 1) σ12))))
def F_X_reaches (x1 : Int32) (σ : GS) : Option (Int32 × GS) :=
  bc (F_X_streetsRefusal x1 σ) (fun (r2 : Int32) (σ3 : GS) => if r2 = (0 : Int32) then bv (F_Wd_clear 32 σ3) (fun (σ5 : GS) => jn (fun (v3_6 : Int32) (v4_6 : Int32) (v5_6 : Int32) (σL6 : GS) => jn (s1 σL6 0 16 v4_6) (fun (σ7 : GS) => some (v3_6, σ7))) (fun KL6_85 => F_X_reaches_27 x1 KL6_85 50000 (0 : Int32) (0 : Int32) (0 : Int32) σ5)) else some (r2, σ3))
def F_X_comesAgain_9 (x1 : Int32) (KL3_52 : Int32 → GS → Option (Int32 × GS)) : Nat → Int32 → GS → Option (Int32 × GS)
  | 0, _, _ => none
  | n + 1, v3_3, σL3 => gd (iB x1 6) (if (σL3.1 8 x1.toNatClampNeg) ≤ v3_3 then KL3_52 v3_3 σL3 else gd (iB x1 6) (gd (iB v3_3 40) (bv (F_Wd_go 32 (σL3.1 (2 + x1.toNatClampNeg) v3_3.toNatClampNeg) σL3) (fun (σ8 : GS) => if (σ8.1 32 1) = (0 : Int32) then some ((1 : Int32), σ8) else F_X_comesAgain_9 x1 KL3_52 n (v3_3 + 1) σ8))))
def F_X_comesAgain (x1 : Int32) (x2 : Int32) (σ : GS) : Option (Int32 × GS) :=
  bv (F_Wd_clear 32 σ) (fun (σ2 : GS) => jn (fun (v3_3 : Int32) (σL3 : GS) => some ((0 : Int32), σL3)) (fun KL3_52 => F_X_comesAgain_9 x1 KL3_52 50000 x2 σ2))
def F_X_sees_17 (x1 : Int32) (KL4_47 : Int32 → Int32 → GS → Option (Int32 × GS)) : Nat → Int32 → Int32 → GS → Option (Int32 × GS)
  | 0, _, _, _ => none
  | n + 1, v3_4, v4_4, σL4 => gd (iB x1 6) (if (σL4.1 8 x1.toNatClampNeg) < v4_4 then KL4_47 v3_4 v4_4 σL4 else bc (F_X_comesAgain x1 v4_4 σL4) (fun (r7 : Int32) (σ8 : GS) => if r7 = (0 : Int32) then F_X_sees_17 x1 KL4_47 n (v3_4 + 1) (v4_4 + 1) σ8 else F_X_sees_17 x1 KL4_47 n v3_4 (v4_4 + 1) σ8))
def F_X_sees (x1 : Int32) (σ : GS) : Option (Int32 × GS) :=
  bc (F_X_streetsRefusal x1 σ) (fun (r2 : Int32) (σ3 : GS) => if r2 = (0 : Int32) then jn (fun (v3_4 : Int32) (v4_4 : Int32) (σL4 : GS) => some (v3_4, σL4)) (fun KL4_47 => F_X_sees_17 x1 KL4_47 50000 (0 : Int32) (0 : Int32) σ3) else some (r2, σ3))
def F_X_codesRefusal_31 (x1 : Int32) (KL5_69 : Int32 → GS → Option (Int32 × GS)) : Nat → Int32 → GS → Option (Int32 × GS)
  | 0, _, _ => none
  | n + 1, v4_5, σL5 => gd (iB x1 6) (if (σL5.1 8 x1.toNatClampNeg) ≤ v4_5 then KL5_69 v4_5 σL5 else gd (iB x1 6) (gd (iB v4_5 40) (bp (F_X_isCode (σL5.1 (2 + x1.toNatClampNeg) v4_5.toNatClampNeg)) (fun (r10 : Int32) => if r10 = (0 : Int32) then bc (F_X_found (3 : Int32) σL5) (fun (r12 : Int32) (σ13 : GS) => some (r12, σ13)) else F_X_codesRefusal_31 x1 KL5_69 n (v4_5 + 1) σL5))))
def F_X_codesRefusal (x1 : Int32) (x2 : Int32) (σ : GS) : Option (Int32 × GS) :=
  bc (F_X_rowRefusal x1 σ) (fun (r2 : Int32) (σ3 : GS) => if r2 = (0 : Int32) then gd (iB x1 6) (if (σ3.1 8 x1.toNatClampNeg) ≤ x2 then jn (fun (v4_5 : Int32) (σL5 : GS) => some ((0 : Int32), σL5)) (fun KL5_69 => F_X_codesRefusal_31 x1 KL5_69 50000 (0 : Int32) σ3) else bc (F_X_found (5 : Int32) σ3) (fun (r17 : Int32) (σ18 : GS) => some (r17, σ18))) else some (r2, σ3))
def F_X_round_67 (x2 : Int32) (u4_14 : Int32) (KL15_99 : Int32 → GS → Option (Int32 × GS)) : Nat → Int32 → GS → Option (Int32 × GS)
  | 0, _, _ => none
  | n + 1, v5_15, σL15 => if u4_14 ≤ v5_15 then KL15_99 v5_15 σL15 else gd (iB x2 6) (gd (iB v5_15 6) (gd (iB v5_15 40) (jn (s1 σL15 (2 + x2.toNatClampNeg) v5_15.toNatClampNeg (σL15.1 53 v5_15.toNatClampNeg)) (fun (σ19 : GS) => F_X_round_67 x2 u4_14 KL15_99 n (v5_15 + 1) σ19))))
def F_X_round (x1 : Int32) (x2 : Int32) (σ : GS) : Option (Int32 × GS) :=
  bp (F_X_isRow x2) (fun (r2 : Int32) => if r2 = (0 : Int32) then some ((-1 : Int32), σ) else bc (F_X_codesRefusal x1 (6 : Int32) σ) (fun (r4 : Int32) (σ5 : GS) => if r4 = (0 : Int32) then gd (iB x1 6) (gd (iB x1 6) (bv (F_To_measure (2 + x1.toNatClampNeg) (σ5.1 8 x1.toNatClampNeg) σ5) (fun (σ9 : GS) => bv (F_To_search σ9) (fun (σ11 : GS) => bv (F_X_renewRow x2 (σ5.1 8 x1.toNatClampNeg) σ11) (fun (σ13 : GS) => jn (σ5.1 8 x1.toNatClampNeg : Int32) (fun u4_14 => jn (fun (v5_15 : Int32) (σL15 : GS) => some (σL15.1 50 4, σL15)) (fun KL15_99 => F_X_round_67 x2 u4_14 KL15_99 50000 (0 : Int32) σ13))))))) else some (r4, σ5)))
def F_X_post_67 (x1 : Int32) (v3_6 : Int32) (v4_6 : Int32) (v5_6 : Int32) (KL9_112 : Int32 → Int32 → GS → Option (Int32 × GS)) : Nat → Int32 → Int32 → GS → Option (Int32 × GS)
  | 0, _, _, _ => none
  | n + 1, v6_9, v7_9, σL9 => gd (iB x1 6) (if (σL9.1 8 x1.toNatClampNeg) ≤ v7_9 then KL9_112 v6_9 v7_9 σL9 else gd (iB v5_6 166) (gd (iB x1 6) (gd (iB v7_9 40) (bc (F_X_gap (σL9.1 55 v5_6.toNatClampNeg) (σL9.1 (2 + x1.toNatClampNeg) v7_9.toNatClampNeg) σL9) (fun (r17 : Int32) (σ18 : GS) => F_X_post_67 x1 v3_6 v4_6 v5_6 KL9_112 n (v6_9 + r17) (v7_9 + 1) σ18)))))
def F_X_post_35 (x1 : Int32) (KL6_140 : Int32 → Int32 → Int32 → GS → Option (Int32 × GS)) : Nat → Int32 → Int32 → Int32 → GS → Option (Int32 × GS)
  | 0, _, _, _, _ => none
  | n + 1, v3_6, v4_6, v5_6, σL6 => if (σL6.1 54 9) ≤ v5_6 then KL6_140 v3_6 v4_6 v5_6 σL6 else gd (iB v5_6 166) (if (3 : Int32) < (σL6.1 56 v5_6.toNatClampNeg) then KL6_140 v3_6 v4_6 v5_6 σL6 else jn (fun (v6_9 : Int32) (v7_9 : Int32) (σL9 : GS) => if v4_6 ≤ v6_9 then F_X_post_35 x1 KL6_140 n v3_6 v4_6 (v5_6 + 1) σL9 else gd (iB v5_6 166) (F_X_post_35 x1 KL6_140 n (σL9.1 55 v5_6.toNatClampNeg) v6_9 (v5_6 + 1) σL9)) (fun KL9_112 => F_X_post_67 x1 v3_6 v4_6 v5_6 KL9_112 50000 (0 : Int32) (0 : Int32) σL6))
def F_X_post (x1 : Int32) (σ : GS) : Option (Int32 × GS) :=
  bc (F_X_codesRefusal x1 (20 : Int32) σ) (fun (r2 : Int32) (σ3 : GS) => if r2 = (0 : Int32) then bv (F_Qu_survey σ3) (fun (σ5 : GS) => jn (fun (v3_6 : Int32) (v4_6 : Int32) (v5_6 : Int32) (σL6 : GS) => jn (s1 σL6 0 16 v4_6) (fun (σ7 : GS) => some (v3_6, σ7))) (fun KL6_140 => F_X_post_35 x1 KL6_140 50000 (0 : Int32) (1000000 : Int32) (0 : Int32) σ5)) else some (r2, σ3))
def F_X_postGuards_21 (x1 : Int32) (KL4_56 : Int32 → GS → Option (GS)) : Nat → Int32 → GS → Option (GS)
  | 0, _, _ => none
  | n + 1, v2_4, σL4 => gd (iB x1 6) (if (σL4.1 8 x1.toNatClampNeg) ≤ v2_4 then KL4_56 v2_4 σL4 else gd (iB x1 6) (gd (iB v2_4 40) (bc (F_X_plainOf (σL4.1 (2 + x1.toNatClampNeg) v2_4.toNatClampNeg) σL4) (fun (r9 : Int32) (σ10 : GS) => bv (F_Qu_addGuard r9 σ10) (fun (σ12 : GS) => F_X_postGuards_21 x1 KL4_56 n (v2_4 + 1) σ12)))))
def F_X_postGuards (x1 : Int32) (σ : GS) : Option (GS) :=
  bv (F_Qu_survey σ) (fun (σ2 : GS) => jn (s1 σ2 54 8 (0 : Int32)) (fun (σ3 : GS) => jn (fun (v2_4 : Int32) (σL4 : GS) => some σL4) (fun KL4_56 => F_X_postGuards_21 x1 KL4_56 50000 (0 : Int32) σ3)))
def F_X_burns (x1 : Int32) (x2 : Int32) (σ : GS) : Option (Int32 × GS) :=
  if x2 < (0 : Int32) then some ((-1 : Int32), σ) else if x2 ≤ (4 : Int32) then bc (F_X_codesRefusal x1 (20 : Int32) σ) (fun (r2 : Int32) (σ3 : GS) => if r2 = (0 : Int32) then bv (F_X_postGuards x1 σ3) (fun (σ5 : GS) => bc (F_Qu_burn (-9 : Int32) x2 σ5) (fun (r7 : Int32) (σ8 : GS) => some (r7, σ8))) else some (r2, σ3)) else some ((-1 : Int32), σ)
def F_X_held (x1 : Int32) (σ : GS) : Option (Int32 × GS) :=
  bc (F_X_codesRefusal x1 (20 : Int32) σ) (fun (r2 : Int32) (σ3 : GS) => if r2 = (0 : Int32) then bv (F_X_postGuards x1 σ3) (fun (σ5 : GS) => bc (F_Qu_burn (-9 : Int32) (4 : Int32) σ5) (fun (r7 : Int32) (σ8 : GS) => jn (s1 σ8 0 16 r7) (fun (σ9 : GS) => bp (F_Qu_edgeBurns σ9) (fun (r11 : Int32) => if r11 = (0 : Int32) then some ((1 : Int32), σ9) else some ((0 : Int32), σ9))))) else some (r2, σ3))
def F_X_idle_33 (x1 : Int32) (r7 : Int32) (KL9_67 : Int32 → GS → Option (Int32 × GS)) : Nat → Int32 → GS → Option (Int32 × GS)
  | 0, _, _ => none
  | n + 1, v4_9, σL9 => gd (iB x1 6) (if (σL9.1 8 x1.toNatClampNeg) ≤ v4_9 then KL9_67 v4_9 σL9 else bc (F_Qu_burn v4_9 (4 : Int32) σL9) (fun (r12 : Int32) (σ13 : GS) => if r12 = r7 then some (v4_9, σ13) else F_X_idle_33 x1 r7 KL9_67 n (v4_9 + 1) σ13))
def F_X_idle (x1 : Int32) (σ : GS) : Option (Int32 × GS) :=
  bc (F_X_codesRefusal x1 (20 : Int32) σ) (fun (r2 : Int32) (σ3 : GS) => if r2 = (0 : Int32) then bv (F_X_postGuards x1 σ3) (fun (σ5 : GS) => bc (F_Qu_burn (-9 : Int32) (4 : Int32) σ5) (fun (r7 : Int32) (σ8 : GS) => jn (fun (v4_9 : Int32) (σL9 : GS) => some ((-9 : Int32), σL9)) (fun KL9_67 => F_X_idle_33 x1 r7 KL9_67 50000 (0 : Int32) σ8))) else some (r2, σ3))
def F_X_meet_49  (KL9_113 : Int32 → GS → Option (Int32 × GS)) : Nat → Int32 → GS → Option (Int32 × GS)
  | 0, _, _ => none
  | n + 1, v3_9, σL9 => if (40 : Int32) < v3_9 then KL9_113 v3_9 σL9 else if (σL9.1 34 1) = (σL9.1 35 1) then jn (s1 σL9 0 16 (σL9.1 34 1)) (fun (σ14 : GS) => some (v3_9, σ14)) else bv (F_Wk_passHour 34 σL9) (fun (σ11 : GS) => bv (F_Wk_passHour 35 σ11) (fun (σ13 : GS) => F_X_meet_49 KL9_113 n (v3_9 + 1) σ13))
def F_X_meet (x1 : Int32) (x2 : Int32) (σ : GS) : Option (Int32 × GS) :=
  bp (F_X_isWalker x1 σ) (fun (r2 : Int32) => if r2 = (0 : Int32) then some ((-1 : Int32), σ) else bp (F_X_isWalker x2 σ) (fun (r4 : Int32) => if r4 = (0 : Int32) then some ((-1 : Int32), σ) else if x1 = x2 then some ((-1 : Int32), σ) else bv (F_Tn_load 34 x1 σ) (fun (σ6 : GS) => bv (F_Tn_load 35 x2 σ6) (fun (σ8 : GS) => jn (fun (v3_9 : Int32) (σL9 : GS) => some ((-9 : Int32), σL9)) (fun KL9_113 => F_X_meet_49 KL9_113 50000 (0 : Int32) σ8)))))
def F_X_part_60 (x3 : Int32) (KL9_94 : Int32 → GS → Option (Int32 × GS)) : Nat → Int32 → GS → Option (Int32 × GS)
  | 0, _, _ => none
  | n + 1, v4_9, σL9 => if x3 ≤ v4_9 then KL9_94 v4_9 σL9 else bv (F_Wk_passHour 34 σL9) (fun (σ14 : GS) => bv (F_Wk_passHour 35 σ14) (fun (σ16 : GS) => F_X_part_60 x3 KL9_94 n (v4_9 + 1) σ16))
def F_X_part (x1 : Int32) (x2 : Int32) (x3 : Int32) (σ : GS) : Option (Int32 × GS) :=
  bp (F_X_isWalker x1 σ) (fun (r2 : Int32) => if r2 = (0 : Int32) then some ((-1 : Int32), σ) else bp (F_X_isWalker x2 σ) (fun (r4 : Int32) => if r4 = (0 : Int32) then some ((-1 : Int32), σ) else if x1 = x2 then some ((-1 : Int32), σ) else if x3 < (0 : Int32) then some ((-1 : Int32), σ) else if x3 ≤ (40 : Int32) then bv (F_Tn_load 34 x1 σ) (fun (σ6 : GS) => bv (F_Tn_load 35 x2 σ6) (fun (σ8 : GS) => jn (fun (v4_9 : Int32) (σL9 : GS) => bc (F_X_gap (σL9.1 34 1) (σL9.1 35 1) σL9) (fun (r11 : Int32) (σ12 : GS) => some (r11, σ12))) (fun KL9_94 => F_X_part_60 x3 KL9_94 50000 (0 : Int32) σ8))) else some ((-1 : Int32), σ)))
def F_X_drunk_41 (x1 : Int32) (KL3_92 : Int64 → Int32 → Int32 → GS → Option (Int32 × GS)) : Nat → Int64 → Int32 → Int32 → GS → Option (Int32 × GS)
  | 0, _, _, _, _ => none
  | n + 1, v3_3, v5_3, v6_3, σL3 => if x1 ≤ v6_3 then KL3_92 v3_3 v5_3 v6_3 σL3 else bc (F_Wd_goNear 32 ((((v3_3 * (48271 : Int64)) - (v3_3 * (48271 : Int64)) / (2147483647 : Int64) * (2147483647 : Int64)) - ((v3_3 * (48271 : Int64)) - (v3_3 * (48271 : Int64)) / (2147483647 : Int64) * (2147483647 : Int64)) / (5 : Int64) * (5 : Int64)).toInt32) σL3) (fun (r8 : Int32) (σ9 : GS) => if r8 = (0 : Int32) then F_X_drunk_41 x1 KL3_92 n ((v3_3 * (48271 : Int64)) - (v3_3 * (48271 : Int64)) / (2147483647 : Int64) * (2147483647 : Int64)) v5_3 (v6_3 + 1) σ9 else if (σ9.1 32 1) = (0 : Int32) then F_X_drunk_41 x1 KL3_92 n ((v3_3 * (48271 : Int64)) - (v3_3 * (48271 : Int64)) / (2147483647 : Int64) * (2147483647 : Int64)) (v5_3 + 1) (v6_3 + 1) σ9 else F_X_drunk_41 x1 KL3_92 n ((v3_3 * (48271 : Int64)) - (v3_3 * (48271 : Int64)) / (2147483647 : Int64) * (2147483647 : Int64)) v5_3 (v6_3 + 1) σ9)
def F_X_drunk (x1 : Int32) (x2 : Int32) (σ : GS) : Option (Int32 × GS) :=
  if x1 < (1 : Int32) then some ((-1 : Int32), σ) else if (60 : Int32) < x1 then some ((-1 : Int32), σ) else if x2 < (1 : Int32) then some ((-1 : Int32), σ) else if x2 < (2147483647 : Int32) then bv (F_Wd_clear 32 σ) (fun (σ2 : GS) => jn (fun (v3_3 : Int64) (v5_3 : Int32) (v6_3 : Int32) (σL3 : GS) => jn (s1 σL3 0 16 v5_3) (fun (σ4 : GS) => bp (F_Wd_code 32 σ4) (fun (r6 : Int32) => some (r6, σ4)))) (fun KL3_92 => F_X_drunk_41 x1 KL3_92 50000 x2.toInt64 (0 : Int32) (0 : Int32) σ2)) else some ((-1 : Int32), σ)
def F_X_asked (σ : GS) : Option (Int32) :=
  some (σ.1 0 16)
def F_X_upper (σ : GS) : Option (Int64) :=
  some (σ.2 0 17)
def F_X_lower (σ : GS) : Option (Int64) :=
  some (σ.2 0 18)
def F_X_howManyKept_4 (σ : GS) (KL1_30 : Int32 → Int32 → Option (Int32)) : Nat → Int32 → Int32 → Option (Int32)
  | 0, _, _ => none
  | n + 1, v1_1, v2_1 => if (3 : Int32) ≤ v2_1 then KL1_30 v1_1 v2_1 else gd (iB v2_1 3) (if (σ.1 (23 + 3 * v2_1.toNatClampNeg) 2) ≤ (0 : Int32) then F_X_howManyKept_4 σ KL1_30 n v1_1 (v2_1 + 1) else F_X_howManyKept_4 σ KL1_30 n (v1_1 + 1) (v2_1 + 1))
def F_X_howManyKept (σ : GS) : Option (Int32) :=
  jn (fun (v1_1 : Int32) (v2_1 : Int32) => some v1_1) (fun KL1_30 => F_X_howManyKept_4 σ KL1_30 50000 (0 : Int32) (0 : Int32))
def F_X_howManyThere_10 (q0 : Nat) (n0 : Nat) (u3_1 : Int32) (σ : GS) (KL2_36 : Int32 → Int32 → Option (Int32)) : Nat → Int32 → Int32 → Option (Int32)
  | 0, _, _ => none
  | n + 1, v1_2, v4_2 => if u3_1 ≤ v4_2 then KL2_36 v1_2 v4_2 else gd (iB v4_2 n0) (if (σ.1 q0 v4_2.toNatClampNeg) < (0 : Int32) then F_X_howManyThere_10 q0 n0 u3_1 σ KL2_36 n v1_2 (v4_2 + 1) else F_X_howManyThere_10 q0 n0 u3_1 σ KL2_36 n (v1_2 + 1) (v4_2 + 1))
def F_X_howManyThere (q0 : Nat) (n0 : Nat) (σ : GS) : Option (Int32) :=
  jn (Int32.ofNat n0 : Int32) (fun u3_1 => jn (fun (v1_2 : Int32) (v4_2 : Int32) => some v1_2) (fun KL2_36 => F_X_howManyThere_10 q0 n0 u3_1 σ KL2_36 50000 (0 : Int32) (0 : Int32)))
def F_X_count (x1 : Int32) (σ : GS) : Option (Int32) :=
  if x1 = 0 then some (σ.1 19 2) else if x1 = 1 then some (σ.1 19 3) else if x1 = 2 then bp (F_Tn_howManyAre (1 : Int32) σ) (fun (r2 : Int32) => some r2) else if x1 = 3 then bp (F_Tn_howManyAre (2 : Int32) σ) (fun (r4 : Int32) => some r4) else if x1 = 4 then bp (F_Tn_howManyAtHome σ) (fun (r6 : Int32) => some r6) else if x1 = 5 then bp (F_X_howManyKept σ) (fun (r8 : Int32) => some r8) else if x1 = 6 then bp (F_X_howManyThere 8 6 σ) (fun (r10 : Int32) => some r10) else if x1 = 7 then bp (F_X_howManyThere 14 4 σ) (fun (r12 : Int32) => some r12) else some (-1 : Int32)
def F_X_finding (σ : GS) : Option (Int32) :=
  some (σ.1 0 15)
def F_X_findings (x1 : Int32) (σ : GS) : Option (Int32) :=
  if x1 < (1 : Int32) then some (-1 : Int32) else if x1 ≤ (5 : Int32) then gd (iB x1 6) (some (σ.1 62 x1.toNatClampNeg)) else some (-1 : Int32)
def F_X_digest_215 (v3_5 : Int32) (σL2 : GS) (KL7_249 : Int64 → Int32 → Option (Int64 × GS)) : Nat → Int64 → Int32 → Option (Int64 × GS)
  | 0, _, _ => none
  | n + 1, v1_7, v4_7 => gd (iB v3_5 4) (if (σL2.1 14 v3_5.toNatClampNeg) ≤ v4_7 then KL7_249 v1_7 v4_7 else gd (iB v3_5 4) (gd (iB v4_7 80) (F_X_digest_215 v3_5 σL2 KL7_249 n (((31 : Int64) * v1_7) + ((σL2.1 (10 + v3_5.toNatClampNeg) v4_7.toNatClampNeg).toInt64)) (v4_7 + 1))))
def F_X_digest_193 (σL2 : GS) (KL5_255 : Int64 → Int32 → Option (Int64 × GS)) : Nat → Int64 → Int32 → Option (Int64 × GS)
  | 0, _, _ => none
  | n + 1, v1_5, v3_5 => if (4 : Int32) ≤ v3_5 then KL5_255 v1_5 v3_5 else gd (iB v3_5 4) (jn (fun (v1_7 : Int64) (v4_7 : Int32) => F_X_digest_193 σL2 KL5_255 n v1_7 (v3_5 + 1)) (fun KL7_249 => F_X_digest_215 v3_5 σL2 KL7_249 50000 (((31 : Int64) * v1_5) + ((σL2.1 14 v3_5.toNatClampNeg).toInt64)) (0 : Int32)))
def F_X_digest_151 (v3_4 : Int32) (σL2 : GS) (KL14_185 : Int64 → Int32 → Option (Int64 × GS)) : Nat → Int64 → Int32 → Option (Int64 × GS)
  | 0, _, _ => none
  | n + 1, v1_14, v4_14 => gd (iB v3_4 6) (if (σL2.1 8 v3_4.toNatClampNeg) ≤ v4_14 then KL14_185 v1_14 v4_14 else gd (iB v3_4 6) (gd (iB v4_14 40) (F_X_digest_151 v3_4 σL2 KL14_185 n (((31 : Int64) * v1_14) + ((σL2.1 (2 + v3_4.toNatClampNeg) v4_14.toNatClampNeg).toInt64)) (v4_14 + 1))))
def F_X_digest_128 (σL2 : GS) (KL4_191 : Int64 → Int32 → Option (Int64 × GS)) : Nat → Int64 → Int32 → Option (Int64 × GS)
  | 0, _, _ => none
  | n + 1, v1_4, v3_4 => if (6 : Int32) ≤ v3_4 then KL4_191 v1_4 v3_4 else gd (iB v3_4 6) (jn (fun (v1_14 : Int64) (v4_14 : Int32) => F_X_digest_128 σL2 KL4_191 n v1_14 (v3_4 + 1)) (fun KL14_185 => F_X_digest_151 v3_4 σL2 KL14_185 50000 (((31 : Int64) * v1_4) + ((σL2.1 8 v3_4.toNatClampNeg).toInt64)) (0 : Int32)))
def F_X_digest_82 (σL2 : GS) (KL3_126 : Int64 → Int32 → Option (Int64 × GS)) : Nat → Int64 → Int32 → Option (Int64 × GS)
  | 0, _, _ => none
  | n + 1, v1_3, v3_3 => if (3 : Int32) ≤ v3_3 then KL3_126 v1_3 v3_3 else gd (iB v3_3 3) (jn (fun (tJ21 : Int32) => F_X_digest_82 σL2 KL3_126 n (((31 : Int64) * v1_3) + tJ21.toInt64) (v3_3 + 1)) (fun J21 => if (σL2.1 (23 + 3 * v3_3.toNatClampNeg) 2) = (0 : Int32) then J21 (-1 : Int32) else gd (iB v3_3 3) (J21 (σL2.1 (23 + 3 * v3_3.toNatClampNeg) 3))))
def F_X_digest_47 (v3_2 : Int32) (KL25_74 : Int64 → Int32 → GS → Option (Int64 × GS)) : Nat → Int64 → Int32 → GS → Option (Int64 × GS)
  | 0, _, _, _ => none
  | n + 1, v1_25, v4_25, σL25 => if (5 : Int32) ≤ v4_25 then KL25_74 v1_25 v4_25 σL25 else bc (F_X_factOf v3_2 v4_25 σL25) (fun (r27 : Int32) (σ28 : GS) => F_X_digest_47 v3_2 KL25_74 n (((31 : Int64) * v1_25) + r27.toInt64) (v4_25 + 1) σ28)
def F_X_digest_33  (KL2_80 : Int64 → Int32 → GS → Option (Int64 × GS)) : Nat → Int64 → Int32 → GS → Option (Int64 × GS)
  | 0, _, _, _ => none
  | n + 1, v1_2, v3_2, σL2 => if (σL2.1 19 2) ≤ v3_2 then KL2_80 v1_2 v3_2 σL2 else jn (fun (v1_25 : Int64) (v4_25 : Int32) (σL25 : GS) => F_X_digest_33 KL2_80 n v1_25 (v3_2 + 1) σL25) (fun KL25_74 => F_X_digest_47 v3_2 KL25_74 50000 v1_2 (0 : Int32) σL2)
def F_X_digest_6 (σ : GS) (KL1_31 : Int64 → Int32 → Option (Int64 × GS)) : Nat → Int64 → Int32 → Option (Int64 × GS)
  | 0, _, _ => none
  | n + 1, v1_1, v3_1 => if (8 : Int32) ≤ v3_1 then KL1_31 v1_1 v3_1 else bp (F_X_count v3_1 σ) (fun (r32 : Int32) => F_X_digest_6 σ KL1_31 n (((31 : Int64) * v1_1) + r32.toInt64) (v3_1 + 1))
def F_X_digest (σ : GS) : Option (Int64 × GS) :=
  jn (fun (v1_1 : Int64) (v3_1 : Int32) => jn (fun (v1_2 : Int64) (v3_2 : Int32) (σL2 : GS) => jn (fun (v1_3 : Int64) (v3_3 : Int32) => jn (fun (v1_4 : Int64) (v3_4 : Int32) => jn (fun (v1_5 : Int64) (v3_5 : Int32) => some (v1_5, σL2)) (fun KL5_255 => F_X_digest_193 σL2 KL5_255 50000 v1_4 (0 : Int32))) (fun KL4_191 => F_X_digest_128 σL2 KL4_191 50000 v1_3 (0 : Int32))) (fun KL3_126 => F_X_digest_82 σL2 KL3_126 50000 v1_2 (0 : Int32))) (fun KL2_80 => F_X_digest_33 KL2_80 50000 v1_1 (0 : Int32) σ)) (fun KL1_31 => F_X_digest_6 σ KL1_31 50000 (17 : Int64) (0 : Int32))
def F_M_in (x0 : Int64) (x2 : Int64) (x4 : Int64) : Option (Int32) :=
  if (lg_cmp x0 x2) < (0 : Int32) then some (0 : Int32) else if (0 : Int32) < (lg_cmp x0 x4) then some (0 : Int32) else some (1 : Int32)
def F_M_found (x1 : Int32) (σ : GS) : Option (Int32 × GS) :=
  jn (s1 σ 63 12 x1) (fun (σ1 : GS) => gd (iB x1 6) (gd (iB x1 6) (jn (s1 σ1 73 x1.toNatClampNeg ((σ1.1 73 x1.toNatClampNeg) + (1 : Int32))) (fun (σ4 : GS) => some ((-3 : Int32), σ4)))))
def F_M_tell (x1 : Int32) (σ : GS) : Option (Int32 × GS) :=
  jn (s1 σ 63 9 x1) (fun (σ1 : GS) => some ((1 : Int32), σ1))
def F_M_tells_6 (x1 : Int64) (x3 : Int64) (σ : GS) (KL1_31 : Int64 → Int64 → Option (Int32 × GS)) : Nat → Int64 → Int64 → Option (Int32 × GS)
  | 0, _, _ => none
  | n + 1, v5_1, v7_1 => if (lg_cmp v7_1 (0 : Int64)) = (0 : Int32) then KL1_31 v5_1 v7_1 else gd (zL v7_1) (F_M_tells_6 x1 x3 σ KL1_31 n v7_1 (v5_1 - v5_1 / v7_1 * v7_1))
def F_M_tells (x1 : Int64) (x3 : Int64) (σ : GS) : Option (Int32 × GS) :=
  jn (fun (v5_1 : Int64) (v7_1 : Int64) => gd (zL v5_1) (jn (s2 σ 63 10 (x1 / v5_1)) (fun (σ2 : GS) => gd (zL v5_1) (jn (s2 σ2 63 11 (x3 / v5_1)) (fun (σ3 : GS) => some ((1 : Int32), σ3)))))) (fun KL1_31 => F_M_tells_6 x1 x3 σ KL1_31 50000 x1 x3)
def F_M_isRow (x0 : Int32) : Option (Int32) :=
  bp (F_M_in x0.toInt64 (0 : Int64) (5 : Int64)) (fun (r2 : Int32) => gd (bB r2) (some r2))
def F_M_isText (x0 : Int32) : Option (Int32) :=
  bp (F_M_in x0.toInt64 (0 : Int64) (3 : Int64)) (fun (r2 : Int32) => gd (bB r2) (some r2))
def F_M_row_34 (x1 : Int32) (x2 : Int32) (KL5_58 : Int32 → GS → Option (Int32 × GS)) : Nat → Int32 → GS → Option (Int32 × GS)
  | 0, _, _ => none
  | n + 1, v3_5, σL5 => if (40 : Int32) ≤ v3_5 then KL5_58 v3_5 σL5 else gd (iB (((40 : Int32) * x1) + v3_5) 240) (jn (s1 σL5 65 ((((40 : Int32) * x1) + v3_5).toNatClampNeg) (0 : Int32)) (fun (σ7 : GS) => F_M_row_34 x1 x2 KL5_58 n (v3_5 + 1) σ7))
def F_M_row (x1 : Int32) (x2 : Int32) (σ : GS) : Option (Int32 × GS) :=
  bp (F_M_isRow x1) (fun (r2 : Int32) => if r2 = (0 : Int32) then some ((-1 : Int32), σ) else if x2 ≤ (40 : Int32) then if (0 : Int32) ≤ x2 then gd (iB x1 6) (jn (s1 σ 64 x1.toNatClampNeg x2) (fun (σ4 : GS) => jn (fun (v3_5 : Int32) (σL5 : GS) => some (x2, σL5)) (fun KL5_58 => F_M_row_34 x1 x2 KL5_58 50000 (0 : Int32) σ4))) else bc (F_M_found (5 : Int32) σ) (fun (r10 : Int32) (σ11 : GS) => some (r10, σ11)) else some ((-1 : Int32), σ))
def F_M_lay (x1 : Int32) (x2 : Int32) (x3 : Int32) (σ : GS) : Option (Int32 × GS) :=
  bp (F_M_isRow x1) (fun (r2 : Int32) => if r2 = (0 : Int32) then some ((-1 : Int32), σ) else gd (iB x1 6) (if (0 : Int32) ≤ (σ.1 64 x1.toNatClampNeg) then gd (iB x1 6) (bp (F_M_in x2.toInt64 (0 : Int64) (((σ.1 64 x1.toNatClampNeg) - (1 : Int32)).toInt64)) (fun (r6 : Int32) => if r6 = (0 : Int32) then bc (F_M_found (2 : Int32) σ) (fun (r14 : Int32) (σ15 : GS) => some (r14, σ15)) else gd (iB (((40 : Int32) * x1) + x2) 240) (gd (iB (((40 : Int32) * x1) + x2) 240) (jn (s1 σ 65 ((((40 : Int32) * x1) + x2).toNatClampNeg) x3) (fun (σ9 : GS) => bc (F_M_tell (σ.1 65 (((40 : Int32) * x1) + x2).toNatClampNeg) σ9) (fun (r11 : Int32) (σ12 : GS) => some (r11, σ12))))))) else bc (F_M_found (1 : Int32) σ) (fun (r18 : Int32) (σ19 : GS) => some (r18, σ19))))
def F_M_at (x1 : Int32) (x2 : Int32) (σ : GS) : Option (Int32 × GS) :=
  bp (F_M_isRow x1) (fun (r2 : Int32) => if r2 = (0 : Int32) then some ((-1 : Int32), σ) else gd (iB x1 6) (if (0 : Int32) ≤ (σ.1 64 x1.toNatClampNeg) then gd (iB x1 6) (bp (F_M_in x2.toInt64 (0 : Int64) (((σ.1 64 x1.toNatClampNeg) - (1 : Int32)).toInt64)) (fun (r6 : Int32) => if r6 = (0 : Int32) then bc (F_M_found (2 : Int32) σ) (fun (r8 : Int32) (σ9 : GS) => some (r8, σ9)) else gd (iB (((40 : Int32) * x1) + x2) 240) (bc (F_M_tell (σ.1 65 (((40 : Int32) * x1) + x2).toNatClampNeg) σ) (fun (r12 : Int32) (σ13 : GS) => some (r12, σ13))))) else bc (F_M_found (1 : Int32) σ) (fun (r16 : Int32) (σ17 : GS) => some (r16, σ17))))
def F_M_tear (x1 : Int32) (σ : GS) : Option (Int32 × GS) :=
  bp (F_M_isRow x1) (fun (r2 : Int32) => if r2 = (0 : Int32) then some ((-1 : Int32), σ) else gd (iB x1 6) (if (0 : Int32) ≤ (σ.1 64 x1.toNatClampNeg) then gd (iB x1 6) (jn (s1 σ 64 x1.toNatClampNeg (-1 : Int32)) (fun (σ5 : GS) => some ((1 : Int32), σ5))) else bc (F_M_found (1 : Int32) σ) (fun (r7 : Int32) (σ8 : GS) => some (r7, σ8))))
def F_M_copy_104 (x1 : Int32) (x2 : Int32) (x3 : Int32) (x4 : Int32) (x5 : Int32) (KL21_166 : Int32 → GS → Option (Int32 × GS)) : Nat → Int32 → GS → Option (Int32 × GS)
  | 0, _, _ => none
  | n + 1, v6_21, σL21 => if x5 ≤ v6_21 then KL21_166 v6_21 σL21 else jn (fun (tJ22 : Int32) => gd (iB ((((40 : Int32) * x1) + x2) + tJ22) 240) (gd (iB ((((40 : Int32) * x3) + x4) + tJ22) 240) (jn (s1 σL21 65 (((((40 : Int32) * x3) + x4) + tJ22).toNatClampNeg) (σL21.1 65 ((((40 : Int32) * x1) + x2) + tJ22).toNatClampNeg)) (fun (σ25 : GS) => F_M_copy_104 x1 x2 x3 x4 x5 KL21_166 n (v6_21 + 1) σ25)))) (fun J22 => if x4 ≤ x2 then J22 v6_21 else J22 ((x5 - (1 : Int32)) - v6_21))
def F_M_copy (x1 : Int32) (x2 : Int32) (x3 : Int32) (x4 : Int32) (x5 : Int32) (σ : GS) : Option (Int32 × GS) :=
  bp (F_M_isRow x1) (fun (r2 : Int32) => if r2 = (0 : Int32) then some ((-1 : Int32), σ) else bp (F_M_isRow x3) (fun (r4 : Int32) => if r4 = (0 : Int32) then some ((-1 : Int32), σ) else if (0 : Int32) ≤ x5 then gd (iB x1 6) (if (σ.1 64 x1.toNatClampNeg) < (0 : Int32) then bc (F_M_found (1 : Int32) σ) (fun (r7 : Int32) (σ8 : GS) => some (r7, σ8)) else gd (iB x3 6) (if (0 : Int32) ≤ (σ.1 64 x3.toNatClampNeg) then if x2 < (0 : Int32) then bc (F_M_found (2 : Int32) σ) (fun (r11 : Int32) (σ12 : GS) => some (r11, σ12)) else if x4 < (0 : Int32) then bc (F_M_found (2 : Int32) σ) (fun (r14 : Int32) (σ15 : GS) => some (r14, σ15)) else gd (iB x1 6) (if (0 : Int32) < (lg_cmp (x2.toInt64 + x5.toInt64) ((σ.1 64 x1.toNatClampNeg).toInt64)) then bc (F_M_found (2 : Int32) σ) (fun (r18 : Int32) (σ19 : GS) => some (r18, σ19)) else gd (iB x3 6) (if (lg_cmp (x4.toInt64 + x5.toInt64) ((σ.1 64 x3.toNatClampNeg).toInt64)) ≤ (0 : Int32) then jn (fun (v6_21 : Int32) (σL21 : GS) => some ((1 : Int32), σL21)) (fun KL21_166 => F_M_copy_104 x1 x2 x3 x4 x5 KL21_166 50000 (0 : Int32) σ) else bc (F_M_found (2 : Int32) σ) (fun (r29 : Int32) (σ30 : GS) => some (r29, σ30)))) else bc (F_M_found (1 : Int32) σ) (fun (r36 : Int32) (σ37 : GS) => some (r36, σ37)))) else bc (F_M_found (5 : Int32) σ) (fun (r41 : Int32) (σ42 : GS) => some (r41, σ42))))
def F_M_mean_44 (x1 : Int32) (σ : GS) (KL5_77 : Int64 → Int32 → Option (Int32 × GS)) : Nat → Int64 → Int32 → Option (Int32 × GS)
  | 0, _, _ => none
  | n + 1, v2_5, v4_5 => gd (iB x1 6) (if (σ.1 64 x1.toNatClampNeg) ≤ v4_5 then KL5_77 v2_5 v4_5 else gd (iB (((40 : Int32) * x1) + v4_5) 240) (F_M_mean_44 x1 σ KL5_77 n (v2_5 + ((σ.1 65 (((40 : Int32) * x1) + v4_5).toNatClampNeg).toInt64)) (v4_5 + 1)))
def F_M_mean (x1 : Int32) (σ : GS) : Option (Int32 × GS) :=
  bp (F_M_isRow x1) (fun (r2 : Int32) => if r2 = (0 : Int32) then some ((-1 : Int32), σ) else gd (iB x1 6) (if (0 : Int32) ≤ (σ.1 64 x1.toNatClampNeg) then gd (iB x1 6) (if (σ.1 64 x1.toNatClampNeg) = (0 : Int32) then bc (F_M_found (4 : Int32) σ) (fun (r14 : Int32) (σ15 : GS) => some (r14, σ15)) else jn (fun (v2_5 : Int64) (v4_5 : Int32) => gd (iB x1 6) (gd (zL ((σ.1 64 x1.toNatClampNeg).toInt64)) (bc (F_M_tell ((v2_5 / ((σ.1 64 x1.toNatClampNeg).toInt64)).toInt32) σ) (fun (r8 : Int32) (σ9 : GS) => some (r8, σ9))))) (fun KL5_77 => F_M_mean_44 x1 σ KL5_77 50000 (0 : Int64) (0 : Int32))) else bc (F_M_found (1 : Int32) σ) (fun (r18 : Int32) (σ19 : GS) => some (r18, σ19))))
def F_M_text_34 (x1 : Int32) (x2 : Int32) (KL5_59 : Int32 → GS → Option (Int32 × GS)) : Nat → Int32 → GS → Option (Int32 × GS)
  | 0, _, _ => none
  | n + 1, v3_5, σL5 => if (80 : Int32) ≤ v3_5 then KL5_59 v3_5 σL5 else gd (iB (((80 : Int32) * x1) + v3_5) 320) (jn (s1 σL5 67 ((((80 : Int32) * x1) + v3_5).toNatClampNeg) (32 : Int32)) (fun (σ7 : GS) => F_M_text_34 x1 x2 KL5_59 n (v3_5 + 1) σ7))
def F_M_text (x1 : Int32) (x2 : Int32) (σ : GS) : Option (Int32 × GS) :=
  bp (F_M_isText x1) (fun (r2 : Int32) => if r2 = (0 : Int32) then some ((-1 : Int32), σ) else if x2 ≤ (80 : Int32) then if (0 : Int32) ≤ x2 then gd (iB x1 4) (jn (s1 σ 66 x1.toNatClampNeg x2) (fun (σ4 : GS) => jn (fun (v3_5 : Int32) (σL5 : GS) => some (x2, σL5)) (fun KL5_59 => F_M_text_34 x1 x2 KL5_59 50000 (0 : Int32) σ4))) else bc (F_M_found (5 : Int32) σ) (fun (r10 : Int32) (σ11 : GS) => some (r10, σ11)) else some ((-1 : Int32), σ))
def F_M_put (x1 : Int32) (x2 : Int32) (x3 : Int32) (σ : GS) : Option (Int32 × GS) :=
  bp (F_M_isText x1) (fun (r2 : Int32) => if r2 = (0 : Int32) then some ((-1 : Int32), σ) else gd (iB x1 4) (if (0 : Int32) ≤ (σ.1 66 x1.toNatClampNeg) then gd (iB x1 4) (bp (F_M_in x2.toInt64 (0 : Int64) (((σ.1 66 x1.toNatClampNeg) - (1 : Int32)).toInt64)) (fun (r6 : Int32) => if r6 = (0 : Int32) then bc (F_M_found (2 : Int32) σ) (fun (r11 : Int32) (σ12 : GS) => some (r11, σ12)) else gd (iB (((80 : Int32) * x1) + x2) 320) (gd (iB (((80 : Int32) * x1) + x2) 320) (jn (s1 σ 67 ((((80 : Int32) * x1) + x2).toNatClampNeg) x3.toInt8.toInt32) (fun (σ9 : GS) => some ((σ.1 67 (((80 : Int32) * x1) + x2).toNatClampNeg) + (1000 : Int32), σ9)))))) else bc (F_M_found (1 : Int32) σ) (fun (r15 : Int32) (σ16 : GS) => some (r15, σ16))))
def F_M_kindOf (x0 : Int32) : Option (Int32) :=
  if x0 = (119 : Int32) then some (0 : Int32) else if x0 = (115 : Int32) then some (1 : Int32) else if x0 = (99 : Int32) then some (2 : Int32) else if x0 = (104 : Int32) then some (3 : Int32) else if x0 = (114 : Int32) then some (4 : Int32) else if x0 = (111 : Int32) then some (5 : Int32) else some (-1 : Int32)
def F_M_isStreet (x0 : Int32) : Option (Int32) :=
  bp (F_M_in x0.toInt64 (0 : Int64) (4 : Int64)) (fun (r2 : Int32) => gd (bB r2) (some r2))
def F_M_byteAt (x1 : Int32) (σ : GS) : Option (Int32) :=
  gd (iB x1 4) (if (σ.1 66 x1.toNatClampNeg) ≤ (σ.1 63 15) then some (-1000 : Int32) else gd (iB (((80 : Int32) * x1) + (σ.1 63 15)) 320) (some (σ.1 67 (((80 : Int32) * x1) + (σ.1 63 15)).toNatClampNeg)))
def F_M_areNeighbours (x0 : Int32) (x1 : Int32) : Option (Int32) :=
  if (((x0 - x1) + (5 : Int32)) - ((x0 - x1) + (5 : Int32)) / (5 : Int32) * (5 : Int32)) = (1 : Int32) then some (1 : Int32) else if (((x0 - x1) + (5 : Int32)) - ((x0 - x1) + (5 : Int32)) / (5 : Int32) * (5 : Int32)) = (4 : Int32) then some (1 : Int32) else some (0 : Int32)
def F_M_times_46 (q0 : Nat) (x1 : Int32) (KL6_70 : Int32 → GS → Option (Int32 × GS)) : Nat → Int32 → GS → Option (Int32 × GS)
  | 0, _, _ => none
  | n + 1, v4_6, σL6 => if (x1 - (1 : Int32)) ≤ v4_6 then KL6_70 v4_6 σL6 else gd (iB (v4_6 + (1 : Int32)) 64) (gd (iB v4_6 64) (jn (s1 σL6 q0 v4_6.toNatClampNeg (σL6.1 q0 (v4_6 + (1 : Int32)).toNatClampNeg)) (fun (σ9 : GS) => F_M_times_46 q0 x1 KL6_70 n (v4_6 + 1) σ9)))
def F_M_times_4 (q0 : Nat) (x1 : Int32) (x2 : Int32) (σ : GS) (KL1_24 : Int32 → Option (Int32 × GS)) : Nat → Int32 → Option (Int32 × GS)
  | 0, _ => none
  | n + 1, v3_1 => if v3_1 < (0 : Int32) then KL1_24 v3_1 else gd (iB v3_1 64) (bp (F_M_areNeighbours (σ.1 q0 v3_1.toNatClampNeg) x2) (fun (r15 : Int32) => if r15 = (0 : Int32) then KL1_24 v3_1 else F_M_times_4 q0 x1 x2 σ KL1_24 n (v3_1 + (-1))))
def F_M_times (q0 : Nat) (x1 : Int32) (x2 : Int32) (σ : GS) : Option (Int32 × GS) :=
  jn (fun (v3_1 : Int32) => jn (fun (dJ2 : Unit) => gd (iB x1 64) (jn (s1 σ q0 x1.toNatClampNeg x2) (fun (σ4 : GS) => some (x1 + (1 : Int32), σ4)))) (fun J2 => if v3_1 < (0 : Int32) then J2 () else gd (iB v3_1 64) (if (σ.1 q0 v3_1.toNatClampNeg) = x2 then jn (fun (v4_6 : Int32) (σL6 : GS) => some (x1 - (1 : Int32), σL6)) (fun KL6_70 => F_M_times_46 q0 x1 KL6_70 50000 v3_1 σ) else J2 ()))) (fun KL1_24 => F_M_times_4 q0 x1 x2 σ KL1_24 50000 (x1 - (1 : Int32)))
def F_M_isFirst_4 (q0 : Nat) (x1 : Int32) (σ : GS) (KL1_37 : Int32 → Int32 → Option (Int32)) : Nat → Int32 → Int32 → Option (Int32)
  | 0, _, _ => none
  | n + 1, v2_1, v3_1 => if x1 ≤ v3_1 then KL1_37 v2_1 v3_1 else if v2_1 = (0 : Int32) then F_M_isFirst_4 q0 x1 σ KL1_37 n (0 : Int32) (v3_1 + 1) else gd (iB v3_1 64) (gd (iB x1 64) (bp (F_M_areNeighbours (σ.1 q0 v3_1.toNatClampNeg) (σ.1 q0 x1.toNatClampNeg)) (fun (r5 : Int32) => if r5 = (0 : Int32) then F_M_isFirst_4 q0 x1 σ KL1_37 n (0 : Int32) (v3_1 + 1) else F_M_isFirst_4 q0 x1 σ KL1_37 n (1 : Int32) (v3_1 + 1))))
def F_M_isFirst (q0 : Nat) (x1 : Int32) (σ : GS) : Option (Int32) :=
  jn (fun (v2_1 : Int32) (v3_1 : Int32) => gd (bB v2_1) (some v2_1)) (fun KL1_37 => F_M_isFirst_4 q0 x1 σ KL1_37 50000 (1 : Int32) (0 : Int32))
def F_M_layPlain_114 (q1 : Nat) (q3 : Nat) (x2 : Int32) (v4_2 : Int32) (KL7_147 : Int32 → GS → Option (GS)) : Nat → Int32 → GS → Option (GS)
  | 0, _, _ => none
  | n + 1, v6_7, σL7 => if ((x2 - v4_2) - (1 : Int32)) ≤ v6_7 then KL7_147 v6_7 σL7 else gd (iB (v6_7 + (1 : Int32)) 64) (gd (iB v6_7 64) (jn (s1 σL7 78 v6_7.toNatClampNeg (σL7.1 78 (v6_7 + (1 : Int32)).toNatClampNeg)) (fun (σ10 : GS) => F_M_layPlain_114 q1 q3 x2 v4_2 KL7_147 n (v6_7 + 1) σ10)))
def F_M_layPlain_41 (q1 : Nat) (q3 : Nat) (x2 : Int32) (v4_2 : Int32) (σL2 : GS) (KL3_99 : Int32 → Int32 → Option (GS)) : Nat → Int32 → Int32 → Option (GS)
  | 0, _, _ => none
  | n + 1, v5_3, v6_3 => if (x2 - v4_2) ≤ v6_3 then KL3_99 v5_3 v6_3 else bp (F_M_isFirst 78 v6_3 σL2) (fun (r13 : Int32) => if r13 = (0 : Int32) then F_M_layPlain_41 q1 q3 x2 v4_2 σL2 KL3_99 n v5_3 (v6_3 + 1) else jn (fun (dJ14 : Unit) => F_M_layPlain_41 q1 q3 x2 v4_2 σL2 KL3_99 n v6_3 (v6_3 + 1)) (fun J14 => if v5_3 < (0 : Int32) then J14 () else gd (iB v6_3 64) (gd (iB v5_3 64) (if (σL2.1 78 v5_3.toNatClampNeg) ≤ (σL2.1 78 v6_3.toNatClampNeg) then F_M_layPlain_41 q1 q3 x2 v4_2 σL2 KL3_99 n v5_3 (v6_3 + 1) else J14 ()))))
def F_M_layPlain_29 (q1 : Nat) (q3 : Nat) (x2 : Int32) (KL2_153 : Int32 → GS → Option (GS)) : Nat → Int32 → GS → Option (GS)
  | 0, _, _ => none
  | n + 1, v4_2, σL2 => if x2 ≤ v4_2 then KL2_153 v4_2 σL2 else jn (fun (v5_3 : Int32) (v6_3 : Int32) => gd (iB v5_3 64) (gd (iB v4_2 64) (jn (s1 σL2 q3 v4_2.toNatClampNeg (σL2.1 78 v5_3.toNatClampNeg)) (fun (σ6 : GS) => jn (fun (v6_7 : Int32) (σL7 : GS) => F_M_layPlain_29 q1 q3 x2 KL2_153 n (v4_2 + 1) σL7) (fun KL7_147 => F_M_layPlain_114 q1 q3 x2 v4_2 KL7_147 50000 v5_3 σ6))))) (fun KL3_99 => F_M_layPlain_41 q1 q3 x2 v4_2 σL2 KL3_99 50000 (-1 : Int32) (0 : Int32))
def F_M_layPlain_3 (q1 : Nat) (q3 : Nat) (x2 : Int32) (KL1_26 : Int32 → GS → Option (GS)) : Nat → Int32 → GS → Option (GS)
  | 0, _, _ => none
  | n + 1, v4_1, σL1 => if x2 ≤ v4_1 then KL1_26 v4_1 σL1 else gd (iB v4_1 64) (gd (iB v4_1 64) (jn (s1 σL1 78 v4_1.toNatClampNeg (σL1.1 q1 v4_1.toNatClampNeg)) (fun (σ24 : GS) => F_M_layPlain_3 q1 q3 x2 KL1_26 n (v4_1 + 1) σ24)))
def F_M_layPlain (q1 : Nat) (q3 : Nat) (x2 : Int32) (σ : GS) : Option (GS) :=
  jn (fun (v4_1 : Int32) (σL1 : GS) => jn (fun (v4_2 : Int32) (σL2 : GS) => some σL2) (fun KL2_153 => F_M_layPlain_29 q1 q3 x2 KL2_153 50000 (0 : Int32) σL1)) (fun KL1_26 => F_M_layPlain_3 q1 q3 x2 KL1_26 50000 (0 : Int32) σ)
def F_M_codeOf_15 (q1 : Nat) (x2 : Int32) (σ2 : GS) (KL3_42 : Int32 → Int32 → Option (Int32 × GS)) : Nat → Int32 → Int32 → Option (Int32 × GS)
  | 0, _, _ => none
  | n + 1, v3_3, v4_3 => if x2 ≤ v4_3 then KL3_42 v3_3 v4_3 else gd (iB v4_3 64) (F_M_codeOf_15 q1 x2 σ2 KL3_42 n ((((10 : Int32) * v3_3) + (σ2.1 79 v4_3.toNatClampNeg)) + (1 : Int32)) (v4_3 + 1))
def F_M_codeOf (q1 : Nat) (x2 : Int32) (σ : GS) : Option (Int32 × GS) :=
  bv (F_M_layPlain q1 79 x2 σ) (fun (σ2 : GS) => jn (fun (v3_3 : Int32) (v4_3 : Int32) => some (v3_3, σ2)) (fun KL3_42 => F_M_codeOf_15 q1 x2 σ2 KL3_42 50000 (0 : Int32) (0 : Int32)))
def F_M_takesWalker_95 (x1 : Int32) (u2_17 : Int32) (KL18_150 : Int32 → Int32 → GS → Option (Int32 × GS)) : Nat → Int32 → Int32 → GS → Option (Int32 × GS)
  | 0, _, _, _ => none
  | n + 1, v4_18, v5_18, σL18 => if (4 : Int32) ≤ v5_18 then KL18_150 v4_18 v5_18 σL18 else bp (F_M_byteAt x1 σL18) (fun (r36 : Int32) => bp (F_M_isStreet (r36 - (48 : Int32))) (fun (r38 : Int32) => if r38 = (0 : Int32) then KL18_150 v4_18 v5_18 σL18 else bp (F_M_byteAt x1 σL18) (fun (r40 : Int32) => bc (F_M_times 75 v4_18 (r40 - (48 : Int32)) σL18) (fun (r42 : Int32) (σ43 : GS) => jn (s1 σ43 63 15 ((σ43.1 63 15) + (1 : Int32))) (fun (σ44 : GS) => F_M_takesWalker_95 x1 u2_17 KL18_150 n r42 (v5_18 + 1) σ44)))))
def F_M_takesWalker (x1 : Int32) (σ : GS) : Option (Int32 × GS) :=
  bp (F_M_byteAt x1 σ) (fun (r2 : Int32) => bp (F_M_kindOf r2) (fun (r4 : Int32) => if r4 < (0 : Int32) then some ((0 : Int32), σ) else if (σ.1 74 0) = (5 : Int32) then some ((0 : Int32), σ) else jn (s1 σ 63 15 ((σ.1 63 15) + (1 : Int32))) (fun (σ5 : GS) => bp (F_M_byteAt x1 σ5) (fun (r7 : Int32) => bp (F_M_isStreet (r7 - (48 : Int32))) (fun (r9 : Int32) => if r9 = (0 : Int32) then some ((0 : Int32), σ5) else gd (iB ((2 : Int32) + (σ.1 74 0)) 27) (jn (s1 σ5 74 (((2 : Int32) + (σ.1 74 0)).toNatClampNeg) r4) (fun (σ11 : GS) => bp (F_M_byteAt x1 σ11) (fun (r13 : Int32) => gd (iB ((12 : Int32) + (σ.1 74 0)) 27) (jn (s1 σ11 74 (((12 : Int32) + (σ.1 74 0)).toNatClampNeg) (r13 - (48 : Int32))) (fun (σ15 : GS) => jn (s1 σ15 63 15 ((σ15.1 63 15) + (1 : Int32))) (fun (σ16 : GS) => jn (σ.1 74 0 : Int32) (fun u2_17 => jn (fun (v4_18 : Int32) (v5_18 : Int32) (σL18 : GS) => bc (F_M_codeOf 75 v4_18 σL18) (fun (r20 : Int32) (σ21 : GS) => gd (iB ((7 : Int32) + u2_17) 27) (jn (s1 σ21 74 (((7 : Int32) + u2_17).toNatClampNeg) r20) (fun (σ23 : GS) => jn (s1 σ23 74 0 ((σ23.1 74 0) + (1 : Int32))) (fun (σ24 : GS) => gd (iB x1 4) (if (σ24.1 63 15) = (σ24.1 66 x1.toNatClampNeg) then some ((1 : Int32), σ24) else bp (F_M_byteAt x1 σ24) (fun (r27 : Int32) => if r27 = (32 : Int32) then some ((1 : Int32), σ24) else bp (F_M_byteAt x1 σ24) (fun (r29 : Int32) => bp (F_M_kindOf r29) (fun (r31 : Int32) => if r31 < (0 : Int32) then some ((0 : Int32), σ24) else some ((1 : Int32), σ24)))))))))) (fun KL18_150 => F_M_takesWalker_95 x1 u2_17 KL18_150 50000 (0 : Int32) (0 : Int32) σ16)))))))))))))
def F_M_reads_26 (x1 : Int32) (KL3_75 : GS → Option (Int32 × GS)) (KL3_70 : GS → Option (Int32 × GS)) : Nat → GS → Option (Int32 × GS)
  | 0, _ => none
  | n + 1, σL3 => gd (iB x1 4) (if (σL3.1 66 x1.toNatClampNeg) ≤ (σL3.1 63 15) then KL3_75 σL3 else bp (F_M_byteAt x1 σL3) (fun (r6 : Int32) => if r6 = (32 : Int32) then jn (s1 σL3 63 15 ((σL3.1 63 15) + (1 : Int32))) (fun (σ11 : GS) => F_M_reads_26 x1 KL3_75 KL3_70 n σ11) else bc (F_M_takesWalker x1 σL3) (fun (r8 : Int32) (σ9 : GS) => if r8 = (0 : Int32) then KL3_70 σ9 else F_M_reads_26 x1 KL3_75 KL3_70 n σ9)))
def F_M_reads_2 (x1 : Int32) (KL1_21 : Int32 → GS → Option (Int32 × GS)) : Nat → Int32 → GS → Option (Int32 × GS)
  | 0, _, _ => none
  | n + 1, v2_1, σL1 => if (27 : Int32) ≤ v2_1 then KL1_21 v2_1 σL1 else gd (iB v2_1 27) (jn (s1 σL1 74 v2_1.toNatClampNeg (0 : Int32)) (fun (σ15 : GS) => F_M_reads_2 x1 KL1_21 n (v2_1 + 1) σ15))
def F_M_reads (x1 : Int32) (σ : GS) : Option (Int32 × GS) :=
  jn (fun (v2_1 : Int32) (σL1 : GS) => jn (s1 σL1 63 15 (0 : Int32)) (fun (σ2 : GS) => jn (fun (σL3 : GS) => some ((-9 : Int32), σL3)) (fun KL3_75 => jn (fun (σL3 : GS) => some (σL3.1 63 15, σL3)) (fun KL3_70 => F_M_reads_26 x1 KL3_75 KL3_70 50000 σ2)))) (fun KL1_21 => F_M_reads_2 x1 KL1_21 50000 (0 : Int32) σ)
def F_M_fault (x1 : Int32) (σ : GS) : Option (Int32 × GS) :=
  bp (F_M_isText x1) (fun (r2 : Int32) => if r2 = (0 : Int32) then some ((-1 : Int32), σ) else gd (iB x1 4) (if (0 : Int32) ≤ (σ.1 66 x1.toNatClampNeg) then bc (F_M_reads x1 σ) (fun (r5 : Int32) (σ6 : GS) => some (r5, σ6)) else bc (F_M_found (1 : Int32) σ) (fun (r8 : Int32) (σ9 : GS) => some (r8, σ9))))
def F_M_town_65  (KL8_83 : Int32 → GS → Option (Int32 × GS)) : Nat → Int32 → GS → Option (Int32 × GS)
  | 0, _, _ => none
  | n + 1, v2_8, σL8 => if (3 : Int32) ≤ v2_8 then KL8_83 v2_8 σL8 else gd (iB v2_8 3) (jn (s1 σL8 72 v2_8.toNatClampNeg (vp_nar .boolean (0 : Int32))) (fun (σ10 : GS) => F_M_town_65 KL8_83 n (v2_8 + 1) σ10))
def F_M_town_39  (KL7_63 : Int32 → GS → Option (Int32 × GS)) : Nat → Int32 → GS → Option (Int32 × GS)
  | 0, _, _ => none
  | n + 1, v2_7, σL7 => if (27 : Int32) ≤ v2_7 then KL7_63 v2_7 σL7 else gd (iB v2_7 27) (gd (iB v2_7 27) (jn (s1 σL7 68 v2_7.toNatClampNeg (σL7.1 74 v2_7.toNatClampNeg)) (fun (σ14 : GS) => F_M_town_39 KL7_63 n (v2_7 + 1) σ14)))
def F_M_town (x1 : Int32) (σ : GS) : Option (Int32 × GS) :=
  bp (F_M_isText x1) (fun (r2 : Int32) => if r2 = (0 : Int32) then some ((-1 : Int32), σ) else gd (iB x1 4) (if (0 : Int32) ≤ (σ.1 66 x1.toNatClampNeg) then bc (F_M_reads x1 σ) (fun (r5 : Int32) (σ6 : GS) => if r5 = (-9 : Int32) then jn (fun (v2_7 : Int32) (σL7 : GS) => jn (fun (v2_8 : Int32) (σL8 : GS) => some (σL8.1 68 0, σL8)) (fun KL8_83 => F_M_town_65 KL8_83 50000 (0 : Int32) σL7)) (fun KL7_63 => F_M_town_39 KL7_63 50000 (0 : Int32) σ6) else some ((-4 : Int32), σ6)) else bc (F_M_found (1 : Int32) σ) (fun (r18 : Int32) (σ19 : GS) => some (r18, σ19))))
def F_M_isLast_7 (q0 : Nat) (x1 : Int32) (x2 : Int32) (σ : GS) (KL1_42 : Int32 → Int32 → Option (Int32)) : Nat → Int32 → Int32 → Option (Int32)
  | 0, _, _ => none
  | n + 1, v3_1, v4_1 => if x1 ≤ v4_1 then KL1_42 v3_1 v4_1 else if v3_1 = (0 : Int32) then F_M_isLast_7 q0 x1 x2 σ KL1_42 n (0 : Int32) (v4_1 + 1) else gd (iB v4_1 64) (gd (iB x2 64) (bp (F_M_areNeighbours (σ.1 q0 v4_1.toNatClampNeg) (σ.1 q0 x2.toNatClampNeg)) (fun (r5 : Int32) => if r5 = (0 : Int32) then F_M_isLast_7 q0 x1 x2 σ KL1_42 n (0 : Int32) (v4_1 + 1) else F_M_isLast_7 q0 x1 x2 σ KL1_42 n (1 : Int32) (v4_1 + 1))))
def F_M_isLast (q0 : Nat) (x1 : Int32) (x2 : Int32) (σ : GS) : Option (Int32) :=
  jn (fun (v3_1 : Int32) (v4_1 : Int32) => gd (bB v3_1) (some v3_1)) (fun KL1_42 => F_M_isLast_7 q0 x1 x2 σ KL1_42 50000 (1 : Int32) (x2 + (1 : Int32)))
def F_M_isCode_12  (KL3_49 : Int32 → Int32 → Option (Int32)) : Nat → Int32 → Int32 → Option (Int32)
  | 0, _, _ => none
  | n + 1, v1_3, v2_3 => if v2_3 ≤ (0 : Int32) then KL3_49 v1_3 v2_3 else jn (fun (tJ4 : Int32) => F_M_isCode_12 KL3_49 n tJ4 (v2_3 / (10 : Int32))) (fun J4 => jn (fun (dJ5 : Unit) => J4 (0 : Int32)) (fun J5 => if v1_3 = (0 : Int32) then J5 () else bp (F_M_in ((v2_3 - v2_3 / (10 : Int32) * (10 : Int32)).toInt64) (1 : Int64) (5 : Int64)) (fun (r7 : Int32) => if r7 = (0 : Int32) then J5 () else J4 (1 : Int32))))
def F_M_isCode (x0 : Int32) : Option (Int32) :=
  bp (F_M_in x0.toInt64 (0 : Int64) (555555555 : Int64)) (fun (r2 : Int32) => jn (fun (v1_3 : Int32) (v2_3 : Int32) => gd (bB v1_3) (some v1_3)) (fun KL3_49 => F_M_isCode_12 KL3_49 50000 r2 x0))
def F_M_figures_4  (KL1_19 : Int32 → Int32 → Option (Int32)) : Nat → Int32 → Int32 → Option (Int32)
  | 0, _, _ => none
  | n + 1, v1_1, v2_1 => if v2_1 ≤ (0 : Int32) then KL1_19 v1_1 v2_1 else F_M_figures_4 KL1_19 n (v1_1 + 1) (v2_1 / (10 : Int32))
def F_M_figures (x0 : Int32) : Option (Int32) :=
  jn (fun (v1_1 : Int32) (v2_1 : Int32) => some v1_1) (fun KL1_19 => F_M_figures_4 KL1_19 50000 (0 : Int32) x0)
def F_M_follow_31 (q0 : Nat) (x2 : Int32) (KL2_65 : Int32 → Int32 → GS → Option (Int32 × GS)) : Nat → Int32 → Int32 → GS → Option (Int32 × GS)
  | 0, _, _, _ => none
  | n + 1, v3_2, v4_2, σL2 => if x2 ≤ (0 : Int32) then KL2_65 v3_2 v4_2 σL2 else if v3_2 ≤ (0 : Int32) then KL2_65 v3_2 v4_2 σL2 else gd (zB v3_2) (bc (F_M_times q0 v4_2 (((x2 / v3_2) - (x2 / v3_2) / (10 : Int32) * (10 : Int32)) - (1 : Int32)) σL2) (fun (r4 : Int32) (σ5 : GS) => F_M_follow_31 q0 x2 KL2_65 n (v3_2 / (10 : Int32)) r4 σ5))
def F_M_follow_5 (q0 : Nat) (x1 : Int32) (x2 : Int32) (σ : GS) (KL1_25 : Int32 → Int32 → Option (Int32 × GS)) : Nat → Int32 → Int32 → Option (Int32 × GS)
  | 0, _, _ => none
  | n + 1, v3_1, v4_1 => bp (F_M_figures x2) (fun (r9 : Int32) => if r9 ≤ v4_1 then KL1_25 v3_1 v4_1 else F_M_follow_5 q0 x1 x2 σ KL1_25 n (v3_1 * (10 : Int32)) (v4_1 + 1))
def F_M_follow (q0 : Nat) (x1 : Int32) (x2 : Int32) (σ : GS) : Option (Int32 × GS) :=
  jn (fun (v3_1 : Int32) (v4_1 : Int32) => jn (fun (v3_2 : Int32) (v4_2 : Int32) (σL2 : GS) => some (v4_2, σL2)) (fun KL2_65 => F_M_follow_31 q0 x2 KL2_65 50000 v3_1 x1 σ)) (fun KL1_25 => F_M_follow_5 q0 x1 x2 σ KL1_25 50000 (1 : Int32) (1 : Int32))
def F_M_followBack_5 (q0 : Nat) (KL1_33 : Int32 → Int32 → GS → Option (Int32 × GS)) : Nat → Int32 → Int32 → GS → Option (Int32 × GS)
  | 0, _, _, _ => none
  | n + 1, v3_1, v4_1, σL1 => if v4_1 ≤ (0 : Int32) then KL1_33 v3_1 v4_1 σL1 else bc (F_M_times q0 v3_1 ((v4_1 - v4_1 / (10 : Int32) * (10 : Int32)) - (1 : Int32)) σL1) (fun (r3 : Int32) (σ4 : GS) => F_M_followBack_5 q0 KL1_33 n r3 (v4_1 / (10 : Int32)) σ4)
def F_M_followBack (q0 : Nat) (x1 : Int32) (x2 : Int32) (σ : GS) : Option (Int32 × GS) :=
  jn (fun (v3_1 : Int32) (v4_1 : Int32) (σL1 : GS) => some (v3_1, σL1)) (fun KL1_33 => F_M_followBack_5 q0 KL1_33 50000 x1 x2 σ)
def F_M_wordFrom (q0 : Nat) (x1 : Int32) (x2 : Int32) (σ : GS) : Option (Int32 × GS) :=
  bc (F_M_followBack q0 (0 : Int32) x1 σ) (fun (r2 : Int32) (σ3 : GS) => bc (F_M_follow q0 r2 x2 σ3) (fun (r5 : Int32) (σ6 : GS) => some (r5, σ6)))
def F_M_farOf (x1 : Int32) (x2 : Int32) (σ : GS) : Option (Int32 × GS) :=
  bc (F_M_wordFrom 75 x1 x2 σ) (fun (r2 : Int32) (σ3 : GS) => some (r2, σ3))
def F_M_plainOf (x1 : Int32) (σ : GS) : Option (Int32 × GS) :=
  bc (F_M_follow 75 (0 : Int32) x1 σ) (fun (r2 : Int32) (σ3 : GS) => bc (F_M_codeOf 75 r2 σ3) (fun (r5 : Int32) (σ6 : GS) => some (r5, σ6)))
def F_M_lengthOf (x1 : Int32) (σ : GS) : Option (Int32 × GS) :=
  bc (F_M_follow 75 (0 : Int32) x1 σ) (fun (r2 : Int32) (σ3 : GS) => some (r2, σ3))
def F_M_endsOf_15 (r2 : Int32) (σ3 : GS) (KL4_56 : Int32 → Int32 → Option (Int32 × GS)) : Nat → Int32 → Int32 → Option (Int32 × GS)
  | 0, _, _ => none
  | n + 1, v3_4, v4_4 => if r2 ≤ v4_4 then KL4_56 v3_4 v4_4 else bp (F_M_isLast 75 r2 v4_4 σ3) (fun (r6 : Int32) => if r6 = (0 : Int32) then F_M_endsOf_15 r2 σ3 KL4_56 n (v3_4 ||| (0 : Int32)) (v4_4 + 1) else gd (iB v4_4 64) (F_M_endsOf_15 r2 σ3 KL4_56 n (v3_4 ||| ((1 : Int32) <<< ((σ3.1 75 v4_4.toNatClampNeg) &&& 31))) (v4_4 + 1)))
def F_M_endsOf (x1 : Int32) (σ : GS) : Option (Int32 × GS) :=
  bc (F_M_follow 75 (0 : Int32) x1 σ) (fun (r2 : Int32) (σ3 : GS) => jn (fun (v3_4 : Int32) (v4_4 : Int32) => some (v3_4, σ3)) (fun KL4_56 => F_M_endsOf_15 r2 σ3 KL4_56 50000 (0 : Int32) (0 : Int32)))
def F_M_bits_4  (KL1_20 : Int32 → Int32 → Option (Int32)) : Nat → Int32 → Int32 → Option (Int32)
  | 0, _, _ => none
  | n + 1, v1_1, v2_1 => if v2_1 = (0 : Int32) then KL1_20 v1_1 v2_1 else F_M_bits_4 KL1_20 n (v1_1 + 1) (v2_1 &&& (v2_1 - (1 : Int32)))
def F_M_bits (x0 : Int32) : Option (Int32) :=
  jn (fun (v1_1 : Int32) (v2_1 : Int32) => some v1_1) (fun KL1_20 => F_M_bits_4 KL1_20 50000 (0 : Int32) x0)
def F_M_lowest_2 (x0 : Int32) (KL1_16 : Int32 → Option (Int32)) : Nat → Int32 → Option (Int32)
  | 0, _ => none
  | n + 1, v1_1 => if ((x0 >>> (v1_1 &&& 31)) &&& (1 : Int32)) = (0 : Int32) then F_M_lowest_2 x0 KL1_16 n (v1_1 + 1) else KL1_16 v1_1
def F_M_lowest (x0 : Int32) : Option (Int32) :=
  jn (fun (v1_1 : Int32) => some v1_1) (fun KL1_16 => F_M_lowest_2 x0 KL1_16 50000 (0 : Int32))
def F_M_turns (q0 : Nat) (x1 : Int32) (σ : GS) : Option (GS) :=
  gd (iB ((2 : Int32) + x1) 27) (jn (fun (tJ2 : Int32) => jn (fun (tJ3 : Int32) => gd (iB ((12 : Int32) + x1) 27) (jn (fun (tJ5 : Int32) => gd (iB ((12 : Int32) + x1) 27) (jn (s1 σ q0 (((12 : Int32) + x1).toNatClampNeg) (((σ.1 q0 ((12 : Int32) + x1).toNatClampNeg) + tJ5) - ((σ.1 q0 ((12 : Int32) + x1).toNatClampNeg) + tJ5) / (5 : Int32) * (5 : Int32))) (fun (σ7 : GS) => if tJ2 ≤ (0 : Int32) then gd (iB ((17 : Int32) + x1) 27) (jn (s1 σ7 q0 (((17 : Int32) + x1).toNatClampNeg) (0 : Int32)) (fun (σ9 : GS) => some σ9)) else if (σ.1 q0 ((2 : Int32) + x1).toNatClampNeg) = (5 : Int32) then gd (iB ((17 : Int32) + x1) 27) (jn (s1 σ7 q0 (((17 : Int32) + x1).toNatClampNeg) (0 : Int32)) (fun (σ11 : GS) => some σ11)) else gd (iB ((17 : Int32) + x1) 27) (gd (iB ((17 : Int32) + x1) 27) (jn (s1 σ7 q0 (((17 : Int32) + x1).toNatClampNeg) ((1 : Int32) - (σ7.1 q0 ((17 : Int32) + x1).toNatClampNeg))) (fun (σ14 : GS) => some σ14)))))) (fun J5 => if tJ3 = (0 : Int32) then J5 tJ2 else J5 ((5 : Int32) - tJ2)))) (fun J3 => jn (fun (dJ18 : Unit) => J3 (0 : Int32)) (fun J18 => if (σ.1 q0 ((2 : Int32) + x1).toNatClampNeg) = (5 : Int32) then J18 () else gd (iB ((17 : Int32) + x1) 27) (if (σ.1 q0 ((17 : Int32) + x1).toNatClampNeg) = (1 : Int32) then J3 (1 : Int32) else J18 ())))) (fun J2 => jn (fun (dJ22 : Unit) => J2 (2 : Int32)) (fun J22 => if (σ.1 q0 ((2 : Int32) + x1).toNatClampNeg) = (1 : Int32) then J22 () else if (σ.1 q0 ((2 : Int32) + x1).toNatClampNeg) = (4 : Int32) then J22 () else if (σ.1 q0 ((2 : Int32) + x1).toNatClampNeg) = (2 : Int32) then J2 (1 : Int32) else if (σ.1 q0 ((2 : Int32) + x1).toNatClampNeg) = (5 : Int32) then J2 (1 : Int32) else J2 (0 : Int32))))
def F_M_goes (q1 : Nat) (x2 : Int32) (σ : GS) : Option (GS) :=
  gd (iB ((2 : Int32) + x2) 27) (gd (iB ((7 : Int32) + x2) 27) (bc (F_M_endsOf (σ.1 q1 ((7 : Int32) + x2).toNatClampNeg) σ) (fun (r4 : Int32) (σ5 : GS) => jn (fun (dJ6 : Unit) => jn (fun (tJ7 : Int32) => gd (iB ((7 : Int32) + x2) 27) (bc (F_M_follow 75 (0 : Int32) (σ5.1 q1 ((7 : Int32) + x2).toNatClampNeg) σ5) (fun (r10 : Int32) (σ11 : GS) => bc (F_M_times 75 r10 tJ7 σ11) (fun (r13 : Int32) (σ14 : GS) => if (9 : Int32) < r13 then bv (F_M_turns q1 x2 σ14) (fun (σ16 : GS) => some σ16) else bc (F_M_codeOf 75 r13 σ14) (fun (r18 : Int32) (σ19 : GS) => gd (iB ((7 : Int32) + x2) 27) (jn (s1 σ19 q1 (((7 : Int32) + x2).toNatClampNeg) r18) (fun (σ21 : GS) => gd (iB ((22 : Int32) + x2) 27) (gd (iB ((22 : Int32) + x2) 27) (jn (s1 σ21 q1 (((22 : Int32) + x2).toNatClampNeg) ((σ21.1 q1 ((22 : Int32) + x2).toNatClampNeg) + (1 : Int32))) (fun (σ24 : GS) => bv (F_M_turns q1 x2 σ24) (fun (σ26 : GS) => some σ26))))))))))) (fun J7 => if (σ.1 q1 ((2 : Int32) + x2).toNatClampNeg) = (3 : Int32) then bp (F_M_lowest r4) (fun (r30 : Int32) => J7 r30) else gd (iB ((12 : Int32) + x2) 27) (J7 (σ5.1 q1 ((12 : Int32) + x2).toNatClampNeg)))) (fun J6 => if (σ.1 q1 ((2 : Int32) + x2).toNatClampNeg) = (3 : Int32) then if r4 = (0 : Int32) then some σ5 else J6 () else J6 ()))))
def F_M_hourOf (q1 : Nat) (x2 : Int32) (σ : GS) : Option (GS) :=
  bv (F_M_goes q1 x2 σ) (fun (σ2 : GS) => gd (iB ((2 : Int32) + x2) 27) (if (σ2.1 q1 ((2 : Int32) + x2).toNatClampNeg) = (4 : Int32) then bv (F_M_goes q1 x2 σ2) (fun (σ5 : GS) => some σ5) else some σ2))
def F_M_isWalker (x1 : Int32) (σ : GS) : Option (Int32) :=
  bp (F_M_in x1.toInt64 (0 : Int64) (((σ.1 68 0) - (1 : Int32)).toInt64)) (fun (r2 : Int32) => gd (bB r2) (some r2))
def F_M_isOf (x0 : Int32) (x1 : Int32) : Option (Int32) :=
  if x1 = (0 : Int32) then some (1 : Int32) else if x0 = x1 then some (1 : Int32) else jn (fun (dJ1 : Unit) => if x1 = (2 : Int32) then if x0 = (5 : Int32) then some (1 : Int32) else some (0 : Int32) else some (0 : Int32)) (fun J1 => if x1 = (1 : Int32) then if x0 = (4 : Int32) then some (1 : Int32) else J1 () else J1 ())
def F_M_told (x1 : Int32) (x2 : Int32) (σ : GS) : Option (Int32) :=
  if x2 = (0 : Int32) then gd (iB ((2 : Int32) + x1) 27) (some (σ.1 68 ((2 : Int32) + x1).toNatClampNeg)) else if x2 = (1 : Int32) then gd (iB ((7 : Int32) + x1) 27) (some (σ.1 68 ((7 : Int32) + x1).toNatClampNeg)) else if x2 = (2 : Int32) then gd (iB ((12 : Int32) + x1) 27) (some (σ.1 68 ((12 : Int32) + x1).toNatClampNeg)) else if x2 = (3 : Int32) then gd (iB ((22 : Int32) + x1) 27) (some (σ.1 68 ((22 : Int32) + x1).toNatClampNeg)) else gd (iB ((7 : Int32) + x1) 27) (bp (F_M_figures (σ.1 68 ((7 : Int32) + x1).toNatClampNeg)) (fun (r3 : Int32) => some r3))
def F_M_walker (x1 : Int32) (x2 : Int32) (σ : GS) : Option (Int32 × GS) :=
  bp (F_M_isWalker x1 σ) (fun (r2 : Int32) => if r2 = (0 : Int32) then some ((-1 : Int32), σ) else bp (F_M_in x2.toInt64 (0 : Int64) (4 : Int64)) (fun (r4 : Int32) => if r4 = (0 : Int32) then some ((-1 : Int32), σ) else bp (F_M_told x1 x2 σ) (fun (r6 : Int32) => bc (F_M_tell r6 σ) (fun (r8 : Int32) (σ9 : GS) => some (r8, σ9)))))
def F_M_tries_2  (KL1_26 : Int32 → GS → Option (GS)) : Nat → Int32 → GS → Option (GS)
  | 0, _, _ => none
  | n + 1, v1_1, σL1 => if (27 : Int32) ≤ v1_1 then KL1_26 v1_1 σL1 else gd (iB v1_1 27) (gd (iB v1_1 27) (jn (s1 σL1 80 v1_1.toNatClampNeg (σL1.1 68 v1_1.toNatClampNeg)) (fun (σ4 : GS) => F_M_tries_2 KL1_26 n (v1_1 + 1) σ4)))
def F_M_tries (σ : GS) : Option (GS) :=
  jn (fun (v1_1 : Int32) (σL1 : GS) => some σL1) (fun KL1_26 => F_M_tries_2 KL1_26 50000 (0 : Int32) σ)
def F_M_mark_174 (x1 : Int32) (σ9 : GS) (KL10_227 : Int32 → Int32 → Option (Int32 × GS)) : Nat → Int32 → Int32 → Option (Int32 × GS)
  | 0, _, _ => none
  | n + 1, v3_10, v4_10 => if (σ9.1 68 0) ≤ v4_10 then KL10_227 v3_10 v4_10 else jn (fun (dJ11 : Unit) => F_M_mark_174 x1 σ9 KL10_227 n (v3_10 + (0 : Int32)) (v4_10 + 1)) (fun J11 => if v4_10 = x1 then J11 () else gd (iB ((7 : Int32) + v4_10) 27) (gd (iB ((7 : Int32) + x1) 27) (if (σ9.1 68 ((7 : Int32) + v4_10).toNatClampNeg) = (σ9.1 68 ((7 : Int32) + x1).toNatClampNeg) then F_M_mark_174 x1 σ9 KL10_227 n (v3_10 + (1 : Int32)) (v4_10 + 1) else J11 ())))
def F_M_mark_77 (x1 : Int32) (KL30_97 : Int32 → GS → Option (Int32 × GS)) : Nat → Int32 → GS → Option (Int32 × GS)
  | 0, _, _ => none
  | n + 1, v3_30, σL30 => if (4 : Int32) ≤ v3_30 then KL30_97 v3_30 σL30 else bv (F_M_goes 80 x1 σL30) (fun (σ37 : GS) => F_M_mark_77 x1 KL30_97 n (v3_30 + 1) σ37)
def F_M_mark (x1 : Int32) (x2 : Int32) (σ : GS) : Option (Int32 × GS) :=
  bp (F_M_isWalker x1 σ) (fun (r2 : Int32) => if r2 = (0 : Int32) then some ((-1 : Int32), σ) else bp (F_M_in x2.toInt64 (1 : Int64) (5 : Int64)) (fun (r4 : Int32) => if r4 = (0 : Int32) then some ((-1 : Int32), σ) else gd (iB ((2 : Int32) + x1) 27) (bp (F_M_isOf (σ.1 68 ((2 : Int32) + x1).toNatClampNeg) x2) (fun (r7 : Int32) => if r7 = (0 : Int32) then bc (F_M_found (3 : Int32) σ) (fun (r45 : Int32) (σ46 : GS) => some (r45, σ46)) else bv (F_M_tries σ) (fun (σ9 : GS) => if x2 = (1 : Int32) then bv (F_M_turns 80 x1 σ9) (fun (σ41 : GS) => gd (iB ((12 : Int32) + x1) 27) (some (σ41.1 80 ((12 : Int32) + x1).toNatClampNeg, σ41))) else if x2 = (2 : Int32) then jn (fun (v3_30 : Int32) (σL30 : GS) => gd (iB ((7 : Int32) + x1) 27) (gd (iB ((7 : Int32) + x1) 27) (bc (F_M_farOf (σL30.1 68 ((7 : Int32) + x1).toNatClampNeg) (σL30.1 80 ((7 : Int32) + x1).toNatClampNeg) σL30) (fun (r34 : Int32) (σ35 : GS) => some (r34, σ35))))) (fun KL30_97 => F_M_mark_77 x1 KL30_97 50000 (0 : Int32) σ9) else if x2 = (3 : Int32) then gd (iB ((7 : Int32) + x1) 27) (bc (F_M_endsOf (σ9.1 68 ((7 : Int32) + x1).toNatClampNeg) σ9) (fun (r25 : Int32) (σ26 : GS) => bp (F_M_bits r25) (fun (r28 : Int32) => some (r28, σ26)))) else if x2 = (4 : Int32) then bv (F_M_hourOf 80 x1 σ9) (fun (σ18 : GS) => gd (iB ((7 : Int32) + x1) 27) (bp (F_M_figures (σ18.1 80 ((7 : Int32) + x1).toNatClampNeg)) (fun (r21 : Int32) => some (r21, σ18)))) else jn (fun (v3_10 : Int32) (v4_10 : Int32) => some (v3_10, σ9)) (fun KL10_227 => F_M_mark_174 x1 σ9 KL10_227 50000 (0 : Int32) (0 : Int32)))))))
def F_M_stand (x1 : Int32) (x2 : Int32) (σ : GS) : Option (Int32 × GS) :=
  bp (F_M_isWalker x1 σ) (fun (r2 : Int32) => if r2 = (0 : Int32) then some ((-1 : Int32), σ) else bp (F_M_isCode x2) (fun (r4 : Int32) => if r4 = (0 : Int32) then some ((-1 : Int32), σ) else gd (iB ((7 : Int32) + x1) 27) (bc (F_M_plainOf x2 σ) (fun (r7 : Int32) (σ8 : GS) => gd (iB ((7 : Int32) + x1) 27) (jn (s1 σ8 68 (((7 : Int32) + x1).toNatClampNeg) r7) (fun (σ10 : GS) => some (σ.1 68 ((7 : Int32) + x1).toNatClampNeg, σ10)))))))
def F_M_head (x1 : Int32) (x2 : Int32) (σ : GS) : Option (Int32 × GS) :=
  bp (F_M_isWalker x1 σ) (fun (r2 : Int32) => if r2 = (0 : Int32) then some ((-1 : Int32), σ) else bp (F_M_isStreet x2) (fun (r4 : Int32) => if r4 = (0 : Int32) then some ((-1 : Int32), σ) else gd (iB ((12 : Int32) + x1) 27) (gd (iB ((12 : Int32) + x1) 27) (jn (s1 σ 68 (((12 : Int32) + x1).toNatClampNeg) x2) (fun (σ7 : GS) => gd (iB ((17 : Int32) + x1) 27) (jn (s1 σ7 68 (((17 : Int32) + x1).toNatClampNeg) (0 : Int32)) (fun (σ9 : GS) => some (σ.1 68 ((12 : Int32) + x1).toNatClampNeg, σ9))))))))
def F_M_hours_87 (x1 : Int32) (v2_3 : Int32) (KL5_112 : Int32 → GS → Option (Int32 × GS)) : Nat → Int32 → GS → Option (Int32 × GS)
  | 0, _, _ => none
  | n + 1, v3_5, σL5 => if (σL5.1 68 0) ≤ v3_5 then KL5_112 v3_5 σL5 else bv (F_M_hourOf 68 v3_5 σL5) (fun (σ8 : GS) => F_M_hours_87 x1 v2_3 KL5_112 n (v3_5 + 1) σ8)
def F_M_hours_51 (x1 : Int32) (v2_3 : Int32) (KL4_85 : Int32 → GS → Option (Int32 × GS)) : Nat → Int32 → GS → Option (Int32 × GS)
  | 0, _, _ => none
  | n + 1, v3_4, σL4 => if (27 : Int32) ≤ v3_4 then KL4_85 v3_4 σL4 else gd (iB v3_4 27) (gd (iB (((27 : Int32) * (σL4.1 68 1)) + v3_4) 1620) (jn (s1 σL4 69 ((((27 : Int32) * (σL4.1 68 1)) + v3_4).toNatClampNeg) (σL4.1 68 v3_4.toNatClampNeg)) (fun (σ12 : GS) => F_M_hours_51 x1 v2_3 KL4_85 n (v3_4 + 1) σ12)))
def F_M_hours_44 (x1 : Int32) (KL3_128 : Int32 → GS → Option (Int32 × GS)) : Nat → Int32 → GS → Option (Int32 × GS)
  | 0, _, _ => none
  | n + 1, v2_3, σL3 => if x1 ≤ v2_3 then KL3_128 v2_3 σL3 else jn (fun (v3_4 : Int32) (σL4 : GS) => jn (fun (v3_5 : Int32) (σL5 : GS) => jn (s1 σL5 68 1 ((σL5.1 68 1) + (1 : Int32))) (fun (σ6 : GS) => F_M_hours_44 x1 KL3_128 n (v2_3 + 1) σ6)) (fun KL5_112 => F_M_hours_87 x1 v2_3 KL5_112 50000 (0 : Int32) σL4)) (fun KL4_85 => F_M_hours_51 x1 v2_3 KL4_85 50000 (0 : Int32) σL3)
def F_M_hours (x1 : Int32) (σ : GS) : Option (Int32 × GS) :=
  bp (F_M_in x1.toInt64 (0 : Int64) (20 : Int64)) (fun (r2 : Int32) => if r2 = (0 : Int32) then some ((-1 : Int32), σ) else if (σ.1 68 0) = (0 : Int32) then some ((-4 : Int32), σ) else if ((σ.1 68 1) + x1) ≤ (60 : Int32) then jn (fun (v2_3 : Int32) (σL3 : GS) => some (σL3.1 68 1, σL3)) (fun KL3_128 => F_M_hours_44 x1 KL3_128 50000 (0 : Int32) σ) else some ((-2 : Int32), σ))
def F_M_undo_29 (x1 : Int32) (u2_3 : Int32) (KL4_62 : Int32 → GS → Option (Int32 × GS)) : Nat → Int32 → GS → Option (Int32 × GS)
  | 0, _, _ => none
  | n + 1, v3_4, σL4 => if (27 : Int32) ≤ v3_4 then KL4_62 v3_4 σL4 else if u2_3 ≤ (0 : Int32) then KL4_62 v3_4 σL4 else gd (iB (((27 : Int32) * x1) + v3_4) 1620) (gd (iB v3_4 27) (jn (s1 σL4 68 v3_4.toNatClampNeg (σL4.1 69 (((27 : Int32) * x1) + v3_4).toNatClampNeg)) (fun (σ7 : GS) => F_M_undo_29 x1 u2_3 KL4_62 n (v3_4 + 1) σ7)))
def F_M_undo (x1 : Int32) (σ : GS) : Option (Int32 × GS) :=
  bp (F_M_in x1.toInt64 (0 : Int64) ((σ.1 68 1).toInt64)) (fun (r2 : Int32) => if r2 = (0 : Int32) then some ((-1 : Int32), σ) else jn ((σ.1 68 1) - x1 : Int32) (fun u2_3 => jn (fun (v3_4 : Int32) (σL4 : GS) => some (u2_3, σL4)) (fun KL4_62 => F_M_undo_29 x1 u2_3 KL4_62 50000 (0 : Int32) σ)))
def F_M_keep_59 (x1 : Int32) (KL4_90 : Int32 → GS → Option (Int32 × GS)) : Nat → Int32 → GS → Option (Int32 × GS)
  | 0, _, _ => none
  | n + 1, v2_4, σL4 => if (1620 : Int32) ≤ v2_4 then KL4_90 v2_4 σL4 else gd (iB v2_4 1620) (gd (iB (((1620 : Int32) * x1) + v2_4) 4860) (jn (s1 σL4 71 ((((1620 : Int32) * x1) + v2_4).toNatClampNeg) (σL4.1 69 v2_4.toNatClampNeg)) (fun (σ9 : GS) => F_M_keep_59 x1 KL4_90 n (v2_4 + 1) σ9)))
def F_M_keep_28 (x1 : Int32) (KL3_57 : Int32 → GS → Option (Int32 × GS)) : Nat → Int32 → GS → Option (Int32 × GS)
  | 0, _, _ => none
  | n + 1, v2_3, σL3 => if (27 : Int32) ≤ v2_3 then KL3_57 v2_3 σL3 else gd (iB v2_3 27) (gd (iB (((27 : Int32) * x1) + v2_3) 81) (jn (s1 σL3 70 ((((27 : Int32) * x1) + v2_3).toNatClampNeg) (σL3.1 68 v2_3.toNatClampNeg)) (fun (σ13 : GS) => F_M_keep_28 x1 KL3_57 n (v2_3 + 1) σ13)))
def F_M_keep (x1 : Int32) (σ : GS) : Option (Int32 × GS) :=
  bp (F_M_in x1.toInt64 (0 : Int64) (2 : Int64)) (fun (r2 : Int32) => if r2 = (0 : Int32) then some ((-1 : Int32), σ) else if (σ.1 68 0) = (0 : Int32) then some ((-4 : Int32), σ) else jn (fun (v2_3 : Int32) (σL3 : GS) => jn (fun (v2_4 : Int32) (σL4 : GS) => gd (iB x1 3) (jn (s1 σL4 72 x1.toNatClampNeg (vp_nar .boolean (1 : Int32))) (fun (σ6 : GS) => some (σ6.1 68 1, σ6)))) (fun KL4_90 => F_M_keep_59 x1 KL4_90 50000 (0 : Int32) σL3)) (fun KL3_57 => F_M_keep_28 x1 KL3_57 50000 (0 : Int32) σ))
def F_M_on_62 (x1 : Int32) (KL5_93 : Int32 → GS → Option (Int32 × GS)) : Nat → Int32 → GS → Option (Int32 × GS)
  | 0, _, _ => none
  | n + 1, v2_5, σL5 => if (1620 : Int32) ≤ v2_5 then KL5_93 v2_5 σL5 else gd (iB (((1620 : Int32) * x1) + v2_5) 4860) (gd (iB v2_5 1620) (jn (s1 σL5 69 v2_5.toNatClampNeg (σL5.1 71 (((1620 : Int32) * x1) + v2_5).toNatClampNeg)) (fun (σ8 : GS) => F_M_on_62 x1 KL5_93 n (v2_5 + 1) σ8)))
def F_M_on_31 (x1 : Int32) (KL4_60 : Int32 → GS → Option (Int32 × GS)) : Nat → Int32 → GS → Option (Int32 × GS)
  | 0, _, _ => none
  | n + 1, v2_4, σL4 => if (27 : Int32) ≤ v2_4 then KL4_60 v2_4 σL4 else gd (iB (((27 : Int32) * x1) + v2_4) 81) (gd (iB v2_4 27) (jn (s1 σL4 68 v2_4.toNatClampNeg (σL4.1 70 (((27 : Int32) * x1) + v2_4).toNatClampNeg)) (fun (σ12 : GS) => F_M_on_31 x1 KL4_60 n (v2_4 + 1) σ12)))
def F_M_on (x1 : Int32) (σ : GS) : Option (Int32 × GS) :=
  bp (F_M_in x1.toInt64 (0 : Int64) (2 : Int64)) (fun (r2 : Int32) => if r2 = (0 : Int32) then some ((-1 : Int32), σ) else gd (iB x1 3) (if (σ.1 72 x1.toNatClampNeg) = (0 : Int32) then bc (F_M_found (1 : Int32) σ) (fun (r15 : Int32) (σ16 : GS) => some (r15, σ16)) else jn (fun (v2_4 : Int32) (σL4 : GS) => jn (fun (v2_5 : Int32) (σL5 : GS) => some (σL5.1 68 1, σL5)) (fun KL5_93 => F_M_on_62 x1 KL5_93 50000 (0 : Int32) σL4)) (fun KL4_60 => F_M_on_31 x1 KL4_60 50000 (0 : Int32) σ)))
def F_M_areCodes (x0 : Int32) (x1 : Int32) : Option (Int32) :=
  bp (F_M_isCode x0) (fun (r2 : Int32) => if r2 = (0 : Int32) then some (0 : Int32) else bp (F_M_isCode x1) (fun (r4 : Int32) => if r4 = (0 : Int32) then some (0 : Int32) else some (1 : Int32)))
def F_M_plain (x1 : Int32) (σ : GS) : Option (Int32 × GS) :=
  bp (F_M_isCode x1) (fun (r2 : Int32) => if r2 = (0 : Int32) then some ((-1 : Int32), σ) else bc (F_M_plainOf x1 σ) (fun (r4 : Int32) (σ5 : GS) => some (r4, σ5)))
def F_M_join (x1 : Int32) (x2 : Int32) (σ : GS) : Option (Int32 × GS) :=
  bp (F_M_areCodes x1 x2) (fun (r2 : Int32) => if r2 = (0 : Int32) then some ((-1 : Int32), σ) else bc (F_M_follow 75 (0 : Int32) x1 σ) (fun (r4 : Int32) (σ5 : GS) => bc (F_M_follow 75 r4 x2 σ5) (fun (r7 : Int32) (σ8 : GS) => if r7 ≤ (9 : Int32) then bc (F_M_codeOf 75 r7 σ8) (fun (r10 : Int32) (σ11 : GS) => some (r10, σ11)) else some ((-6 : Int32), σ8))))
def F_M_back (x1 : Int32) (σ : GS) : Option (Int32 × GS) :=
  bp (F_M_isCode x1) (fun (r2 : Int32) => if r2 = (0 : Int32) then some ((-1 : Int32), σ) else bc (F_M_followBack 75 (0 : Int32) x1 σ) (fun (r4 : Int32) (σ5 : GS) => bc (F_M_codeOf 75 r4 σ5) (fun (r7 : Int32) (σ8 : GS) => some (r7, σ8))))
def F_M_far (x1 : Int32) (x2 : Int32) (σ : GS) : Option (Int32 × GS) :=
  bp (F_M_areCodes x1 x2) (fun (r2 : Int32) => if r2 = (0 : Int32) then some ((-1 : Int32), σ) else bc (F_M_farOf x1 x2 σ) (fun (r4 : Int32) (σ5 : GS) => some (r4, σ5)))
def F_M_ends (x1 : Int32) (σ : GS) : Option (Int32 × GS) :=
  bp (F_M_isCode x1) (fun (r2 : Int32) => if r2 = (0 : Int32) then some ((-1 : Int32), σ) else bc (F_M_endsOf x1 σ) (fun (r4 : Int32) (σ5 : GS) => some (r4, σ5)))
def F_M_begins_24 (r4 : Int32) (σ5 : GS) (KL6_64 : Int32 → Int32 → Option (Int32 × GS)) : Nat → Int32 → Int32 → Option (Int32 × GS)
  | 0, _, _ => none
  | n + 1, v3_6, v4_6 => if r4 ≤ v4_6 then KL6_64 v3_6 v4_6 else bp (F_M_isFirst 75 v4_6 σ5) (fun (r8 : Int32) => if r8 = (0 : Int32) then F_M_begins_24 r4 σ5 KL6_64 n (v3_6 ||| (0 : Int32)) (v4_6 + 1) else gd (iB v4_6 64) (F_M_begins_24 r4 σ5 KL6_64 n (v3_6 ||| ((1 : Int32) <<< ((σ5.1 75 v4_6.toNatClampNeg) &&& 31))) (v4_6 + 1)))
def F_M_begins (x1 : Int32) (σ : GS) : Option (Int32 × GS) :=
  bp (F_M_isCode x1) (fun (r2 : Int32) => if r2 = (0 : Int32) then some ((-1 : Int32), σ) else bc (F_M_follow 75 (0 : Int32) x1 σ) (fun (r4 : Int32) (σ5 : GS) => jn (fun (v3_6 : Int32) (v4_6 : Int32) => some (v3_6, σ5)) (fun KL6_64 => F_M_begins_24 r4 σ5 KL6_64 50000 (0 : Int32) (0 : Int32))))
def F_M_adds_3 (x1 : Int32) (x2 : Int64) (σ : GS) (KL1_29 : Int32 → Option (GS)) : Nat → Int32 → Option (GS)
  | 0, _ => none
  | n + 1, v4_1 => if (σ.1 63 24) ≤ v4_1 then KL1_29 v4_1 else gd (iB v4_1 128) (if (σ.1 81 v4_1.toNatClampNeg) = x1 then KL1_29 v4_1 else F_M_adds_3 x1 x2 σ KL1_29 n (v4_1 + 1))
def F_M_adds (x1 : Int32) (x2 : Int64) (σ : GS) : Option (GS) :=
  jn (fun (v4_1 : Int32) => jn (fun (σJ2 : GS) => gd (iB v4_1 128) (gd (iB v4_1 128) (jn (s2 σJ2 82 v4_1.toNatClampNeg ((σJ2.2 82 v4_1.toNatClampNeg) + x2)) (fun (σ5 : GS) => some σ5)))) (fun J2 => if v4_1 = (σ.1 63 24) then gd (iB v4_1 128) (jn (s1 σ 81 v4_1.toNatClampNeg x1) (fun (σ7 : GS) => gd (iB v4_1 128) (jn (s2 σ7 82 v4_1.toNatClampNeg (0 : Int64)) (fun (σ9 : GS) => jn (s1 σ9 63 24 ((σ9.1 63 24) + (1 : Int32))) (fun (σ10 : GS) => J2 σ10))))) else J2 σ)) (fun KL1_29 => F_M_adds_3 x1 x2 σ KL1_29 50000 (0 : Int32))
def F_M_laySets_62 (q1 : Nat) (x2 : Int32) (v3_4 : Int32) (v4_5 : Int32) (σL5 : GS) (KL8_116 : Int32 → Int32 → Option (GS)) : Nat → Int32 → Int32 → Option (GS)
  | 0, _, _ => none
  | n + 1, v5_8, v6_8 => if v4_5 ≤ v6_8 then KL8_116 v5_8 v6_8 else if v5_8 = (0 : Int32) then F_M_laySets_62 q1 x2 v3_4 v4_5 σL5 KL8_116 n (0 : Int32) (v6_8 + 1) else gd (iB v3_4 128) (jn (fun (dJ15 : Unit) => F_M_laySets_62 q1 x2 v3_4 v4_5 σL5 KL8_116 n (1 : Int32) (v6_8 + 1)) (fun J15 => if (((σL5.1 81 v3_4.toNatClampNeg) >>> (v6_8 &&& 31)) &&& (1 : Int32)) = (1 : Int32) then J15 () else gd (iB v6_8 64) (gd (iB v4_5 64) (bp (F_M_areNeighbours (σL5.1 q1 v6_8.toNatClampNeg) (σL5.1 q1 v4_5.toNatClampNeg)) (fun (r19 : Int32) => if r19 = (0 : Int32) then F_M_laySets_62 q1 x2 v3_4 v4_5 σL5 KL8_116 n (0 : Int32) (v6_8 + 1) else J15 ())))))
def F_M_laySets_32 (q1 : Nat) (x2 : Int32) (v3_4 : Int32) (KL5_148 : Int32 → GS → Option (GS)) : Nat → Int32 → GS → Option (GS)
  | 0, _, _ => none
  | n + 1, v4_5, σL5 => if x2 ≤ v4_5 then KL5_148 v4_5 σL5 else gd (iB v3_4 128) (jn (fun (tJ7 : Int32) => jn (fun (v5_8 : Int32) (v6_8 : Int32) => if v5_8 = (0 : Int32) then F_M_laySets_32 q1 x2 v3_4 KL5_148 n (v4_5 + 1) σL5 else gd (iB v3_4 128) (gd (iB v3_4 128) (bv (F_M_adds ((σL5.1 81 v3_4.toNatClampNeg) ||| ((1 : Int32) <<< (v4_5 &&& 31))) (σL5.2 82 v3_4.toNatClampNeg) σL5) (fun (σ12 : GS) => F_M_laySets_32 q1 x2 v3_4 KL5_148 n (v4_5 + 1) σ12)))) (fun KL8_116 => F_M_laySets_62 q1 x2 v3_4 v4_5 σL5 KL8_116 50000 tJ7 (0 : Int32))) (fun J7 => if (((σL5.1 81 v3_4.toNatClampNeg) >>> (v4_5 &&& 31)) &&& (1 : Int32)) = (0 : Int32) then J7 (1 : Int32) else J7 (0 : Int32)))
def F_M_laySets_21 (q1 : Nat) (x2 : Int32) (KL4_154 : Int32 → GS → Option (GS)) : Nat → Int32 → GS → Option (GS)
  | 0, _, _ => none
  | n + 1, v3_4, σL4 => if (σL4.1 63 24) ≤ v3_4 then KL4_154 v3_4 σL4 else jn (fun (v4_5 : Int32) (σL5 : GS) => F_M_laySets_21 q1 x2 KL4_154 n (v3_4 + 1) σL5) (fun KL5_148 => F_M_laySets_32 q1 x2 v3_4 KL5_148 50000 (0 : Int32) σL4)
def F_M_laySets (q1 : Nat) (x2 : Int32) (σ : GS) : Option (GS) :=
  jn (s1 σ 81 0 (0 : Int32)) (fun (σ1 : GS) => jn (s2 σ1 82 0 (1 : Int64)) (fun (σ2 : GS) => jn (s1 σ2 63 24 (1 : Int32)) (fun (σ3 : GS) => jn (fun (v3_4 : Int32) (σL4 : GS) => some σL4) (fun KL4_154 => F_M_laySets_21 q1 x2 KL4_154 50000 (0 : Int32) σ3))))
def F_M_ways (x1 : Int32) (x2 : Int32) (σ : GS) : Option (Int32 × GS) :=
  bp (F_M_areCodes x1 x2) (fun (r2 : Int32) => if r2 = (0 : Int32) then some ((-1 : Int32), σ) else bc (F_M_farOf x1 x2 σ) (fun (r4 : Int32) (σ5 : GS) => bv (F_M_laySets 75 r4 σ5) (fun (σ7 : GS) => gd (iB ((σ7.1 63 24) - (1 : Int32)) 128) (bc (F_M_tells (σ7.2 82 ((σ7.1 63 24) - (1 : Int32)).toNatClampNeg) (1 : Int64) σ7) (fun (r10 : Int32) (σ11 : GS) => some (r10, σ11))))))
def F_M_between (x1 : Int32) (x2 : Int32) (σ : GS) : Option (Int32 × GS) :=
  bp (F_M_areCodes x1 x2) (fun (r2 : Int32) => if r2 = (0 : Int32) then some ((-1 : Int32), σ) else bc (F_M_farOf x1 x2 σ) (fun (r4 : Int32) (σ5 : GS) => bv (F_M_laySets 75 r4 σ5) (fun (σ7 : GS) => some (σ7.1 63 24, σ7))))
def F_M_lies (x1 : Int32) (x2 : Int32) (x3 : Int32) (σ : GS) : Option (Int32 × GS) :=
  bp (F_M_areCodes x1 x2) (fun (r2 : Int32) => if r2 = (0 : Int32) then some ((-1 : Int32), σ) else bp (F_M_isCode x3) (fun (r4 : Int32) => if r4 = (0 : Int32) then some ((-1 : Int32), σ) else bc (F_M_farOf x1 x3 σ) (fun (r6 : Int32) (σ7 : GS) => bc (F_M_farOf x3 x2 σ7) (fun (r9 : Int32) (σ10 : GS) => bc (F_M_farOf x1 x2 σ10) (fun (r12 : Int32) (σ13 : GS) => if (r6 + r9) = r12 then some ((1 : Int32), σ13) else some ((0 : Int32), σ13))))))
def F_M_path_51 (x3 : Int32) (r6 : Int32) (r11 : Int32) (KL13_83 : Int32 → GS → Option (Int32 × GS)) : Nat → Int32 → GS → Option (Int32 × GS)
  | 0, _, _ => none
  | n + 1, v6_13, σL13 => if r6 ≤ v6_13 then KL13_83 v6_13 σL13 else gd (iB v6_13 64) (gd (iB (((40 : Int32) * x3) + v6_13) 240) (jn (s1 σL13 65 ((((40 : Int32) * x3) + v6_13).toNatClampNeg) (σL13.1 79 v6_13.toNatClampNeg)) (fun (σ16 : GS) => F_M_path_51 x3 r6 r11 KL13_83 n (v6_13 + 1) σ16)))
def F_M_path (x1 : Int32) (x2 : Int32) (x3 : Int32) (σ : GS) : Option (Int32 × GS) :=
  bp (F_M_areCodes x1 x2) (fun (r2 : Int32) => if r2 = (0 : Int32) then some ((-1 : Int32), σ) else bp (F_M_isRow x3) (fun (r4 : Int32) => if r4 = (0 : Int32) then some ((-1 : Int32), σ) else bc (F_M_farOf x1 x2 σ) (fun (r6 : Int32) (σ7 : GS) => bv (F_M_layPlain 75 79 r6 σ7) (fun (σ9 : GS) => bc (F_M_row x3 r6 σ9) (fun (r11 : Int32) (σ12 : GS) => jn (fun (v6_13 : Int32) (σL13 : GS) => some (r11, σL13)) (fun KL13_83 => F_M_path_51 x3 r6 r11 KL13_83 50000 (0 : Int32) σ12))))))
def F_M_nearest_97 (x1 : Int32) (x2 : Int32) (x3 : Int32) (v5_6 : Int32) (r2 : Int32) (v7_6 : Int32) (KL14_128 : Int32 → Int32 → GS → Option (Int32 × GS)) : Nat → Int32 → Int32 → GS → Option (Int32 × GS)
  | 0, _, _, _ => none
  | n + 1, v8_14, v9_14, σL14 => if v7_6 ≤ v9_14 then KL14_128 v8_14 v9_14 σL14 else gd (iB v9_14 64) (bc (F_M_times 77 v8_14 (σL14.1 83 v9_14.toNatClampNeg) σL14) (fun (r18 : Int32) (σ19 : GS) => F_M_nearest_97 x1 x2 x3 v5_6 r2 v7_6 KL14_128 n r18 (v9_14 + 1) σ19))
def F_M_nearest_45 (x1 : Int32) (x2 : Int32) (x3 : Int32) (v5_6 : Int32) (r2 : Int32) (v7_6 : Int32) (KL7_74 : Int32 → Int32 → GS → Option (Int32 × GS)) : Nat → Int32 → Int32 → GS → Option (Int32 × GS)
  | 0, _, _, _ => none
  | n + 1, v8_7, v9_7, σL7 => if v9_7 < (0 : Int32) then KL7_74 v8_7 v9_7 σL7 else gd (iB v9_7 64) (bc (F_M_times 77 v8_7 (σL7.1 76 v9_7.toNatClampNeg) σL7) (fun (r23 : Int32) (σ24 : GS) => F_M_nearest_45 x1 x2 x3 v5_6 r2 v7_6 KL7_74 n r23 (v9_7 + (-1)) σ24))
def F_M_nearest_30 (x1 : Int32) (x2 : Int32) (x3 : Int32) (r2 : Int32) (KL6_150 : Int32 → Int32 → GS → Option (Int32 × GS)) : Nat → Int32 → Int32 → GS → Option (Int32 × GS)
  | 0, _, _, _ => none
  | n + 1, v5_6, v7_6, σL6 => if r2 < v7_6 then KL6_150 v5_6 v7_6 σL6 else jn (fun (v8_7 : Int32) (v9_7 : Int32) (σL7 : GS) => bc (F_M_followBack 77 v8_7 x2 σL7) (fun (r9 : Int32) (σ10 : GS) => bc (F_M_follow 77 r9 x3 σ10) (fun (r12 : Int32) (σ13 : GS) => jn (fun (v8_14 : Int32) (v9_14 : Int32) (σL14 : GS) => if v5_6 ≤ v8_14 then F_M_nearest_30 x1 x2 x3 r2 KL6_150 n v5_6 (v7_6 + 1) σL14 else F_M_nearest_30 x1 x2 x3 r2 KL6_150 n v8_14 (v7_6 + 1) σL14) (fun KL14_128 => F_M_nearest_97 x1 x2 x3 v5_6 r2 v7_6 KL14_128 50000 r12 (0 : Int32) σ13)))) (fun KL7_74 => F_M_nearest_45 x1 x2 x3 v5_6 r2 v7_6 KL7_74 50000 (0 : Int32) (x1 - (1 : Int32)) σL6)
def F_M_nearest (x1 : Int32) (x2 : Int32) (x3 : Int32) (x4 : Int32) (σ : GS) : Option (Int32 × GS) :=
  bc (F_M_farOf x3 x4 σ) (fun (r2 : Int32) (σ3 : GS) => bv (F_M_layPlain 75 83 r2 σ3) (fun (σ5 : GS) => jn (fun (v5_6 : Int32) (v7_6 : Int32) (σL6 : GS) => some (v5_6, σL6)) (fun KL6_150 => F_M_nearest_30 x1 x2 x3 r2 KL6_150 50000 (99 : Int32) (0 : Int32) σ5)))
def F_M_thin_45 (x1 : Int32) (x2 : Int32) (x3 : Int32) (r6 : Int32) (KL10_112 : Int32 → Int32 → GS → Option (Int32 × GS)) : Nat → Int32 → Int32 → GS → Option (Int32 × GS)
  | 0, _, _, _ => none
  | n + 1, v5_10, v6_10, σL10 => if r6 < v6_10 then KL10_112 v5_10 v6_10 σL10 else bc (F_M_nearest v6_10 x1 x1 x3 σL10) (fun (r12 : Int32) (σ13 : GS) => bc (F_M_nearest v6_10 x1 x2 x3 σ13) (fun (r15 : Int32) (σ16 : GS) => jn (fun (tJ17 : Int32) => if tJ17 ≤ v5_10 then F_M_thin_45 x1 x2 x3 r6 KL10_112 n v5_10 (v6_10 + 1) σ16 else F_M_thin_45 x1 x2 x3 r6 KL10_112 n tJ17 (v6_10 + 1) σ16) (fun J17 => if r15 ≤ r12 then J17 r15 else J17 r12)))
def F_M_thin (x1 : Int32) (x2 : Int32) (x3 : Int32) (σ : GS) : Option (Int32 × GS) :=
  bp (F_M_areCodes x1 x2) (fun (r2 : Int32) => if r2 = (0 : Int32) then some ((-1 : Int32), σ) else bp (F_M_isCode x3) (fun (r4 : Int32) => if r4 = (0 : Int32) then some ((-1 : Int32), σ) else bc (F_M_farOf x1 x2 σ) (fun (r6 : Int32) (σ7 : GS) => bv (F_M_layPlain 75 76 r6 σ7) (fun (σ9 : GS) => jn (fun (v5_10 : Int32) (v6_10 : Int32) (σL10 : GS) => some (v5_10, σL10)) (fun KL10_112 => F_M_thin_45 x1 x2 x3 r6 KL10_112 50000 (0 : Int32) (0 : Int32) σ9)))))
def F_M_without_14 (x0 : Int32) (x1 : Int32) (KL1_120 : Int64 → Int64 → Int64 → Int64 → Int32 → Option (Int64)) : Nat → Int64 → Int64 → Int64 → Int64 → Int32 → Option (Int64)
  | 0, _, _, _, _, _ => none
  | n + 1, v2_1, v4_1, v6_1, v8_1, v10_1 => if x1 < v10_1 then KL1_120 v2_1 v4_1 v6_1 v8_1 v10_1 else jn (fun (tJ2 : Int64) => jn (fun (tJ3 : Int64) => F_M_without_14 x0 x1 KL1_120 n v4_1 tJ3 v8_1 tJ2 (v10_1 + 1)) (fun J3 => if x0 = (0 : Int32) then J3 tJ2 else if x0 = (1 : Int32) then J3 (tJ2 - v4_1) else J3 ((tJ2 - ((2 : Int64) * v4_1)) - v2_1))) (fun J2 => if v10_1 = (0 : Int32) then J2 (1 : Int64) else if v10_1 = (1 : Int32) then J2 (5 : Int64) else if v10_1 = (2 : Int32) then J2 (15 : Int64) else J2 (((3 : Int64) * v8_1) - v6_1))
def F_M_without (x0 : Int32) (x1 : Int32) : Option (Int64) :=
  jn (fun (v2_1 : Int64) (v4_1 : Int64) (v6_1 : Int64) (v8_1 : Int64) (v10_1 : Int32) => some v4_1) (fun KL1_120 => F_M_without_14 x0 x1 KL1_120 50000 (0 : Int64) (0 : Int64) (0 : Int64) (0 : Int64) (0 : Int32))
def F_M_ring (x1 : Int32) (σ : GS) : Option (Int32 × GS) :=
  bp (F_M_in x1.toInt64 (0 : Int64) (30 : Int64)) (fun (r2 : Int32) => if r2 = (0 : Int32) then some ((-1 : Int32), σ) else bp (F_M_without (0 : Int32) x1) (fun (r4 : Int64) => bc (F_M_tells r4 (1 : Int64) σ) (fun (r6 : Int32) (σ7 : GS) => some (r6, σ7))))
def F_M_withinOf_4 (x0 : Int32) (KL1_23 : Int64 → Int32 → Option (Int64)) : Nat → Int64 → Int32 → Option (Int64)
  | 0, _, _ => none
  | n + 1, v1_1, v3_1 => if x0 < v3_1 then KL1_23 v1_1 v3_1 else bp (F_M_without (0 : Int32) v3_1) (fun (r3 : Int64) => F_M_withinOf_4 x0 KL1_23 n (v1_1 + r3) (v3_1 + 1))
def F_M_withinOf (x0 : Int32) : Option (Int64) :=
  jn (fun (v1_1 : Int64) (v3_1 : Int32) => some v1_1) (fun KL1_23 => F_M_withinOf_4 x0 KL1_23 50000 (0 : Int64) (0 : Int32))
def F_M_within (x1 : Int32) (σ : GS) : Option (Int32 × GS) :=
  bp (F_M_in x1.toInt64 (0 : Int64) (30 : Int64)) (fun (r2 : Int32) => if r2 = (0 : Int32) then some ((-1 : Int32), σ) else bp (F_M_withinOf x1) (fun (r4 : Int64) => bc (F_M_tells r4 (1 : Int64) σ) (fun (r6 : Int32) (σ7 : GS) => some (r6, σ7))))
def F_M_edge (x1 : Int32) (σ : GS) : Option (Int32 × GS) :=
  bp (F_M_in x1.toInt64 (0 : Int64) (30 : Int64)) (fun (r2 : Int32) => if r2 = (0 : Int32) then some ((-1 : Int32), σ) else bp (F_M_without (0 : Int32) x1) (fun (r4 : Int64) => bp (F_M_withinOf x1) (fun (r6 : Int64) => bc (F_M_tells r4 r6 σ) (fun (r8 : Int32) (σ9 : GS) => some (r8, σ9)))))
def F_M_beyond (x1 : Int32) (x2 : Int32) (σ : GS) : Option (Int32 × GS) :=
  bp (F_M_isCode x1) (fun (r2 : Int32) => if r2 = (0 : Int32) then some ((-1 : Int32), σ) else bp (F_M_in x2.toInt64 (0 : Int64) (20 : Int64)) (fun (r4 : Int32) => if r4 = (0 : Int32) then some ((-1 : Int32), σ) else bc (F_M_endsOf x1 σ) (fun (r6 : Int32) (σ7 : GS) => bp (F_M_bits r6) (fun (r9 : Int32) => bp (F_M_without r9 x2) (fun (r11 : Int64) => bc (F_M_tells r11 (1 : Int64) σ7) (fun (r13 : Int32) (σ14 : GS) => some (r13, σ14)))))))
def F_M_houses_19 (x1 : Int32) (σ : GS) (KL3_44 : Int64 → Int32 → Option (Int32 × GS)) : Nat → Int64 → Int32 → Option (Int32 × GS)
  | 0, _, _ => none
  | n + 1, v2_3, v4_3 => if x1 < v4_3 then KL3_44 v2_3 v4_3 else bp (F_M_without (2 : Int32) v4_3) (fun (r8 : Int64) => F_M_houses_19 x1 σ KL3_44 n (v2_3 + ((5 : Int64) * r8)) (v4_3 + 1))
def F_M_houses (x1 : Int32) (σ : GS) : Option (Int32 × GS) :=
  bp (F_M_in x1.toInt64 (0 : Int64) (20 : Int64)) (fun (r2 : Int32) => if r2 = (0 : Int32) then some ((-1 : Int32), σ) else jn (fun (v2_3 : Int64) (v4_3 : Int32) => bc (F_M_tells v2_3 (1 : Int64) σ) (fun (r5 : Int32) (σ6 : GS) => some (r5, σ6))) (fun KL3_44 => F_M_houses_19 x1 σ KL3_44 50000 (0 : Int64) (0 : Int32)))
def F_M_noStreets_28 (x1 : Int32) (σ : GS) (KL4_71 : Int32 → Int32 → Option (Int32 × GS)) : Nat → Int32 → Int32 → Option (Int32 × GS)
  | 0, _, _ => none
  | n + 1, v2_4, v3_4 => gd (iB x1 6) (if (σ.1 64 x1.toNatClampNeg) ≤ v3_4 then KL4_71 v2_4 v3_4 else if v2_4 = (0 : Int32) then F_M_noStreets_28 x1 σ KL4_71 n (0 : Int32) (v3_4 + 1) else gd (iB (((40 : Int32) * x1) + v3_4) 240) (bp (F_M_isStreet (σ.1 65 (((40 : Int32) * x1) + v3_4).toNatClampNeg)) (fun (r12 : Int32) => if r12 = (0 : Int32) then F_M_noStreets_28 x1 σ KL4_71 n (0 : Int32) (v3_4 + 1) else F_M_noStreets_28 x1 σ KL4_71 n (1 : Int32) (v3_4 + 1))))
def F_M_noStreets (x1 : Int32) (σ : GS) : Option (Int32 × GS) :=
  bp (F_M_isRow x1) (fun (r2 : Int32) => if r2 = (0 : Int32) then some ((-1 : Int32), σ) else gd (iB x1 6) (if (0 : Int32) ≤ (σ.1 64 x1.toNatClampNeg) then jn (fun (v2_4 : Int32) (v3_4 : Int32) => if v2_4 = (0 : Int32) then bc (F_M_found (3 : Int32) σ) (fun (r6 : Int32) (σ7 : GS) => some (r6, σ7)) else some ((0 : Int32), σ)) (fun KL4_71 => F_M_noStreets_28 x1 σ KL4_71 50000 (1 : Int32) (0 : Int32)) else bc (F_M_found (1 : Int32) σ) (fun (r17 : Int32) (σ18 : GS) => some (r17, σ18))))
def F_M_walk_17 (x1 : Int32) (KL4_55 : Int32 → Int32 → GS → Option (Int32 × GS)) : Nat → Int32 → Int32 → GS → Option (Int32 × GS)
  | 0, _, _, _ => none
  | n + 1, v3_4, v4_4, σL4 => gd (iB x1 6) (if (σL4.1 64 x1.toNatClampNeg) ≤ v4_4 then KL4_55 v3_4 v4_4 σL4 else gd (iB (((40 : Int32) * x1) + v4_4) 240) (bc (F_M_times 75 v3_4 (σL4.1 65 (((40 : Int32) * x1) + v4_4).toNatClampNeg) σL4) (fun (r16 : Int32) (σ17 : GS) => F_M_walk_17 x1 KL4_55 n r16 (v4_4 + 1) σ17)))
def F_M_walk (x1 : Int32) (σ : GS) : Option (Int32 × GS) :=
  bc (F_M_noStreets x1 σ) (fun (r2 : Int32) (σ3 : GS) => if (0 : Int32) ≤ r2 then jn (fun (v3_4 : Int32) (v4_4 : Int32) (σL4 : GS) => if v3_4 ≤ (9 : Int32) then gd (iB x1 6) (bc (F_M_tell ((σL4.1 64 x1.toNatClampNeg) - v3_4) σL4) (fun (r7 : Int32) (σ8 : GS) => bc (F_M_codeOf 75 v3_4 σ8) (fun (r10 : Int32) (σ11 : GS) => some (r10, σ11)))) else some ((-6 : Int32), σL4)) (fun KL4_55 => F_M_walk_17 x1 KL4_55 50000 (0 : Int32) (0 : Int32) σ3) else some (r2, σ3))
def F_M_reaches_23 (x1 : Int32) (KL4_76 : Int32 → Int32 → Int32 → Int32 → GS → Option (Int32 × GS)) : Nat → Int32 → Int32 → Int32 → Int32 → GS → Option (Int32 × GS)
  | 0, _, _, _, _, _ => none
  | n + 1, v3_4, v4_4, v5_4, v6_4, σL4 => gd (iB x1 6) (if (σL4.1 64 x1.toNatClampNeg) ≤ v6_4 then KL4_76 v3_4 v4_4 v5_4 v6_4 σL4 else gd (iB (((40 : Int32) * x1) + v6_4) 240) (bc (F_M_times 75 v3_4 (σL4.1 65 (((40 : Int32) * x1) + v6_4).toNatClampNeg) σL4) (fun (r11 : Int32) (σ12 : GS) => if r11 ≤ v4_4 then F_M_reaches_23 x1 KL4_76 n r11 v4_4 v5_4 (v6_4 + 1) σ12 else F_M_reaches_23 x1 KL4_76 n r11 r11 (v6_4 + (1 : Int32)) (v6_4 + 1) σ12)))
def F_M_reaches (x1 : Int32) (σ : GS) : Option (Int32 × GS) :=
  bc (F_M_noStreets x1 σ) (fun (r2 : Int32) (σ3 : GS) => if (0 : Int32) ≤ r2 then jn (fun (v3_4 : Int32) (v4_4 : Int32) (v5_4 : Int32) (v6_4 : Int32) (σL4 : GS) => bc (F_M_tell v5_4 σL4) (fun (r6 : Int32) (σ7 : GS) => some (v4_4, σ7))) (fun KL4_76 => F_M_reaches_23 x1 KL4_76 50000 (0 : Int32) (0 : Int32) (0 : Int32) (0 : Int32) σ3) else some (r2, σ3))
def F_M_sees_40 (x1 : Int32) (v3_4 : Int32) (v4_4 : Int32) (KL6_91 : Int32 → Int32 → Int32 → GS → Option (Int32 × GS)) : Nat → Int32 → Int32 → Int32 → GS → Option (Int32 × GS)
  | 0, _, _, _, _ => none
  | n + 1, v5_6, v6_6, v7_6, σL6 => if v7_6 < (0 : Int32) then KL6_91 v5_6 v6_6 v7_6 σL6 else gd (iB (((40 : Int32) * x1) + v7_6) 240) (bc (F_M_times 75 v6_6 (σL6.1 65 (((40 : Int32) * x1) + v7_6).toNatClampNeg) σL6) (fun (r10 : Int32) (σ11 : GS) => if v5_6 = (0 : Int32) then F_M_sees_40 x1 v3_4 v4_4 KL6_91 n (0 : Int32) r10 (v7_6 + (-1)) σ11 else if r10 ≤ (0 : Int32) then F_M_sees_40 x1 v3_4 v4_4 KL6_91 n (0 : Int32) r10 (v7_6 + (-1)) σ11 else F_M_sees_40 x1 v3_4 v4_4 KL6_91 n (1 : Int32) r10 (v7_6 + (-1)) σ11))
def F_M_sees_17 (x1 : Int32) (KL4_110 : Int32 → Int32 → GS → Option (Int32 × GS)) : Nat → Int32 → Int32 → GS → Option (Int32 × GS)
  | 0, _, _, _ => none
  | n + 1, v3_4, v4_4, σL4 => gd (iB x1 6) (if (σL4.1 64 x1.toNatClampNeg) < v4_4 then KL4_110 v3_4 v4_4 σL4 else jn (fun (v5_6 : Int32) (v6_6 : Int32) (v7_6 : Int32) (σL6 : GS) => if v5_6 = (0 : Int32) then F_M_sees_17 x1 KL4_110 n (v3_4 + (0 : Int32)) (v4_4 + 1) σL6 else F_M_sees_17 x1 KL4_110 n (v3_4 + (1 : Int32)) (v4_4 + 1) σL6) (fun KL6_91 => F_M_sees_40 x1 v3_4 v4_4 KL6_91 50000 (1 : Int32) (0 : Int32) (v4_4 - (1 : Int32)) σL4))
def F_M_sees (x1 : Int32) (σ : GS) : Option (Int32 × GS) :=
  bc (F_M_noStreets x1 σ) (fun (r2 : Int32) (σ3 : GS) => if (0 : Int32) ≤ r2 then jn (fun (v3_4 : Int32) (v4_4 : Int32) (σL4 : GS) => some (v3_4, σL4)) (fun KL4_110 => F_M_sees_17 x1 KL4_110 50000 (0 : Int32) (0 : Int32) σ3) else some (r2, σ3))
def F_M_noCodes_45 (x1 : Int32) (σ : GS) (KL5_90 : Int32 → Int32 → Option (Int32 × GS)) : Nat → Int32 → Int32 → Option (Int32 × GS)
  | 0, _, _ => none
  | n + 1, v3_5, v4_5 => gd (iB x1 6) (if (σ.1 64 x1.toNatClampNeg) ≤ v4_5 then KL5_90 v3_5 v4_5 else if v3_5 = (0 : Int32) then F_M_noCodes_45 x1 σ KL5_90 n (0 : Int32) (v4_5 + 1) else gd (iB (((40 : Int32) * x1) + v4_5) 240) (bp (F_M_isCode (σ.1 65 (((40 : Int32) * x1) + v4_5).toNatClampNeg)) (fun (r13 : Int32) => if r13 = (0 : Int32) then F_M_noCodes_45 x1 σ KL5_90 n (0 : Int32) (v4_5 + 1) else F_M_noCodes_45 x1 σ KL5_90 n (1 : Int32) (v4_5 + 1))))
def F_M_noCodes (x1 : Int32) (x2 : Int32) (σ : GS) : Option (Int32 × GS) :=
  bp (F_M_isRow x1) (fun (r2 : Int32) => if r2 = (0 : Int32) then some ((-1 : Int32), σ) else gd (iB x1 6) (if (0 : Int32) ≤ (σ.1 64 x1.toNatClampNeg) then gd (iB x1 6) (if (σ.1 64 x1.toNatClampNeg) ≤ x2 then jn (fun (v3_5 : Int32) (v4_5 : Int32) => if v3_5 = (0 : Int32) then bc (F_M_found (3 : Int32) σ) (fun (r7 : Int32) (σ8 : GS) => some (r7, σ8)) else some ((0 : Int32), σ)) (fun KL5_90 => F_M_noCodes_45 x1 σ KL5_90 50000 (1 : Int32) (0 : Int32)) else bc (F_M_found (5 : Int32) σ) (fun (r18 : Int32) (σ19 : GS) => some (r18, σ19))) else bc (F_M_found (1 : Int32) σ) (fun (r22 : Int32) (σ23 : GS) => some (r22, σ23))))
def F_M_round_282 (x2 : Int32) (u4_7 : Int32) (v6_9 : Int32) (KL13_314 : Int32 → GS → Option (Int32 × GS)) : Nat → Int32 → GS → Option (Int32 × GS)
  | 0, _, _ => none
  | n + 1, v8_13, σL13 => if u4_7 ≤ v8_13 then KL13_314 v8_13 σL13 else gd (iB v8_13 6) (gd (iB (((40 : Int32) * x2) + v8_13) 240) (jn (s1 σL13 65 ((((40 : Int32) * x2) + v8_13).toNatClampNeg) (σL13.1 85 v8_13.toNatClampNeg)) (fun (σ16 : GS) => F_M_round_282 x2 u4_7 v6_9 KL13_314 n (v8_13 + 1) σ16)))
def F_M_round_237 (x1 : Int32) (x2 : Int32) (u4_7 : Int32) (v5_8 : Int32) (u6_23 : Int32) (v7_9 : Int32) (KL24_264 : Int32 → GS → Option (Int32 × GS)) : Nat → Int32 → GS → Option (Int32 × GS)
  | 0, _, _ => none
  | n + 1, v12_24, σL24 => if u4_7 ≤ v12_24 then KL24_264 v12_24 σL24 else gd (iB v12_24 6) (gd (iB v12_24 6) (jn (s1 σL24 85 v12_24.toNatClampNeg (σL24.1 84 v12_24.toNatClampNeg)) (fun (σ27 : GS) => F_M_round_237 x1 x2 u4_7 v5_8 u6_23 v7_9 KL24_264 n (v12_24 + 1) σ27)))
def F_M_round_152 (x1 : Int32) (x2 : Int32) (u4_7 : Int32) (v5_8 : Int32) (v6_9 : Int32) (v7_9 : Int32) (KL19_212 : Int32 → Int32 → Int32 → GS → Option (Int32 × GS)) : Nat → Int32 → Int32 → Int32 → GS → Option (Int32 × GS)
  | 0, _, _, _, _ => none
  | n + 1, v10_19, v11_19, v12_19, σL19 => if u4_7 ≤ v12_19 then KL19_212 v10_19 v11_19 v12_19 σL19 else gd (iB v12_19 6) (gd (iB (((40 : Int32) * x1) + (σL19.1 84 v12_19.toNatClampNeg)) 240) (bc (F_M_farOf v11_19 (σL19.1 65 (((40 : Int32) * x1) + (σL19.1 84 v12_19.toNatClampNeg)).toNatClampNeg) σL19) (fun (r33 : Int32) (σ34 : GS) => gd (iB v12_19 6) (gd (iB (((40 : Int32) * x1) + (σ34.1 84 v12_19.toNatClampNeg)) 240) (F_M_round_152 x1 x2 u4_7 v5_8 v6_9 v7_9 KL19_212 n (v10_19 + r33) (σ34.1 65 (((40 : Int32) * x1) + (σ34.1 84 v12_19.toNatClampNeg)).toNatClampNeg) (v12_19 + 1) σ34)))))
def F_M_round_85 (x1 : Int32) (x2 : Int32) (u4_7 : Int32) (v5_8 : Int32) (v6_9 : Int32) (v7_9 : Int32) (KL18_129 : Int32 → Int32 → Int32 → GS → Option (Int32 × GS)) : Nat → Int32 → Int32 → Int32 → GS → Option (Int32 × GS)
  | 0, _, _, _, _ => none
  | n + 1, v8_18, v9_18, v10_18, σL18 => if v10_18 < (0 : Int32) then KL18_129 v8_18 v9_18 v10_18 σL18 else gd (iB v10_18 6) (jn (s1 σL18 84 v10_18.toNatClampNeg (v8_18 - v8_18 / (6 : Int32) * (6 : Int32))) (fun (σ40 : GS) => gd (iB v10_18 6) (F_M_round_85 x1 x2 u4_7 v5_8 v6_9 v7_9 KL18_129 n (v8_18 / (6 : Int32)) (v9_18 ||| ((1 : Int32) <<< ((σ40.1 84 v10_18.toNatClampNeg) &&& 31))) (v10_18 + (-1)) σ40)))
def F_M_round_65 (x1 : Int32) (x2 : Int32) (u4_7 : Int32) (v5_8 : Int32) (KL9_270 : Int32 → Int32 → GS → Option (Int32 × GS)) : Nat → Int32 → Int32 → GS → Option (Int32 × GS)
  | 0, _, _, _ => none
  | n + 1, v6_9, v7_9, σL9 => if v5_8 ≤ v7_9 then KL9_270 v6_9 v7_9 σL9 else jn (fun (v8_18 : Int32) (v9_18 : Int32) (v10_18 : Int32) (σL18 : GS) => if v9_18 = (((1 : Int32) <<< (u4_7 &&& 31)) - (1 : Int32)) then jn (fun (v10_19 : Int32) (v11_19 : Int32) (v12_19 : Int32) (σL19 : GS) => bc (F_M_lengthOf v11_19 σL19) (fun (r21 : Int32) (σ22 : GS) => if v6_9 ≤ (v10_19 + r21) then F_M_round_65 x1 x2 u4_7 v5_8 KL9_270 n v6_9 (v7_9 + 1) σ22 else jn (v10_19 + r21 : Int32) (fun u6_23 => jn (fun (v12_24 : Int32) (σL24 : GS) => F_M_round_65 x1 x2 u4_7 v5_8 KL9_270 n u6_23 (v7_9 + 1) σL24) (fun KL24_264 => F_M_round_237 x1 x2 u4_7 v5_8 u6_23 v7_9 KL24_264 50000 (0 : Int32) σ22)))) (fun KL19_212 => F_M_round_152 x1 x2 u4_7 v5_8 v6_9 v7_9 KL19_212 50000 (0 : Int32) (0 : Int32) (0 : Int32) σL18) else F_M_round_65 x1 x2 u4_7 v5_8 KL9_270 n v6_9 (v7_9 + 1) σL18) (fun KL18_129 => F_M_round_85 x1 x2 u4_7 v5_8 v6_9 v7_9 KL18_129 50000 v7_9 (0 : Int32) (u4_7 - (1 : Int32)) σL9)
def F_M_round_37 (x1 : Int32) (x2 : Int32) (u4_7 : Int32) (σ5 : GS) (KL8_57 : Int32 → Int32 → Option (Int32 × GS)) : Nat → Int32 → Int32 → Option (Int32 × GS)
  | 0, _, _ => none
  | n + 1, v5_8, v6_8 => if u4_7 ≤ v6_8 then KL8_57 v5_8 v6_8 else F_M_round_37 x1 x2 u4_7 σ5 KL8_57 n (v5_8 * (6 : Int32)) (v6_8 + 1)
def F_M_round (x1 : Int32) (x2 : Int32) (σ : GS) : Option (Int32 × GS) :=
  bp (F_M_isRow x2) (fun (r2 : Int32) => if r2 = (0 : Int32) then some ((-1 : Int32), σ) else bc (F_M_noCodes x1 (6 : Int32) σ) (fun (r4 : Int32) (σ5 : GS) => if (0 : Int32) ≤ r4 then gd (iB x1 6) (jn (σ5.1 64 x1.toNatClampNeg : Int32) (fun u4_7 => jn (fun (v5_8 : Int32) (v6_8 : Int32) => jn (fun (v6_9 : Int32) (v7_9 : Int32) (σL9 : GS) => bc (F_M_row x2 u4_7 σL9) (fun (r11 : Int32) (σ12 : GS) => jn (fun (v8_13 : Int32) (σL13 : GS) => some (v6_9, σL13)) (fun KL13_314 => F_M_round_282 x2 u4_7 v6_9 KL13_314 50000 (0 : Int32) σ12))) (fun KL9_270 => F_M_round_65 x1 x2 u4_7 v5_8 KL9_270 50000 (9999 : Int32) (0 : Int32) σ5)) (fun KL8_57 => F_M_round_37 x1 x2 u4_7 σ5 KL8_57 50000 (1 : Int32) (0 : Int32)))) else some (r4, σ5)))
def F_M_post_58 (x1 : Int32) (v3_4 : Int32) (v4_4 : Int32) (v5_4 : Int32) (KL13_98 : Int32 → Int32 → GS → Option (Int32 × GS)) : Nat → Int32 → Int32 → GS → Option (Int32 × GS)
  | 0, _, _, _ => none
  | n + 1, v6_13, v7_13, σL13 => gd (iB x1 6) (if (σL13.1 64 x1.toNatClampNeg) ≤ v7_13 then KL13_98 v6_13 v7_13 σL13 else gd (iB (((40 : Int32) * x1) + v7_13) 240) (bc (F_M_farOf v5_4 (σL13.1 65 (((40 : Int32) * x1) + v7_13).toNatClampNeg) σL13) (fun (r20 : Int32) (σ21 : GS) => F_M_post_58 x1 v3_4 v4_4 v5_4 KL13_98 n (v6_13 + r20) (v7_13 + 1) σ21)))
def F_M_post_22 (x1 : Int32) (KL4_123 : Int32 → Int32 → Int32 → GS → Option (Int32 × GS)) : Nat → Int32 → Int32 → Int32 → GS → Option (Int32 × GS)
  | 0, _, _, _, _ => none
  | n + 1, v3_4, v4_4, v5_4, σL4 => if (556 : Int32) ≤ v5_4 then KL4_123 v3_4 v4_4 v5_4 σL4 else bp (F_M_isCode v5_4) (fun (r9 : Int32) => if r9 = (0 : Int32) then F_M_post_22 x1 KL4_123 n v3_4 v4_4 (v5_4 + 1) σL4 else bc (F_M_plainOf v5_4 σL4) (fun (r11 : Int32) (σ12 : GS) => if r11 = v5_4 then jn (fun (v6_13 : Int32) (v7_13 : Int32) (σL13 : GS) => jn (fun (dJ14 : Unit) => F_M_post_22 x1 KL4_123 n v5_4 v6_13 (v5_4 + 1) σL13) (fun J14 => if v4_4 < (0 : Int32) then J14 () else if v4_4 ≤ v6_13 then F_M_post_22 x1 KL4_123 n v3_4 v4_4 (v5_4 + 1) σL13 else J14 ())) (fun KL13_98 => F_M_post_58 x1 v3_4 v4_4 v5_4 KL13_98 50000 (0 : Int32) (0 : Int32) σ12) else F_M_post_22 x1 KL4_123 n v3_4 v4_4 (v5_4 + 1) σ12))
def F_M_post (x1 : Int32) (σ : GS) : Option (Int32 × GS) :=
  bc (F_M_noCodes x1 (20 : Int32) σ) (fun (r2 : Int32) (σ3 : GS) => if (0 : Int32) ≤ r2 then jn (fun (v3_4 : Int32) (v4_4 : Int32) (v5_4 : Int32) (σL4 : GS) => bc (F_M_tell v4_4 σL4) (fun (r6 : Int32) (σ7 : GS) => some (v3_4, σ7))) (fun KL4_123 => F_M_post_22 x1 KL4_123 50000 (0 : Int32) (-1 : Int32) (0 : Int32) σ3) else some (r2, σ3))
def F_M_isBurning_4 (x1 : Int32) (σ : GS) (KL1_38 : Int32 → Int32 → Option (Int32)) : Nat → Int32 → Int32 → Option (Int32)
  | 0, _, _ => none
  | n + 1, v2_1, v3_1 => if (σ.1 63 29) ≤ v3_1 then KL1_38 v2_1 v3_1 else jn (fun (dJ2 : Unit) => F_M_isBurning_4 x1 σ KL1_38 n (1 : Int32) (v3_1 + 1)) (fun J2 => if v2_1 = (0 : Int32) then gd (iB v3_1 166) (if (σ.1 86 v3_1.toNatClampNeg) = x1 then J2 () else F_M_isBurning_4 x1 σ KL1_38 n (0 : Int32) (v3_1 + 1)) else J2 ())
def F_M_isBurning (x1 : Int32) (σ : GS) : Option (Int32) :=
  jn (fun (v2_1 : Int32) (v3_1 : Int32) => gd (bB v2_1) (some v2_1)) (fun KL1_38 => F_M_isBurning_4 x1 σ KL1_38 50000 (0 : Int32) (0 : Int32))
def F_M_fire_148 (x2 : Int32) (u4_2 : Int32) (v5_6 : Int32) (u6_7 : Int32) (v7_8 : Int32) (v8_9 : Int32) (r18 : Int32) (σ19 : GS) (KL22_185 : Int32 → Int32 → Option (Int32 × GS)) : Nat → Int32 → Int32 → Option (Int32 × GS)
  | 0, _, _ => none
  | n + 1, v10_22, v11_22 => if u4_2 ≤ v11_22 then KL22_185 v10_22 v11_22 else jn (fun (dJ27 : Unit) => F_M_fire_148 x2 u4_2 v5_6 u6_7 v7_8 v8_9 r18 σ19 KL22_185 n (1 : Int32) (v11_22 + 1)) (fun J27 => if v10_22 = (0 : Int32) then gd (iB v11_22 20) (if (σ19.1 87 v11_22.toNatClampNeg) = r18 then J27 () else F_M_fire_148 x2 u4_2 v5_6 u6_7 v7_8 v8_9 r18 σ19 KL22_185 n (0 : Int32) (v11_22 + 1)) else J27 ())
def F_M_fire_97 (x2 : Int32) (u4_2 : Int32) (v5_6 : Int32) (u6_7 : Int32) (v7_8 : Int32) (KL9_217 : Int32 → GS → Option (Int32 × GS)) : Nat → Int32 → GS → Option (Int32 × GS)
  | 0, _, _ => none
  | n + 1, v8_9, σL9 => if (5 : Int32) ≤ v8_9 then KL9_217 v8_9 σL9 else gd (iB v7_8 166) (bc (F_M_follow 75 (0 : Int32) (σL9.1 86 v7_8.toNatClampNeg) σL9) (fun (r12 : Int32) (σ13 : GS) => bc (F_M_times 75 r12 v8_9 σ13) (fun (r15 : Int32) (σ16 : GS) => bc (F_M_codeOf 75 r15 σ16) (fun (r18 : Int32) (σ19 : GS) => bp (F_M_isBurning r18 σ19) (fun (r21 : Int32) => jn (fun (v10_22 : Int32) (v11_22 : Int32) => if v10_22 = (0 : Int32) then gd (iB (σ19.1 63 29) 166) (jn (s1 σ19 86 ((σ19.1 63 29).toNatClampNeg) r18) (fun (σ24 : GS) => jn (s1 σ24 63 29 ((σ24.1 63 29) + (1 : Int32))) (fun (σ25 : GS) => F_M_fire_97 x2 u4_2 v5_6 u6_7 v7_8 KL9_217 n (v8_9 + 1) σ25))) else F_M_fire_97 x2 u4_2 v5_6 u6_7 v7_8 KL9_217 n (v8_9 + 1) σ19) (fun KL22_185 => F_M_fire_148 x2 u4_2 v5_6 u6_7 v7_8 v8_9 r18 σ19 KL22_185 50000 r21 (0 : Int32)))))))
def F_M_fire_87 (x2 : Int32) (u4_2 : Int32) (v5_6 : Int32) (u6_7 : Int32) (KL8_223 : Int32 → GS → Option (Int32 × GS)) : Nat → Int32 → GS → Option (Int32 × GS)
  | 0, _, _ => none
  | n + 1, v7_8, σL8 => if u6_7 ≤ v7_8 then KL8_223 v7_8 σL8 else jn (fun (v8_9 : Int32) (σL9 : GS) => F_M_fire_87 x2 u4_2 v5_6 u6_7 KL8_223 n (v7_8 + 1) σL9) (fun KL9_217 => F_M_fire_97 x2 u4_2 v5_6 u6_7 v7_8 KL9_217 50000 (0 : Int32) σL8)
def F_M_fire_72 (x2 : Int32) (u4_2 : Int32) (KL6_229 : Int32 → GS → Option (Int32 × GS)) : Nat → Int32 → GS → Option (Int32 × GS)
  | 0, _, _ => none
  | n + 1, v5_6, σL6 => if x2 ≤ v5_6 then KL6_229 v5_6 σL6 else jn (σL6.1 63 29 : Int32) (fun u6_7 => jn (fun (v7_8 : Int32) (σL8 : GS) => F_M_fire_72 x2 u4_2 KL6_229 n (v5_6 + 1) σL8) (fun KL8_223 => F_M_fire_87 x2 u4_2 v5_6 u6_7 KL8_223 50000 (0 : Int32) σL6))
def F_M_fire_11 (x1 : Int32) (x2 : Int32) (x3 : Int32) (u4_2 : Int32) (KL3_57 : Int32 → GS → Option (Int32 × GS)) : Nat → Int32 → GS → Option (Int32 × GS)
  | 0, _, _ => none
  | n + 1, v5_3, σL3 => if u4_2 ≤ v5_3 then KL3_57 v5_3 σL3 else if v5_3 = x3 then gd (iB v5_3 20) (jn (s1 σL3 87 v5_3.toNatClampNeg (0 : Int32)) (fun (σ42 : GS) => F_M_fire_11 x1 x2 x3 u4_2 KL3_57 n (v5_3 + 1) σ42)) else gd (iB (((40 : Int32) * x1) + v5_3) 240) (bc (F_M_plainOf (σL3.1 65 (((40 : Int32) * x1) + v5_3).toNatClampNeg) σL3) (fun (r37 : Int32) (σ38 : GS) => gd (iB v5_3 20) (jn (s1 σ38 87 v5_3.toNatClampNeg r37) (fun (σ40 : GS) => F_M_fire_11 x1 x2 x3 u4_2 KL3_57 n (v5_3 + 1) σ40))))
def F_M_fire (x1 : Int32) (x2 : Int32) (x3 : Int32) (σ : GS) : Option (Int32 × GS) :=
  gd (iB x1 6) (jn (σ.1 64 x1.toNatClampNeg : Int32) (fun u4_2 => jn (fun (v5_3 : Int32) (σL3 : GS) => jn (s1 σL3 86 0 (0 : Int32)) (fun (σ4 : GS) => jn (s1 σ4 63 29 (1 : Int32)) (fun (σ5 : GS) => jn (fun (v5_6 : Int32) (σL6 : GS) => some (σL6.1 63 29, σL6)) (fun KL6_229 => F_M_fire_72 x2 u4_2 KL6_229 50000 (0 : Int32) σ5)))) (fun KL3_57 => F_M_fire_11 x1 x2 x3 u4_2 KL3_57 50000 (0 : Int32) σ)))
def F_M_burns (x1 : Int32) (x2 : Int32) (σ : GS) : Option (Int32 × GS) :=
  bp (F_M_in x2.toInt64 (0 : Int64) (4 : Int64)) (fun (r2 : Int32) => if r2 = (0 : Int32) then some ((-1 : Int32), σ) else bc (F_M_noCodes x1 (20 : Int32) σ) (fun (r4 : Int32) (σ5 : GS) => if (0 : Int32) ≤ r4 then bc (F_M_fire x1 x2 (-9 : Int32) σ5) (fun (r7 : Int32) (σ8 : GS) => some (r7, σ8)) else some (r4, σ5)))
def F_M_held_33 (σ9 : GS) (KL10_74 : Int32 → Int32 → Option (Int32 × GS)) : Nat → Int32 → Int32 → Option (Int32 × GS)
  | 0, _, _ => none
  | n + 1, v4_10, v5_10 => if (σ9.1 63 29) ≤ v5_10 then KL10_74 v4_10 v5_10 else if v4_10 = (0 : Int32) then F_M_held_33 σ9 KL10_74 n (0 : Int32) (v5_10 + 1) else gd (iB v5_10 166) (bp (F_M_figures (σ9.1 86 v5_10.toNatClampNeg)) (fun (r14 : Int32) => if (4 : Int32) ≤ r14 then F_M_held_33 σ9 KL10_74 n (0 : Int32) (v5_10 + 1) else F_M_held_33 σ9 KL10_74 n (1 : Int32) (v5_10 + 1)))
def F_M_held (x1 : Int32) (σ : GS) : Option (Int32 × GS) :=
  bc (F_M_noCodes x1 (20 : Int32) σ) (fun (r2 : Int32) (σ3 : GS) => if (0 : Int32) ≤ r2 then bc (F_M_fire x1 (4 : Int32) (-9 : Int32) σ3) (fun (r5 : Int32) (σ6 : GS) => bc (F_M_tell r5 σ6) (fun (r8 : Int32) (σ9 : GS) => jn (fun (v4_10 : Int32) (v5_10 : Int32) => if v4_10 = (0 : Int32) then some ((0 : Int32), σ9) else some ((1 : Int32), σ9)) (fun KL10_74 => F_M_held_33 σ9 KL10_74 50000 (1 : Int32) (0 : Int32)))) else some (r2, σ3))
def F_M_idle_26 (x1 : Int32) (r5 : Int32) (KL7_58 : Int32 → GS → Option (Int32 × GS)) : Nat → Int32 → GS → Option (Int32 × GS)
  | 0, _, _ => none
  | n + 1, v4_7, σL7 => gd (iB x1 6) (if (σL7.1 64 x1.toNatClampNeg) ≤ v4_7 then KL7_58 v4_7 σL7 else bc (F_M_fire x1 (4 : Int32) v4_7 σL7) (fun (r10 : Int32) (σ11 : GS) => if r10 = r5 then some (v4_7, σ11) else F_M_idle_26 x1 r5 KL7_58 n (v4_7 + 1) σ11))
def F_M_idle (x1 : Int32) (σ : GS) : Option (Int32 × GS) :=
  bc (F_M_noCodes x1 (20 : Int32) σ) (fun (r2 : Int32) (σ3 : GS) => if (0 : Int32) ≤ r2 then bc (F_M_fire x1 (4 : Int32) (-9 : Int32) σ3) (fun (r5 : Int32) (σ6 : GS) => jn (fun (v4_7 : Int32) (σL7 : GS) => some ((-9 : Int32), σL7)) (fun KL7_58 => F_M_idle_26 x1 r5 KL7_58 50000 (0 : Int32) σ6)) else some (r2, σ3))
def F_M_areTwo (x1 : Int32) (x2 : Int32) (σ : GS) : Option (Int32) :=
  bp (F_M_isWalker x1 σ) (fun (r2 : Int32) => if r2 = (0 : Int32) then some (0 : Int32) else bp (F_M_isWalker x2 σ) (fun (r4 : Int32) => if r4 = (0 : Int32) then some (0 : Int32) else if x1 = x2 then some (0 : Int32) else some (1 : Int32)))
def F_M_meet_17 (x1 : Int32) (x2 : Int32) (KL5_85 : Int32 → GS → Option (Int32 × GS)) : Nat → Int32 → GS → Option (Int32 × GS)
  | 0, _, _ => none
  | n + 1, v3_5, σL5 => if (40 : Int32) < v3_5 then KL5_85 v3_5 σL5 else gd (iB ((7 : Int32) + x1) 27) (gd (iB ((7 : Int32) + x2) 27) (if (σL5.1 80 ((7 : Int32) + x1).toNatClampNeg) = (σL5.1 80 ((7 : Int32) + x2).toNatClampNeg) then gd (iB ((7 : Int32) + x1) 27) (bc (F_M_tell (σL5.1 80 ((7 : Int32) + x1).toNatClampNeg) σL5) (fun (r14 : Int32) (σ15 : GS) => some (v3_5, σ15))) else bv (F_M_hourOf 80 x1 σL5) (fun (σ9 : GS) => bv (F_M_hourOf 80 x2 σ9) (fun (σ11 : GS) => F_M_meet_17 x1 x2 KL5_85 n (v3_5 + 1) σ11))))
def F_M_meet (x1 : Int32) (x2 : Int32) (σ : GS) : Option (Int32 × GS) :=
  bp (F_M_areTwo x1 x2 σ) (fun (r2 : Int32) => if r2 = (0 : Int32) then some ((-1 : Int32), σ) else bv (F_M_tries σ) (fun (σ4 : GS) => jn (fun (v3_5 : Int32) (σL5 : GS) => some ((-9 : Int32), σL5)) (fun KL5_85 => F_M_meet_17 x1 x2 KL5_85 50000 (0 : Int32) σ4)))
def F_M_part_30 (x1 : Int32) (x2 : Int32) (x3 : Int32) (KL7_60 : Int32 → GS → Option (Int32 × GS)) : Nat → Int32 → GS → Option (Int32 × GS)
  | 0, _, _ => none
  | n + 1, v4_7, σL7 => if x3 ≤ v4_7 then KL7_60 v4_7 σL7 else bv (F_M_hourOf 80 x1 σL7) (fun (σ14 : GS) => bv (F_M_hourOf 80 x2 σ14) (fun (σ16 : GS) => F_M_part_30 x1 x2 x3 KL7_60 n (v4_7 + 1) σ16))
def F_M_part (x1 : Int32) (x2 : Int32) (x3 : Int32) (σ : GS) : Option (Int32 × GS) :=
  bp (F_M_areTwo x1 x2 σ) (fun (r2 : Int32) => if r2 = (0 : Int32) then some ((-1 : Int32), σ) else bp (F_M_in x3.toInt64 (0 : Int64) (40 : Int64)) (fun (r4 : Int32) => if r4 = (0 : Int32) then some ((-1 : Int32), σ) else bv (F_M_tries σ) (fun (σ6 : GS) => jn (fun (v4_7 : Int32) (σL7 : GS) => gd (iB ((7 : Int32) + x1) 27) (gd (iB ((7 : Int32) + x2) 27) (bc (F_M_farOf (σL7.1 80 ((7 : Int32) + x1).toNatClampNeg) (σL7.1 80 ((7 : Int32) + x2).toNatClampNeg) σL7) (fun (r11 : Int32) (σ12 : GS) => some (r11, σ12))))) (fun KL7_60 => F_M_part_30 x1 x2 x3 KL7_60 50000 (0 : Int32) σ6))))
def F_M_drunk_38 (x1 : Int32) (KL5_124 : Int64 → Int32 → Int32 → Int32 → GS → Option (Int32 × GS)) : Nat → Int64 → Int32 → Int32 → Int32 → GS → Option (Int32 × GS)
  | 0, _, _, _, _, _ => none
  | n + 1, v3_5, v5_5, v6_5, v7_5, σL5 => if x1 ≤ v7_5 then KL5_124 v3_5 v5_5 v6_5 v7_5 σL5 else bc (F_M_follow 75 (0 : Int32) v5_5 σL5) (fun (r10 : Int32) (σ11 : GS) => bc (F_M_times 75 r10 (((((48271 : Int64) * v3_5) - ((48271 : Int64) * v3_5) / (2147483647 : Int64) * (2147483647 : Int64)) - (((48271 : Int64) * v3_5) - ((48271 : Int64) * v3_5) / (2147483647 : Int64) * (2147483647 : Int64)) / (5 : Int64) * (5 : Int64)).toInt32) σ11) (fun (r13 : Int32) (σ14 : GS) => jn (fun (tJ15 : Int32) (σJ15 : GS) => if tJ15 = (0 : Int32) then F_M_drunk_38 x1 KL5_124 n (((48271 : Int64) * v3_5) - ((48271 : Int64) * v3_5) / (2147483647 : Int64) * (2147483647 : Int64)) tJ15 (v6_5 + (1 : Int32)) (v7_5 + 1) σJ15 else F_M_drunk_38 x1 KL5_124 n (((48271 : Int64) * v3_5) - ((48271 : Int64) * v3_5) / (2147483647 : Int64) * (2147483647 : Int64)) tJ15 (v6_5 + (0 : Int32)) (v7_5 + 1) σJ15) (fun J15 => if r13 ≤ (9 : Int32) then bc (F_M_codeOf 75 r13 σ14) (fun (r18 : Int32) (σ19 : GS) => J15 r18 σ19) else J15 v5_5 σ14)))
def F_M_drunk (x1 : Int32) (x2 : Int32) (σ : GS) : Option (Int32 × GS) :=
  bp (F_M_in x1.toInt64 (1 : Int64) (60 : Int64)) (fun (r2 : Int32) => if r2 = (0 : Int32) then some ((-1 : Int32), σ) else bp (F_M_in x2.toInt64 (1 : Int64) (2147483646 : Int64)) (fun (r4 : Int32) => if r4 = (0 : Int32) then some ((-1 : Int32), σ) else jn (fun (v3_5 : Int64) (v5_5 : Int32) (v6_5 : Int32) (v7_5 : Int32) (σL5 : GS) => bc (F_M_tell v6_5 σL5) (fun (r7 : Int32) (σ8 : GS) => some (v5_5, σ8))) (fun KL5_124 => F_M_drunk_38 x1 KL5_124 50000 x2.toInt64 (0 : Int32) (0 : Int32) (0 : Int32) σ)))
def F_M_asked (σ : GS) : Option (Int32) :=
  some (σ.1 63 9)
def F_M_upper (σ : GS) : Option (Int64) :=
  some (σ.2 63 10)
def F_M_lower (σ : GS) : Option (Int64) :=
  some (σ.2 63 11)
def F_M_counted_171 (x1 : Int32) (σ : GS) (KL4_205 : Int32 → Int32 → Option (Int32)) : Nat → Int32 → Int32 → Option (Int32)
  | 0, _, _ => none
  | n + 1, v2_4, v3_4 => if (4 : Int32) ≤ v3_4 then KL4_205 v2_4 v3_4 else if x1 = (7 : Int32) then gd (iB v3_4 4) (if (0 : Int32) ≤ (σ.1 66 v3_4.toNatClampNeg) then F_M_counted_171 x1 σ KL4_205 n (v2_4 + (1 : Int32)) (v3_4 + 1) else F_M_counted_171 x1 σ KL4_205 n (v2_4 + (0 : Int32)) (v3_4 + 1)) else KL4_205 v2_4 v3_4
def F_M_counted_134 (x1 : Int32) (σ : GS) (KL3_169 : Int32 → Int32 → Option (Int32)) : Nat → Int32 → Int32 → Option (Int32)
  | 0, _, _ => none
  | n + 1, v2_3, v3_3 => if (6 : Int32) ≤ v3_3 then KL3_169 v2_3 v3_3 else if x1 = (6 : Int32) then gd (iB v3_3 6) (if (0 : Int32) ≤ (σ.1 64 v3_3.toNatClampNeg) then F_M_counted_134 x1 σ KL3_169 n (v2_3 + (1 : Int32)) (v3_3 + 1) else F_M_counted_134 x1 σ KL3_169 n (v2_3 + (0 : Int32)) (v3_3 + 1)) else KL3_169 v2_3 v3_3
def F_M_counted_99 (x1 : Int32) (σ : GS) (KL2_132 : Int32 → Int32 → Option (Int32)) : Nat → Int32 → Int32 → Option (Int32)
  | 0, _, _ => none
  | n + 1, v2_2, v3_2 => if (3 : Int32) ≤ v3_2 then KL2_132 v2_2 v3_2 else if x1 = (5 : Int32) then gd (iB v3_2 3) (if (σ.1 72 v3_2.toNatClampNeg) = (0 : Int32) then F_M_counted_99 x1 σ KL2_132 n (v2_2 + (0 : Int32)) (v3_2 + 1) else F_M_counted_99 x1 σ KL2_132 n (v2_2 + (1 : Int32)) (v3_2 + 1)) else KL2_132 v2_2 v3_2
def F_M_counted_4 (x1 : Int32) (σ : GS) (KL1_97 : Int32 → Int32 → Option (Int32)) : Nat → Int32 → Int32 → Option (Int32)
  | 0, _, _ => none
  | n + 1, v2_1, v3_1 => if (σ.1 68 0) ≤ v3_1 then KL1_97 v2_1 v3_1 else jn (fun (tJ19 : Int32) => if tJ19 = (0 : Int32) then F_M_counted_4 x1 σ KL1_97 n (v2_1 + (0 : Int32)) (v3_1 + 1) else F_M_counted_4 x1 σ KL1_97 n (v2_1 + (1 : Int32)) (v3_1 + 1)) (fun J19 => if x1 = (2 : Int32) then gd (iB ((2 : Int32) + v3_1) 27) (bp (F_M_isOf (σ.1 68 ((2 : Int32) + v3_1).toNatClampNeg) (1 : Int32)) (fun (r30 : Int32) => J19 r30)) else if x1 = (3 : Int32) then gd (iB ((2 : Int32) + v3_1) 27) (bp (F_M_isOf (σ.1 68 ((2 : Int32) + v3_1).toNatClampNeg) (2 : Int32)) (fun (r26 : Int32) => J19 r26)) else if x1 = (4 : Int32) then gd (iB ((7 : Int32) + v3_1) 27) (if (σ.1 68 ((7 : Int32) + v3_1).toNatClampNeg) = (0 : Int32) then J19 (1 : Int32) else J19 (0 : Int32)) else J19 (0 : Int32))
def F_M_counted (x1 : Int32) (σ : GS) : Option (Int32) :=
  jn (fun (v2_1 : Int32) (v3_1 : Int32) => jn (fun (v2_2 : Int32) (v3_2 : Int32) => jn (fun (v2_3 : Int32) (v3_3 : Int32) => jn (fun (v2_4 : Int32) (v3_4 : Int32) => if (2 : Int32) ≤ x1 then some v2_4 else gd (iB x1 27) (some (σ.1 68 x1.toNatClampNeg))) (fun KL4_205 => F_M_counted_171 x1 σ KL4_205 50000 v2_3 (0 : Int32))) (fun KL3_169 => F_M_counted_134 x1 σ KL3_169 50000 v2_2 (0 : Int32))) (fun KL2_132 => F_M_counted_99 x1 σ KL2_132 50000 v2_1 (0 : Int32))) (fun KL1_97 => F_M_counted_4 x1 σ KL1_97 50000 (0 : Int32) (0 : Int32))
def F_M_count (x1 : Int32) (σ : GS) : Option (Int32) :=
  bp (F_M_in x1.toInt64 (0 : Int64) (7 : Int64)) (fun (r2 : Int32) => if r2 = (0 : Int32) then some (-1 : Int32) else bp (F_M_counted x1 σ) (fun (r4 : Int32) => some r4))
def F_M_finding (σ : GS) : Option (Int32) :=
  some (σ.1 63 12)
def F_M_findings (x1 : Int32) (σ : GS) : Option (Int32) :=
  bp (F_M_in x1.toInt64 (1 : Int64) (5 : Int64)) (fun (r2 : Int32) => if r2 = (0 : Int32) then some (-1 : Int32) else gd (iB x1 6) (some (σ.1 73 x1.toNatClampNeg)))
def F_M_digest_216 (v3_5 : Int32) (σ : GS) (KL7_253 : Int64 → Int32 → Option (Int64)) : Nat → Int64 → Int32 → Option (Int64)
  | 0, _, _ => none
  | n + 1, v1_7, v4_7 => gd (iB v3_5 4) (if (σ.1 66 v3_5.toNatClampNeg) ≤ v4_7 then KL7_253 v1_7 v4_7 else gd (iB (((80 : Int32) * v3_5) + v4_7) 320) (F_M_digest_216 v3_5 σ KL7_253 n (((31 : Int64) * v1_7) + ((σ.1 67 (((80 : Int32) * v3_5) + v4_7).toNatClampNeg).toInt64)) (v4_7 + 1)))
def F_M_digest_194 (σ : GS) (KL5_259 : Int64 → Int32 → Option (Int64)) : Nat → Int64 → Int32 → Option (Int64)
  | 0, _, _ => none
  | n + 1, v1_5, v3_5 => if (4 : Int32) ≤ v3_5 then KL5_259 v1_5 v3_5 else gd (iB v3_5 4) (jn (fun (v1_7 : Int64) (v4_7 : Int32) => F_M_digest_194 σ KL5_259 n v1_7 (v3_5 + 1)) (fun KL7_253 => F_M_digest_216 v3_5 σ KL7_253 50000 (((31 : Int64) * v1_5) + ((σ.1 66 v3_5.toNatClampNeg).toInt64)) (0 : Int32)))
def F_M_digest_149 (v3_4 : Int32) (σ : GS) (KL13_186 : Int64 → Int32 → Option (Int64)) : Nat → Int64 → Int32 → Option (Int64)
  | 0, _, _ => none
  | n + 1, v1_13, v4_13 => gd (iB v3_4 6) (if (σ.1 64 v3_4.toNatClampNeg) ≤ v4_13 then KL13_186 v1_13 v4_13 else gd (iB (((40 : Int32) * v3_4) + v4_13) 240) (F_M_digest_149 v3_4 σ KL13_186 n (((31 : Int64) * v1_13) + ((σ.1 65 (((40 : Int32) * v3_4) + v4_13).toNatClampNeg).toInt64)) (v4_13 + 1)))
def F_M_digest_126 (σ : GS) (KL4_192 : Int64 → Int32 → Option (Int64)) : Nat → Int64 → Int32 → Option (Int64)
  | 0, _, _ => none
  | n + 1, v1_4, v3_4 => if (6 : Int32) ≤ v3_4 then KL4_192 v1_4 v3_4 else gd (iB v3_4 6) (jn (fun (v1_13 : Int64) (v4_13 : Int32) => F_M_digest_126 σ KL4_192 n v1_13 (v3_4 + 1)) (fun KL13_186 => F_M_digest_149 v3_4 σ KL13_186 50000 (((31 : Int64) * v1_4) + ((σ.1 64 v3_4.toNatClampNeg).toInt64)) (0 : Int32)))
def F_M_digest_81 (σ : GS) (KL3_124 : Int64 → Int32 → Option (Int64)) : Nat → Int64 → Int32 → Option (Int64)
  | 0, _, _ => none
  | n + 1, v1_3, v3_3 => if (3 : Int32) ≤ v3_3 then KL3_124 v1_3 v3_3 else gd (iB v3_3 3) (jn (fun (tJ19 : Int32) => F_M_digest_81 σ KL3_124 n (((31 : Int64) * v1_3) + tJ19.toInt64) (v3_3 + 1)) (fun J19 => if (σ.1 72 v3_3.toNatClampNeg) = (0 : Int32) then J19 (-1 : Int32) else gd (iB (((27 : Int32) * v3_3) + (1 : Int32)) 81) (J19 (σ.1 70 (((27 : Int32) * v3_3) + (1 : Int32)).toNatClampNeg))))
def F_M_digest_46 (v3_2 : Int32) (σ : GS) (KL23_73 : Int64 → Int32 → Option (Int64)) : Nat → Int64 → Int32 → Option (Int64)
  | 0, _, _ => none
  | n + 1, v1_23, v4_23 => if (5 : Int32) ≤ v4_23 then KL23_73 v1_23 v4_23 else bp (F_M_told v3_2 v4_23 σ) (fun (r25 : Int32) => F_M_digest_46 v3_2 σ KL23_73 n (((31 : Int64) * v1_23) + r25.toInt64) (v4_23 + 1))
def F_M_digest_33 (σ : GS) (KL2_79 : Int64 → Int32 → Option (Int64)) : Nat → Int64 → Int32 → Option (Int64)
  | 0, _, _ => none
  | n + 1, v1_2, v3_2 => if (σ.1 68 0) ≤ v3_2 then KL2_79 v1_2 v3_2 else jn (fun (v1_23 : Int64) (v4_23 : Int32) => F_M_digest_33 σ KL2_79 n v1_23 (v3_2 + 1)) (fun KL23_73 => F_M_digest_46 v3_2 σ KL23_73 50000 v1_2 (0 : Int32))
def F_M_digest_6 (σ : GS) (KL1_31 : Int64 → Int32 → Option (Int64)) : Nat → Int64 → Int32 → Option (Int64)
  | 0, _, _ => none
  | n + 1, v1_1, v3_1 => if (8 : Int32) ≤ v3_1 then KL1_31 v1_1 v3_1 else bp (F_M_counted v3_1 σ) (fun (r29 : Int32) => F_M_digest_6 σ KL1_31 n (((31 : Int64) * v1_1) + r29.toInt64) (v3_1 + 1))
def F_M_digest (σ : GS) : Option (Int64) :=
  jn (fun (v1_1 : Int64) (v3_1 : Int32) => jn (fun (v1_2 : Int64) (v3_2 : Int32) => jn (fun (v1_3 : Int64) (v3_3 : Int32) => jn (fun (v1_4 : Int64) (v3_4 : Int32) => jn (fun (v1_5 : Int64) (v3_5 : Int32) => some v1_5) (fun KL5_259 => F_M_digest_194 σ KL5_259 50000 v1_4 (0 : Int32))) (fun KL4_192 => F_M_digest_126 σ KL4_192 50000 v1_3 (0 : Int32))) (fun KL3_124 => F_M_digest_81 σ KL3_124 50000 v1_2 (0 : Int32))) (fun KL2_79 => F_M_digest_33 σ KL2_79 50000 v1_1 (0 : Int32))) (fun KL1_31 => F_M_digest_6 σ KL1_31 50000 (17 : Int64) (0 : Int32))
