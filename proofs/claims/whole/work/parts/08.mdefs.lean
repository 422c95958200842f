/-! PURE FUNCTIONS, a method each (wip/gen/gen.py): integers and the numbered memory; none: a road that is not to be taken, or no fuel left -/
-- X0_needs
def M0_needs (N : Nat) (a0 : Int) (a1 : Int) (μ0 : mm) : Option Int := bnd (a1 + 1) fun (w1 : Int) => bnd (w1 + 4) fun (w2 : Int) => if inR a0 then (if a0 = 1 then (some w2) else (if a0 = 2 then (some (w1 * 2)) else (if a0 = 3 then (if 0 ≤ w1 ∧ inR w1 then (some (w1 / 2)) else none) else (if a0 = 4 then (some (w2 + 10)) else (if a0 = 5 then (some 1) else (some w1)))))) else none
-- X0_wears
def M0_wears (N : Nat) (a0 : Int) (a1 : Int) (μ0 : mm) : Option Int := if inR a0 then (if a0 = 2 then (some a1) else (if a0 = 3 then (some 1) else (if a0 = 4 then (if 0 ≤ a1 ∧ inR a1 then (some (a1 / 3)) else none) else (if a0 = 5 then (some 0) else (if 0 ≤ a1 ∧ inR a1 then (some (a1 / 2)) else none))))) else none
-- X0_nextIn
def M0_nextIn (N : Nat) (a0 : Int) (μ0 : mm) : Option Int := if inR a0 then (if a0 = 1 then (some 1) else (if a0 = 2 then (some 30) else (if a0 = 3 then (some 7) else (if a0 = 4 then (some 0) else (if a0 = 5 then (some (7 + 1)) else (some 7)))))) else none
-- X1_knows
def M1_knows (N : Nat) (o : Nat) (a0 : Int) (μ0 : mm) : Option Int := if inR a0 then (if a0 < 0 then (some 0) else (if inR a0 ∧ inR (μ0 o 2) then (if (μ0 o 2) ≤ a0 then (some 0) else (some 1)) else none)) else none
-- X1_at
def M1_at (N : Nat) (o : Nat) (a0 : Int) (μ0 : mm) : Option Nat := if inR a0 then (if a0 < 0 then (some (o + 10)) else (if inR a0 then (if 8 ≤ a0 then (some (o + 10)) else (if 0 ≤ a0 ∧ a0 < 8 then (some ((o + 1) + 1 + (a0).toNat)) else none)) else none)) else none
-- X2_takeFrom
def M2_takeFrom (N : Nat) (o : Nat) (a0 : Nat) (μ : mm) : Option mm := bnd (mu μ o 0 (μ a0 0)) fun (μ1 : mm) => bnd (mu μ1 o 1 (μ1 a0 1)) fun (μ2 : mm) => bnd (mu μ2 o 2 (μ2 a0 2)) fun (μ3 : mm) => bnd (mu μ3 o 3 (μ3 a0 3)) fun (μ4 : mm) => bnd (mu μ4 o 4 (μ4 a0 4)) fun (μ5 : mm) => bnd (mu μ5 o 5 (μ5 a0 5)) fun (μ6 : mm) => bnd (mu μ6 o 6 0) fun (μ7 : mm) => bnd (mu μ7 o 7 0) fun (μ8 : mm) => some μ8
-- X1_takeFrom
def L1_takeFrom_34 (N : Nat) : Nat → Nat → Nat → Int → mm → Option mm
  | 0, _, _, _, _ => none
  | k + 1, r0, r1, x2, μ => if inR x2 ∧ inR (μ r0 2) then (if (μ r0 2) ≤ x2 then (some μ) else ((M1_at N r0 x2 μ).bind fun (q6 : Nat) => if kd q6 = 5 then ((M1_at N r1 x2 μ).bind fun (q8 : Nat) => if kd q8 = 5 then ((M2_takeFrom N q6 q8 μ).bind fun (q10 : mm) => L1_takeFrom_34 N k r0 r1 (x2 + 1) q10) else none) else none)) else none
def M1_takeFrom (N : Nat) (o : Nat) (a0 : Nat) (μ : mm) : Option mm := bnd (mu μ o 2 (μ a0 2)) fun (μ1 : mm) => bnd (mu μ1 o 3 (μ1 a0 3)) fun (μ2 : mm) => bnd (mu μ2 o 4 (μ2 a0 4)) fun (μ3 : mm) => bnd (mu μ3 o 5 (μ3 a0 5)) fun (μ4 : mm) => L1_takeFrom_34 N N o a0 0 μ4
-- X1_welcome
def M1_welcome (N : Nat) (o : Nat) (a0 : Int) (a1 : Int) (a2 : Int) (μ : mm) : Option (Int × mm) := if inR (μ o 2) then (if 8 ≤ (μ o 2) then (some (0, μ)) else (if inR a2 then (if a2 ≤ 60 then ((M1_at N o (μ o 2) μ).bind fun (q3 : Nat) => if kd q3 = 5 then ((M2_takeFrom N q3 (o + 10) μ).bind fun (q5 : mm) => bnd (mu q5 q3 0 a0) fun (μ6 : mm) => bnd (mu μ6 q3 1 a1) fun (μ7 : mm) => bnd (mu μ7 q3 3 a2) fun (μ8 : mm) => bnd (mu μ8 o 2 ((μ8 o 2) + 1)) fun (μ9 : mm) => some (1, μ9)) else none) else (some (0, μ))) else none)) else none
-- X1_issue
def M1_issue (N : Nat) (o : Nat) (a0 : Int) (a1 : Int) (μ : mm) : Option (Int × mm) := (M1_knows N o a0 μ).bind fun (q1 : Int) => if inR q1 then (if q1 = 0 then (some (0, μ)) else (if inR a1 ∧ inR (μ o 3) then (if (μ o 3) < a1 then (some (0, μ)) else ((M1_at N o a0 μ).bind fun (q4 : Nat) => if kd q4 = 5 then (if inR ((μ q4 2) + a1) then (if ((μ q4 2) + a1) ≤ 99 then ((M1_at N o a0 μ).bind fun (q7 : Nat) => if kd q7 = 5 then (bnd (mu μ q7 2 ((μ q7 2) + a1)) fun (μ9 : mm) => bnd (mu μ9 o 3 ((μ9 o 3) - a1)) fun (μ10 : mm) => some (1, μ10)) else none) else (some (0, μ))) else none) else none)) else none)) else none
-- X1_wear
def M1_wear (N : Nat) (o : Nat) (a0 : Int) (μ : mm) : Option mm := if inR ((μ o 4) + a0) then (bnd (mu μ o 4 (if 9999 < ((μ o 4) + a0) then 9999 else ((μ o 4) + a0))) fun (μ2 : mm) => some μ2) else none
-- X1_handIn
def M1_handIn (N : Nat) (o : Nat) (a0 : Int) (μ : mm) : Option (Int × mm) := (M1_knows N o a0 μ).bind fun (q1 : Int) => if inR q1 then (if q1 = 0 then (some (0, μ)) else ((M1_at N o a0 μ).bind fun (q3 : Nat) => if kd q3 = 5 then (bnd ((μ o 3) + (μ q3 2)) fun (w5 : Int) => (M1_at N o a0 μ).bind fun (q6 : Nat) => if kd q6 = 5 then (bnd (mu μ q6 2 0) fun (μ8 : mm) => if inR w5 then (bnd (mu μ8 o 3 (if 999 < w5 then 999 else w5)) fun (μ10 : mm) => (M1_wear N o (w5 - (μ10 o 3)) μ10).bind fun (q11 : mm) => some (1, q11)) else none) else none) else none)) else none
-- X1_setDue
def M1_setDue (N : Nat) (o : Nat) (a0 : Int) (a1 : Int) (μ : mm) : Option (Int × mm) := (M1_knows N o a0 μ).bind fun (q1 : Int) => if inR q1 then (if q1 = 0 then (some (0, μ)) else (if inR a1 then (if a1 ≤ 60 then ((M1_at N o a0 μ).bind fun (q4 : Nat) => if kd q4 = 5 then (bnd (mu μ q4 3 a1) fun (μ6 : mm) => some (1, μ6)) else none) else (some (0, μ))) else none)) else none
-- X1_fill
def M1_fill (N : Nat) (o : Nat) (a0 : Int) (μ : mm) : Option (Int × mm) := if inR ((μ o 3) + a0) then (if ((μ o 3) + a0) ≤ 999 then (bnd (mu μ o 3 ((μ o 3) + a0)) fun (μ2 : mm) => some (1, μ2)) else (some (0, μ))) else none
-- X2_oneDay
def J2_oneDay_131 (N : Nat) (r0 : Nat) (x2 : Int) (μ : mm) : Option (Int × mm) := (M0_nextIn N (μ r0 0) μ).bind fun (q9 : Int) => bnd (mu μ r0 3 q9) fun (μ10 : mm) => some (x2, μ10)
def M2_oneDay (N : Nat) (o : Nat) (μ : mm) : Option (Int × mm) := if inR (μ o 3) then (if (μ o 3) = 0 then (some (0, μ)) else (bnd (mu μ o 3 ((μ o 3) - 1)) fun (μ2 : mm) => if inR (μ2 o 3) then (if (μ2 o 3) ≤ 0 then ((M0_needs N (μ2 o 0) (μ2 o 1) μ2).bind fun (q4 : Int) => if inR (μ2 o 2) ∧ inR q4 then (if (μ2 o 2) < q4 then (bnd (mu μ2 o 7 ((μ2 o 7) + 1)) fun (μ6 : mm) => if inR ((μ6 o 5) + 1) then (bnd (mu μ6 o 5 (if 999 < ((μ6 o 5) + 1) then 999 else ((μ6 o 5) + 1))) fun (μ8 : mm) => J2_oneDay_131 N o 0 μ8) else none) else (bnd (mu μ2 o 6 ((μ2 o 6) + 1)) fun (μ11 : mm) => if inR ((μ11 o 4) + 1) then (bnd (mu μ11 o 4 (if 999 < ((μ11 o 4) + 1) then 999 else ((μ11 o 4) + 1))) fun (μ13 : mm) => (M0_wears N (μ13 o 0) q4 μ13).bind fun (q14 : Int) => if inR q14 ∧ inR (μ13 o 2) then (bnd (if (μ13 o 2) < q14 then (μ13 o 2) else q14) fun (w16 : Int) => bnd (mu μ13 o 2 ((μ13 o 2) - w16)) fun (μ17 : mm) => J2_oneDay_131 N o w16 μ17) else none) else none)) else none) else (some (0, μ2))) else none)) else none
-- X1_daysGoBy
def L1_daysGoBy_19 (N : Nat) (rec2 : Nat → Int → Int → mm → Option mm) : Nat → Nat → Int → Int → Int → mm → Option mm
  | 0, _, _, _, _, _ => none
  | k + 1, r0, x1, x2, x3, μ => if inR x3 ∧ inR (μ r0 2) then (if (μ r0 2) ≤ x3 then (rec2 r0 x1 (x2 + 1) μ) else ((M1_at N r0 x3 μ).bind fun (q4 : Nat) => if kd q4 = 5 then ((M2_oneDay N q4 μ).bind fun (q6 : (Int × mm)) => (M1_wear N r0 q6.1 q6.2).bind fun (q7 : mm) => L1_daysGoBy_19 N rec2 k r0 x1 x2 (x3 + 1) q7) else none)) else none
def L1_daysGoBy_2 (N : Nat) : Nat → Nat → Int → Int → mm → Option mm
  | 0, _, _, _, _ => none
  | k + 1, r0, x1, x2, μ => if inR x2 ∧ inR x1 then (if x1 ≤ x2 then (some μ) else (bnd (mu μ r0 5 ((μ r0 5) + 1)) fun (μ2 : mm) => L1_daysGoBy_19 N (L1_daysGoBy_2 N k) N r0 x1 x2 0 μ2)) else none
def M1_daysGoBy (N : Nat) (o : Nat) (a0 : Int) (μ : mm) : Option mm := L1_daysGoBy_2 N N o a0 0 μ
-- X1_daysCome
def M1_daysCome (N : Nat) (o : Nat) (a0 : Int) (μ : mm) : Option (Int × mm) := if inR a0 then (if a0 < 1 then (some (0, μ)) else (if inR a0 then (if 60 < a0 then (some (0, μ)) else (if inR ((μ o 5) + a0) then (if ((μ o 5) + a0) ≤ 999 then ((M1_daysGoBy N o a0 μ).bind fun (q4 : mm) => some (1, q4)) else (some (0, μ))) else none)) else none)) else none
-- X2_needed
def M2_needed (N : Nat) (o : Nat) (μ0 : mm) : Option Int := (M0_needs N (μ0 o 0) (μ0 o 1) μ0).bind fun (q1 : Int) => some q1
-- X2_lacking
def M2_lacking (N : Nat) (o : Nat) (μ0 : mm) : Option Int := if inR (μ0 o 3) then (if (μ0 o 3) = 0 then (some 0) else ((M2_needed N o μ0).bind fun (q2 : Int) => if inR (q2 - (μ0 o 2)) then (some (if 0 < (q2 - (μ0 o 2)) then (q2 - (μ0 o 2)) else 0)) else none)) else none
-- X1_issueAhead
def J1_issueAhead_38 (N : Nat) (rec2 : Nat → Int → mm → Option (Int × mm)) (r0 : Nat) (x1 : Int) (μ : mm) : Option (Int × mm) := rec2 r0 (x1 + 1) μ
def L1_issueAhead_2 (N : Nat) : Nat → Nat → Int → mm → Option (Int × mm)
  | 0, _, _, _ => none
  | k + 1, r0, x1, μ => if inR x1 ∧ inR (μ r0 2) then (if (μ r0 2) ≤ x1 then (some ((-9), μ)) else ((M1_at N r0 x1 μ).bind fun (q2 : Nat) => if kd q2 = 5 then (if inR (μ q2 3) then (if (μ q2 3) = 1 then ((M2_lacking N q2 μ).bind fun (q5 : Int) => (M1_issue N r0 x1 q5 μ).bind fun (q6 : (Int × mm)) => if inR q6.1 then (if q6.1 = 0 then (some (x1, q6.2)) else (J1_issueAhead_38 N (L1_issueAhead_2 N k) r0 x1 q6.2)) else none) else (J1_issueAhead_38 N (L1_issueAhead_2 N k) r0 x1 μ)) else none) else none)) else none
def M1_issueAhead (N : Nat) (o : Nat) (μ : mm) : Option (Int × mm) := L1_issueAhead_2 N N o 0 μ
-- X1_firstMissing
def L1_firstMissing_2 (N : Nat) : Nat → Nat → Int → mm → Option Int
  | 0, _, _, _ => none
  | k + 1, r0, x1, μ => if inR x1 ∧ inR (μ r0 2) then (if (μ r0 2) ≤ x1 then (some (-9)) else ((M1_at N r0 x1 μ).bind fun (q2 : Nat) => if kd q2 = 5 then (if inR (μ q2 7) then (if (μ q2 7) ≤ 0 then (L1_firstMissing_2 N k r0 (x1 + 1) μ) else (some x1)) else none) else none)) else none
def M1_firstMissing (N : Nat) (o : Nat) (μ0 : mm) : Option Int := L1_firstMissing_2 N N o 0 μ0
-- X1_lackAll
def J1_lackAll_32 (N : Nat) (rec2 : Nat → Int → Int → mm → Option Int) (r0 : Nat) (x1 : Int) (x2 : Int) (μ : mm) : Option Int := rec2 r0 x1 (x2 + 1) μ
def L1_lackAll_2 (N : Nat) : Nat → Nat → Int → Int → mm → Option Int
  | 0, _, _, _, _ => none
  | k + 1, r0, x1, x2, μ => if inR x2 ∧ inR (μ r0 2) then (if (μ r0 2) ≤ x2 then (some 1) else (if inR x1 ∧ 0 ≤ x2 ∧ x2 < 32 then (if inR ((x1 / 2 ^ (x2 : Int).toNat) % 2) then (if ((x1 / 2 ^ (x2 : Int).toNat) % 2) = 1 then ((M1_at N r0 x2 μ).bind fun (q4 : Nat) => if kd q4 = 5 then ((M2_lacking N q4 μ).bind fun (q6 : Int) => if inR q6 then (if q6 = 0 then (some 0) else (J1_lackAll_32 N (L1_lackAll_2 N k) r0 x1 x2 μ)) else none) else none) else (J1_lackAll_32 N (L1_lackAll_2 N k) r0 x1 x2 μ)) else none) else none)) else none
def M1_lackAll (N : Nat) (o : Nat) (a0 : Int) (μ0 : mm) : Option Int := L1_lackAll_2 N N o a0 0 μ0
-- X1_lackOf
def J1_lackOf_32 (N : Nat) (rec4 : Nat → Int → Int → Int → mm → Option Int) (r0 : Nat) (x1 : Int) (x2 : Int) (x3 : Int) (μ : mm) : Option Int := rec4 r0 x1 x2 (x3 + 1) μ
def L1_lackOf_4 (N : Nat) : Nat → Nat → Int → Int → Int → mm → Option Int
  | 0, _, _, _, _, _ => none
  | k + 1, r0, x1, x2, x3, μ => if inR x3 ∧ inR (μ r0 2) then (if (μ r0 2) ≤ x3 then (some x2) else (if inR x1 ∧ 0 ≤ x3 ∧ x3 < 32 then (if inR ((x1 / 2 ^ (x3 : Int).toNat) % 2) then (if ((x1 / 2 ^ (x3 : Int).toNat) % 2) = 1 then ((M1_at N r0 x3 μ).bind fun (q4 : Nat) => if kd q4 = 5 then ((M2_lacking N q4 μ).bind fun (q6 : Int) => bnd (x2 + q6) fun (w7 : Int) => J1_lackOf_32 N (L1_lackOf_4 N k) r0 x1 w7 x3 μ) else none) else (J1_lackOf_32 N (L1_lackOf_4 N k) r0 x1 x2 x3 μ)) else none) else none)) else none
def M1_lackOf (N : Nat) (o : Nat) (a0 : Int) (μ0 : mm) : Option Int := L1_lackOf_4 N N o a0 0 0 μ0
-- X1_allThrough
def L1_allThrough_4 (N : Nat) : Nat → Nat → Int → Int → mm → Option Int
  | 0, _, _, _, _ => none
  | k + 1, r0, x1, x2, μ => if inR x2 ∧ inR (μ r0 2) then (if (μ r0 2) ≤ x2 then (some x1) else ((M1_at N r0 x2 μ).bind fun (q2 : Nat) => if kd q2 = 5 then (bnd (x1 + (μ q2 4)) fun (w4 : Int) => L1_allThrough_4 N k r0 w4 (x2 + 1) μ) else none)) else none
def M1_allThrough (N : Nat) (o : Nat) (μ0 : mm) : Option Int := L1_allThrough_4 N N o 0 0 μ0
-- X1_allShort
def L1_allShort_4 (N : Nat) : Nat → Nat → Int → Int → mm → Option Int
  | 0, _, _, _, _ => none
  | k + 1, r0, x1, x2, μ => if inR x2 ∧ inR (μ r0 2) then (if (μ r0 2) ≤ x2 then (some x1) else ((M1_at N r0 x2 μ).bind fun (q2 : Nat) => if kd q2 = 5 then (bnd (x1 + (μ q2 5)) fun (w4 : Int) => L1_allShort_4 N k r0 w4 (x2 + 1) μ) else none)) else none
def M1_allShort (N : Nat) (o : Nat) (μ0 : mm) : Option Int := L1_allShort_4 N N o 0 0 μ0
-- X1_allHas
def L1_allHas_4 (N : Nat) : Nat → Nat → Int → Int → mm → Option Int
  | 0, _, _, _, _ => none
  | k + 1, r0, x1, x2, μ => if inR x2 ∧ inR (μ r0 2) then (if (μ r0 2) ≤ x2 then (some x1) else ((M1_at N r0 x2 μ).bind fun (q2 : Nat) => if kd q2 = 5 then (bnd (x1 + (μ q2 2)) fun (w4 : Int) => L1_allHas_4 N k r0 w4 (x2 + 1) μ) else none)) else none
def M1_allHas (N : Nat) (o : Nat) (μ0 : mm) : Option Int := L1_allHas_4 N N o 0 0 μ0
-- X1_allWithMatter
def J1_allWithMatter_26 (N : Nat) (rec4 : Nat → Int → Int → mm → Option Int) (r0 : Nat) (x1 : Int) (x2 : Int) (μ : mm) : Option Int := rec4 r0 x1 (x2 + 1) μ
def L1_allWithMatter_4 (N : Nat) : Nat → Nat → Int → Int → mm → Option Int
  | 0, _, _, _, _ => none
  | k + 1, r0, x1, x2, μ => if inR x2 ∧ inR (μ r0 2) then (if (μ r0 2) ≤ x2 then (some x1) else ((M1_at N r0 x2 μ).bind fun (q2 : Nat) => if kd q2 = 5 then (if inR (μ q2 3) then (if (μ q2 3) ≤ 0 then (J1_allWithMatter_26 N (L1_allWithMatter_4 N k) r0 x1 x2 μ) else (J1_allWithMatter_26 N (L1_allWithMatter_4 N k) r0 (x1 + 1) x2 μ)) else none) else none)) else none
def M1_allWithMatter (N : Nat) (o : Nat) (μ0 : mm) : Option Int := L1_allWithMatter_4 N N o 0 0 μ0
-- X3_add
def M3_add (N : Nat) (a0 : Int) (μ : mm) : Option mm := if inR (μ 44 1) then (if (μ 44 1) < 0 then (some μ) else (if inR (μ 44 1) then (if 96 ≤ (μ 44 1) then (some μ) else (bnd (mu μ 44 1 ((μ 44 1) + 1)) fun (μ3 : mm) => if 0 ≤ (μ 44 1) ∧ (μ 44 1) < 96 then (bnd (mu μ3 45 ((μ 44 1)).toNat a0) fun (μ5 : mm) => some μ5) else none)) else none)) else none
-- X3_letterAt
def M3_letterAt (N : Nat) (a0 : Int) (μ0 : mm) : Option Int := if inR a0 then (if a0 < 0 then (some (-1)) else (if inR a0 ∧ inR (μ0 44 1) then (if (μ0 44 1) ≤ a0 then (some (-1)) else (if inR a0 then (if 96 ≤ a0 then (some (-1)) else (if 0 ≤ a0 ∧ a0 < 96 then (some (μ0 45 (a0).toNat)) else none)) else none)) else none)) else none
-- J0_isLatin1_aae02
def M0_isLatin1_aae02 (N : Nat) (o : Nat) (μ0 : mm) : Option Int := if (1 : Int) = 0 then (some 0) else (if (0 : Int) = 0 then (some 1) else (some 0))
-- J0_coder_7d493
def M0_coder_7d493 (N : Nat) (o : Nat) (μ0 : mm) : Option Int := if (1 : Int) = 0 then (some 1) else (some 0)
-- J0_length_8abf5
def M0_length_8abf5 (N : Nat) (o : Nat) (μ0 : mm) : Option Int := (M0_coder_7d493 N o μ0).bind fun (q1 : Int) => if inR (blen (o + 20)) ∧ 0 ≤ q1 ∧ q1 < 32 then (some ((blen (o + 20)) / 2 ^ (q1 : Int).toNat)) else none
-- J1_canEncode_9a6ad
def M1_canEncode_9a6ad (N : Nat) (a0 : Int) (μ0 : mm) : Option Int := if inR a0 then (if a0 < 0 then (some 0) else (if inR a0 then (if 255 < a0 then (some 0) else (some 1)) else none)) else none
-- J1_indexOfChar_4cfef
def L1_indexOfChar_4cfef_7 (N : Nat) : Nat → Nat → Int → Int → Int → mm → Option Int
  | 0, _, _, _, _, _ => none
  | k + 1, r0, x3, x4, x5, μ => if inR x5 ∧ inR x3 then (if x3 ≤ x5 then (some (-1)) else (if 0 ≤ x5 ∧ x5 < blen r0 then (if inR (bch r0 (x5).toNat) ∧ inR x4 then (if (bch r0 (x5).toNat) = x4 then (some x5) else (L1_indexOfChar_4cfef_7 N k r0 x3 x4 (x5 + 1) μ)) else none) else none)) else none
def M1_indexOfChar_4cfef (N : Nat) (a0 : Nat) (a1 : Int) (a2 : Int) (a3 : Int) (μ0 : mm) : Option Int := bnd ((a1 + 128) % 256 - 128) fun (w1 : Int) => L1_indexOfChar_4cfef_7 N N a0 a3 w1 a2 μ0
-- J1_indexOf_4cfef
def M1_indexOf_4cfef (N : Nat) (a0 : Nat) (a1 : Int) (a2 : Int) (a3 : Int) (μ0 : mm) : Option Int := (M1_canEncode_9a6ad N a1 μ0).bind fun (q1 : Int) => if inR q1 then (if q1 = 0 then (some (-1)) else (if inR a2 then (bnd (if a2 < 0 then 0 else a2) fun (w4 : Int) => if inR a3 ∧ inR (blen a0) then (bnd (if (blen a0) < a3 then (blen a0) else a3) fun (w6 : Int) => if inR w4 ∧ inR w6 then (if w4 < w6 then ((M1_indexOfChar_4cfef N a0 a1 w4 w6 μ0).bind fun (q8 : Int) => some q8) else (some (-1))) else none) else none) else none)) else none
-- J0_indexOf_7cf53
def M0_indexOf_7cf53 (N : Nat) (o : Nat) (a0 : Int) (a1 : Int) (μ0 : mm) : Option Int := (M0_isLatin1_aae02 N o μ0).bind fun (q1 : Int) => if inR q1 then (if q1 = 0 then ((M0_length_8abf5 N o μ0).bind fun (q3 : Int) => none) else ((M0_length_8abf5 N o μ0).bind fun (q4 : Int) => (M1_indexOf_4cfef N (o + 20) a0 a1 q4 μ0).bind fun (q5 : Int) => some q5)) else none
-- J0_indexOf_0f7a4
def M0_indexOf_0f7a4 (N : Nat) (o : Nat) (a0 : Int) (μ0 : mm) : Option Int := (M0_indexOf_7cf53 N o a0 0 μ0).bind fun (q1 : Int) => some q1
-- X3_kindAt
def M3_kindAt (N : Nat) (a0 : Int) (μ0 : mm) : Option Int := (M3_letterAt N a0 μ0).bind fun (q1 : Int) => if inR q1 then (if 0 ≤ q1 then (if 0 ≤ q1 ∧ q1 < 65536 then ((M0_indexOf_0f7a4 N 65 q1 μ0).bind fun (q4 : Int) => some q4) else none) else (some (-1))) else none
-- X3_number
def L3_number_5 (N : Nat) : Nat → Int → Int → Int → Int → mm → Option Int
  | 0, _, _, _, _, _ => none
  | k + 1, x1, x2, x3, x4, μ => if inR x4 ∧ inR x2 then (if x2 ≤ x4 then (some x3) else ((M3_letterAt N (x1 + x4) μ).bind fun (q2 : Int) => bnd (((x3 * 10) + q2) - 48) fun (w3 : Int) => L3_number_5 N k x1 x2 w3 (x4 + 1) μ)) else none
def M3_number (N : Nat) (a0 : Int) (a1 : Int) (μ0 : mm) : Option Int := L3_number_5 N N a0 a1 0 0 μ0
-- X3_behind
def M3_behind (N : Nat) (a0 : Int) (μ0 : mm) : Option Nat := if inR a0 then (if a0 = 100 then (some 63) else (if a0 = 101 then (some 64) else (if a0 = 102 then (some 64) else (if a0 = 103 then (some 61) else (if a0 = 104 then (some 64) else (if a0 = 105 then (some 61) else (if a0 = 106 then (some 64) else (if a0 = 107 then (some 64) else (if a0 = 108 then (some 64) else (if a0 = 109 then (some 64) else (if a0 = 110 then (some 64) else (if a0 = 111 then (some 64) else (if a0 = 112 then (some 60) else (if a0 = 113 then (some 64) else (if a0 = 114 then (some 62) else (if a0 = 115 then (some 64) else (if a0 = 116 then (some 64) else (if a0 = 117 then (some 61) else (some 64))))))))))))))))))) else none
-- X3_lengthAt
def M3_lengthAt (N : Nat) (a0 : Int) (μ0 : mm) : Option Int := (M3_letterAt N a0 μ0).bind fun (q1 : Int) => (M3_behind N q1 μ0).bind fun (q2 : Nat) => if 60 ≤ q2 ∧ q2 < 66 then ((M0_length_8abf5 N q2 μ0).bind fun (q4 : Int) => some (1 + q4)) else none
-- J0_isEmpty_aae02
def M0_isEmpty_aae02 (N : Nat) (o : Nat) (μ0 : mm) : Option Int := if inR (blen (o + 20)) then (if (blen (o + 20)) = 0 then (some 1) else (some 0)) else none
-- J1_charAt_3b067
def M1_charAt_3b067 (N : Nat) (a0 : Nat) (a1 : Int) (μ0 : mm) : Option Int := (M0_checkIndex_df160 N a1 (blen a0) μ0).bind fun (q1 : mm) => if 0 ≤ a1 ∧ a1 < blen a0 then (if 0 ≤ ((bch a0 (a1).toNat) % 256) ∧ ((bch a0 (a1).toNat) % 256) < 65536 then (if 0 ≤ ((bch a0 (a1).toNat) % 256) ∧ ((bch a0 (a1).toNat) % 256) < 65536 then (some ((bch a0 (a1).toNat) % 256)) else none) else none) else none
-- J0_charAt_5068e
def M0_charAt_5068e (N : Nat) (o : Nat) (a0 : Int) (μ0 : mm) : Option Int := (M0_isLatin1_aae02 N o μ0).bind fun (q1 : Int) => if inR q1 then (if q1 = 0 then (none) else ((M1_charAt_3b067 N (o + 20) a0 μ0).bind fun (q3 : Int) => if 0 ≤ q3 ∧ q3 < 65536 then (some q3) else none)) else none
-- X3_fits
def M3_fits (N : Nat) (a0 : Int) (a1 : Int) (μ0 : mm) : Option Int := (M3_letterAt N a0 μ0).bind fun (q1 : Int) => if inR a1 then (if a1 = 48 then (if inR q1 then (if q1 < 48 then (some 0) else (if inR q1 then (if 57 < q1 then (some 0) else (some 1)) else none)) else none) else (if a1 = 107 then ((M3_kindAt N a0 μ0).bind fun (q8 : Int) => if inR q8 then (if q8 < 0 then (some 0) else (some 1)) else none) else (if inR q1 ∧ inR a1 then (if q1 = a1 then (some 1) else (some 0)) else none))) else none
-- X3_firstWrong
def L3_firstWrong_42 (N : Nat) (rec11 : Int → mm → Option Int) : Nat → Int → Nat → Int → mm → Option Int
  | 0, _, _, _, _ => none
  | k + 1, x1, r2, x3, μ => (M0_length_8abf5 N r2 μ).bind fun (q8 : Int) => if inR x3 ∧ inR q8 then (if q8 ≤ x3 then (rec11 x1 μ) else ((M0_charAt_5068e N r2 x3 μ).bind fun (q10 : Int) => (M3_fits N x1 q10 μ).bind fun (q11 : Int) => if inR q11 then (if q11 = 0 then (some x1) else (L3_firstWrong_42 N rec11 k (x1 + 1) r2 (x3 + 1) μ)) else none)) else none
def L3_firstWrong_11 (N : Nat) : Nat → Int → mm → Option Int
  | 0, _, _ => none
  | k + 1, x1, μ => if inR x1 ∧ inR (μ 44 1) then (if (μ 44 1) ≤ x1 then (some (-1)) else ((M3_letterAt N x1 μ).bind fun (q3 : Int) => (M3_behind N q3 μ).bind fun (q4 : Nat) => if 60 ≤ q4 ∧ q4 < 66 then ((M0_isEmpty_aae02 N q4 μ).bind fun (q6 : Int) => if inR q6 then (if q6 = 0 then (L3_firstWrong_42 N (L3_firstWrong_11 N k) N (x1 + 1) q4 0 μ) else (some x1)) else none) else none)) else none
def M3_firstWrong (N : Nat)  (μ0 : mm) : Option Int := if inR (μ0 44 1) then (if (μ0 44 1) = 0 then (some 0) else (L3_firstWrong_11 N N 0 μ0)) else none
-- X4_outside
def M4_outside (N : Nat) (a0 : Int) (a1 : Int) (a2 : Int) (μ0 : mm) : Option Int := if inR a0 ∧ inR a1 then (if a1 ≤ a0 then (if inR a0 ∧ inR a2 then (if a0 ≤ a2 then (some 0) else (some (-6))) else none) else (some (-4))) else none
-- X4_refused
def M4_refused (N : Nat) (a0 : Int) (μ : mm) : Option (Int × mm) := bnd (-a0) fun (w1 : Int) => if inR w1 then (if w1 < 0 then (some (a0, μ)) else (if inR w1 then (if 7 ≤ w1 then (some (a0, μ)) else (if 0 ≤ w1 ∧ w1 < 7 then (if 0 ≤ w1 ∧ w1 < 7 then (bnd (mu μ 47 (w1).toNat ((μ 47 (w1).toNat) + 1)) fun (μ6 : mm) => some (a0, μ6)) else none) else none)) else none)) else none
-- X4_letter
def J4_letter_28 (N : Nat) (x1 : Int) (x2 : Int) (μ : mm) : Option (Int × mm) := if inR x2 then (if x2 = 0 then ((M3_add N x1 μ).bind fun (q4 : mm) => some ((q4 44 1), q4)) else ((M4_refused N x2 μ).bind fun (q5 : (Int × mm)) => some (q5.1, q5.2))) else none
def M4_letter (N : Nat) (a0 : Int) (μ : mm) : Option (Int × mm) := (M4_outside N a0 0 255 μ).bind fun (q1 : Int) => if inR q1 then (if q1 = 0 then (if inR (μ 44 1) then (if (μ 44 1) < 96 then (J4_letter_28 N a0 q1 μ) else (J4_letter_28 N a0 (-6) μ)) else none) else (J4_letter_28 N a0 q1 μ)) else none
-- X4_comes
def M4_comes (N : Nat) (a0 : Int) (μ : mm) : Option (Int × mm) := (M3_number N (a0 + 1) 1 μ).bind fun (q1 : Int) => (M3_letterAt N a0 μ).bind fun (q2 : Int) => if inR q2 then (if q2 = 100 then ((M3_number N (a0 + 1) 2 μ).bind fun (q4 : Int) => (M1_daysCome N 21 q4 μ).bind fun (q5 : (Int × mm)) => if (q5.1 = 0 ∨ q5.1 = 1) then (some (q5.1, q5.2)) else none) else (if q2 = 101 then (some (0, μ)) else (if q2 = 102 then (some (0, μ)) else (if q2 = 103 then ((M3_number N (a0 + 1) 3 μ).bind fun (q10 : Int) => (M1_fill N 21 q10 μ).bind fun (q11 : (Int × mm)) => if (q11.1 = 0 ∨ q11.1 = 1) then (some (q11.1, q11.2)) else none) else (if q2 = 104 then (some (0, μ)) else (if q2 = 105 then ((M3_number N (a0 + 2) 2 μ).bind fun (q15 : Int) => (M1_issue N 21 q1 q15 μ).bind fun (q16 : (Int × mm)) => if (q16.1 = 0 ∨ q16.1 = 1) then (some (q16.1, q16.2)) else none) else (if q2 = 106 then (some (0, μ)) else (if q2 = 107 then (some (0, μ)) else (if q2 = 108 then (some (0, μ)) else (if q2 = 109 then (some (0, μ)) else (if q2 = 110 then (some (0, μ)) else (if q2 = 111 then (some (0, μ)) else (if q2 = 112 then ((M3_kindAt N (a0 + 1) μ).bind fun (q25 : Int) => (M3_number N (a0 + 2) 1 μ).bind fun (q26 : Int) => (M3_number N (a0 + 3) 2 μ).bind fun (q27 : Int) => (M1_welcome N 21 q25 q26 q27 μ).bind fun (q28 : (Int × mm)) => if (q28.1 = 0 ∨ q28.1 = 1) then (some (q28.1, q28.2)) else none) else (if q2 = 113 then (some (0, μ)) else (if q2 = 114 then ((M1_handIn N 21 q1 μ).bind fun (q32 : (Int × mm)) => if (q32.1 = 0 ∨ q32.1 = 1) then (some (q32.1, q32.2)) else none) else (if q2 = 115 then (some (0, μ)) else (if q2 = 116 then (some (0, μ)) else (if q2 = 117 then ((M3_number N (a0 + 2) 2 μ).bind fun (q37 : Int) => (M1_setDue N 21 q1 q37 μ).bind fun (q38 : (Int × mm)) => if (q38.1 = 0 ∨ q38.1 = 1) then (some (q38.1, q38.2)) else none) else (some (0, μ)))))))))))))))))))) else none
-- X4_read
def J4_read_81 (N : Nat) (x2 : Int) (μ : mm) : Option (Int × mm) := (M1_takeFrom N 10 21 μ).bind fun (q5 : mm) => some (x2, q5)
def L4_read_33 (N : Nat) : Nat → Int → Int → mm → Option (Int × mm)
  | 0, _, _, _ => none
  | k + 1, x2, x3, μ => if inR x3 ∧ inR (μ 44 1) then (if (μ 44 1) ≤ x3 then (J4_read_81 N x2 μ) else (if inR x2 then (if 96 ≤ x2 then (J4_read_81 N x2 μ) else ((M4_comes N x3 μ).bind fun (q7 : (Int × mm)) => if inR q7.1 then (if q7.1 = 0 then (some (((-2000) - x3), q7.2)) else ((M3_lengthAt N x3 q7.2).bind fun (q9 : Int) => bnd (x3 + q9) fun (w10 : Int) => L4_read_33 N k (x2 + 1) w10 q7.2)) else none)) else none)) else none
def M4_read (N : Nat)  (μ : mm) : Option (Int × mm) := (M3_firstWrong N μ).bind fun (q1 : Int) => if inR q1 then (if q1 < 0 then ((M1_takeFrom N 21 10 μ).bind fun (q3 : mm) => L4_read_33 N N 0 0 q3) else (some (((-1000) - q1), μ))) else none
-- X4_counter
def M4_counter (N : Nat)  (μ : mm) : Option (Int × mm) := (M4_read N μ).bind fun (q1 : (Int × mm)) => bnd (mu q1.2 44 1 0) fun (μ2 : mm) => some (q1.1, μ2)
-- X4_unknown
def M4_unknown (N : Nat) (a0 : Int) (μ0 : mm) : Option Int := (M1_knows N 10 a0 μ0).bind fun (q1 : Int) => if inR q1 then (if q1 = 0 then (some (-1)) else (some 0)) else none
-- X4_other
def M4_other (N : Nat) (a0 : Int) (a1 : Int) (μ0 : mm) : Option Int := if inR a0 then (if a0 < 0 then (some (-2)) else (if inR a0 ∧ inR a1 then (if a0 ≤ a1 then (some 0) else (some (-2))) else none)) else none
-- X4_firstOf
def M4_firstOf (N : Nat) (a0 : Int) (a1 : Int) (a2 : Int) (μ0 : mm) : Option Int := if inR a0 then (if a0 = 0 then (if inR a1 then (if a1 = 0 then (some a2) else (some a1)) else none) else (some a0)) else none
-- X4_person
def M4_person (N : Nat) (a0 : Int) (a1 : Int) (μ : mm) : Option (Int × mm) := (M4_unknown N a0 μ).bind fun (q1 : Int) => (M4_other N a1 7 μ).bind fun (q2 : Int) => (M4_firstOf N q1 q2 0 μ).bind fun (q3 : Int) => if inR q3 then (if q3 = 0 then ((M1_at N 10 a0 μ).bind fun (q5 : Nat) => if kd q5 = 5 then (if inR a1 then (if a1 = 0 then (some ((μ q5 0), μ)) else (if a1 = 1 then (some ((μ q5 1), μ)) else (if a1 = 2 then (some ((μ q5 2), μ)) else (if a1 = 3 then (some ((μ q5 3), μ)) else (if a1 = 4 then (some ((μ q5 4), μ)) else (if a1 = 5 then (some ((μ q5 5), μ)) else (if a1 = 6 then ((M2_needed N q5 μ).bind fun (q14 : Int) => some (q14, μ)) else ((M2_lacking N q5 μ).bind fun (q16 : Int) => some (q16, μ))))))))) else none) else none) else ((M4_refused N q3 μ).bind fun (q17 : (Int × mm)) => some (q17.1, q17.2))) else none
-- X4_issues
def M4_issues (N : Nat) (a0 : Int) (a1 : Int) (μ : mm) : Option (Int × mm) := (M4_unknown N a0 μ).bind fun (q1 : Int) => (M4_outside N a1 0 99 μ).bind fun (q2 : Int) => (M4_firstOf N q1 q2 0 μ).bind fun (q3 : Int) => if inR q3 then (if q3 = 0 then ((M1_issue N 10 a0 a1 μ).bind fun (q5 : (Int × mm)) => if inR q5.1 then (if q5.1 = 0 then ((M4_refused N (-3) q5.2).bind fun (q7 : (Int × mm)) => some (q7.1, q7.2)) else (some ((q5.2 10 3), q5.2))) else none) else ((M4_refused N q3 μ).bind fun (q9 : (Int × mm)) => some (q9.1, q9.2))) else none
-- X4_returns
def J4_returns_27 (N : Nat) (x1 : Int) (x2 : Int) (μ : mm) : Option (Int × mm) := if inR x2 then (if x2 = 0 then ((M1_handIn N 10 x1 μ).bind fun (q4 : (Int × mm)) => some ((q4.2 10 3), q4.2)) else ((M4_refused N x2 μ).bind fun (q5 : (Int × mm)) => some (q5.1, q5.2))) else none
def M4_returns (N : Nat) (a0 : Int) (μ : mm) : Option (Int × mm) := (M4_unknown N a0 μ).bind fun (q1 : Int) => if inR q1 then (if q1 = 0 then ((M1_at N 10 a0 μ).bind fun (q7 : Nat) => if kd q7 = 5 then (if inR (μ q7 2) then (if (μ q7 2) = 0 then (J4_returns_27 N a0 (-3) μ) else (J4_returns_27 N a0 q1 μ)) else none) else none) else (J4_returns_27 N a0 q1 μ)) else none
-- X4_due
def M4_due (N : Nat) (a0 : Int) (a1 : Int) (μ : mm) : Option (Int × mm) := (M4_unknown N a0 μ).bind fun (q1 : Int) => (M4_outside N a1 0 60 μ).bind fun (q2 : Int) => (M4_firstOf N q1 q2 0 μ).bind fun (q3 : Int) => if inR q3 then (if q3 = 0 then ((M1_at N 10 a0 μ).bind fun (q5 : Nat) => if kd q5 = 5 then (bnd (μ q5 3) fun (w7 : Int) => bnd (mu μ q5 3 a1) fun (μ8 : mm) => some (w7, μ8)) else none) else ((M4_refused N q3 μ).bind fun (q9 : (Int × mm)) => some (q9.1, q9.2))) else none
-- X4_fills
def M4_fills (N : Nat) (a0 : Int) (μ : mm) : Option (Int × mm) := (M4_outside N a0 0 99 μ).bind fun (q1 : Int) => if inR q1 then (if q1 = 0 then ((M1_fill N 10 a0 μ).bind fun (q3 : (Int × mm)) => if inR q3.1 then (if q3.1 = 0 then ((M4_refused N (-6) q3.2).bind fun (q5 : (Int × mm)) => some (q5.1, q5.2)) else (some ((q3.2 10 3), q3.2))) else none) else ((M4_refused N q1 μ).bind fun (q7 : (Int × mm)) => some (q7.1, q7.2))) else none
-- X4_turn
def M4_turn (N : Nat) (a0 : Int) (a1 : Int) (a2 : Int) (μ : mm) : Option (Int × mm) := (M4_unknown N a0 μ).bind fun (q1 : Int) => (M4_other N a1 5 μ).bind fun (q2 : Int) => (M4_outside N a2 0 9 μ).bind fun (q3 : Int) => (M4_firstOf N q1 q2 q3 μ).bind fun (q4 : Int) => if inR q4 then (if q4 = 0 then ((M1_at N 10 a0 μ).bind fun (q6 : Nat) => if kd q6 = 5 then (bnd ((10 * (μ q6 0)) + (μ q6 1)) fun (w8 : Int) => bnd (mu μ q6 0 a1) fun (μ9 : mm) => bnd (mu μ9 q6 1 a2) fun (μ10 : mm) => some (w8, μ10)) else none) else ((M4_refused N q4 μ).bind fun (q11 : (Int × mm)) => some (q11.1, q11.2))) else none
-- X4_days
def J4_days_30 (N : Nat) (x1 : Int) (x2 : Int) (μ : mm) : Option (Int × mm) := if inR x2 then (if x2 = 0 then ((M1_allThrough N 10 μ).bind fun (q4 : Int) => (M1_daysGoBy N 10 x1 μ).bind fun (q5 : mm) => (M1_allThrough N 10 q5).bind fun (q6 : Int) => some ((q6 - q4), q5)) else ((M4_refused N x2 μ).bind fun (q7 : (Int × mm)) => some (q7.1, q7.2))) else none
def M4_days (N : Nat) (a0 : Int) (μ : mm) : Option (Int × mm) := (M4_outside N a0 1 60 μ).bind fun (q1 : Int) => if inR q1 then (if q1 = 0 then (if inR ((μ 10 5) + a0) then (if ((μ 10 5) + a0) ≤ 999 then (J4_days_30 N a0 q1 μ) else (J4_days_30 N a0 (-6) μ)) else none) else (J4_days_30 N a0 q1 μ)) else none
-- X4_thought
def L4_thought_26 (N : Nat) : Nat → Int → Int → mm → Option (Nat × mm)
  | 0, _, _, _ => none
  | k + 1, x3, x4, μ => if inR x4 ∧ inR x3 then (if x3 ≤ x4 then (some (43, μ)) else ((M2_oneDay N 43 μ).bind fun (q6 : (Int × mm)) => L4_thought_26 N k x3 (x4 + 1) q6.2)) else none
def M4_thought (N : Nat) (a0 : Int) (a1 : Int) (a2 : Int) (μ : mm) : Option (Nat × mm) := (M1_at N 10 a0 μ).bind fun (q1 : Nat) => if kd q1 = 5 then ((M2_takeFrom N 43 q1 μ).bind fun (q3 : mm) => bnd (mu q3 43 2 a1) fun (μ4 : mm) => L4_thought_26 N N a2 0 μ4) else none
-- X4_personThen
def M4_personThen (N : Nat) (a0 : Int) (a1 : Int) (a2 : Int) (μ : mm) : Option (Int × mm) := (M4_unknown N a0 μ).bind fun (q1 : Int) => (M4_outside N a1 0 99 μ).bind fun (q2 : Int) => (M4_other N a2 4 μ).bind fun (q3 : Int) => (M4_firstOf N q1 q2 q3 μ).bind fun (q4 : Int) => if inR q4 then (if q4 = 0 then ((M1_at N 10 a0 μ).bind fun (q6 : Nat) => if kd q6 = 5 then ((M4_thought N a0 (μ q6 2) a1 μ).bind fun (q8 : (Nat × mm)) => if kd q8.1 = 5 then (if inR a2 then (if a2 = 0 then (some ((q8.2 q8.1 2), q8.2)) else (if a2 = 1 then (some ((q8.2 q8.1 3), q8.2)) else (if a2 = 2 then (some ((q8.2 q8.1 4), q8.2)) else (if a2 = 3 then (some ((q8.2 q8.1 5), q8.2)) else (if inR (q8.2 q8.1 5) ∧ inR (q8.2 q6 5) then (if (q8.2 q8.1 5) ≤ (q8.2 q6 5) then (some (0, q8.2)) else (some (1, q8.2))) else none))))) else none) else none) else none) else ((M4_refused N q4 μ).bind fun (q17 : (Int × mm)) => some (q17.1, q17.2))) else none
-- X4_allThen
def M4_allThen (N : Nat) (a0 : Int) (a1 : Int) (μ : mm) : Option (Int × mm) := (M4_outside N a0 0 99 μ).bind fun (q1 : Int) => (M4_other N a1 2 μ).bind fun (q2 : Int) => (M4_firstOf N q1 q2 0 μ).bind fun (q3 : Int) => if inR q3 then (if q3 = 0 then ((M1_takeFrom N 21 10 μ).bind fun (q5 : mm) => (M1_daysGoBy N 21 a0 q5).bind fun (q6 : mm) => if inR a1 then (if a1 = 0 then ((M1_allThrough N 21 q6).bind fun (q11 : Int) => some (q11, q6)) else (if inR a1 then (if a1 = 1 then ((M1_allShort N 21 q6).bind fun (q9 : Int) => some (q9, q6)) else (some ((q6 21 4), q6))) else none)) else none) else ((M4_refused N q3 μ).bind fun (q13 : (Int × mm)) => some (q13.1, q13.2))) else none
-- X4_first
def L4_first_29 (N : Nat) : Nat → Int → Int → mm → Option (Int × mm)
  | 0, _, _, _ => none
  | k + 1, x1, x3, μ => if inR x3 then (if 99 < x3 then (some ((-9), μ)) else ((M1_daysGoBy N 21 1 μ).bind fun (q5 : mm) => (M1_firstMissing N 21 q5).bind fun (q6 : Int) => if inR q6 then (if q6 < 0 then (L4_first_29 N k x1 (x3 + 1) q5) else (if inR x1 then (if x1 = 0 then (some (q6, q5)) else (some (x3, q5))) else none)) else none)) else none
def M4_first (N : Nat) (a0 : Int) (μ : mm) : Option (Int × mm) := (M4_other N a0 1 μ).bind fun (q1 : Int) => if inR q1 then (if q1 = 0 then ((M1_takeFrom N 21 10 μ).bind fun (q3 : mm) => L4_first_29 N N a0 1 q3) else ((M4_refused N q1 μ).bind fun (q12 : (Int × mm)) => some (q12.1, q12.2))) else none
-- X4_lasts
def L4_lasts_33 (N : Nat) : Nat → Int → mm → Option (Int × mm)
  | 0, _, _ => none
  | k + 1, x3, μ => if inR x3 then (if 99 < x3 then (some ((μ 43 6), μ)) else (if inR (μ 43 7) then (if (μ 43 7) = 0 then ((M2_oneDay N 43 μ).bind fun (q8 : (Int × mm)) => L4_lasts_33 N k (x3 + 1) q8.2) else (some ((μ 43 6), μ))) else none)) else none
def M4_lasts (N : Nat) (a0 : Int) (μ : mm) : Option (Int × mm) := (M4_unknown N a0 μ).bind fun (q1 : Int) => if inR q1 then (if q1 = 0 then ((M1_at N 10 a0 μ).bind fun (q3 : Nat) => if kd q3 = 5 then ((M2_takeFrom N 43 q3 μ).bind fun (q5 : mm) => L4_lasts_33 N N 1 q5) else none) else ((M4_refused N q1 μ).bind fun (q11 : (Int × mm)) => some (q11.1, q11.2))) else none
-- X4_lacks
def L4_lacks_4 (N : Nat) : Nat → Int → Int → mm → Option Int
  | 0, _, _, _ => none
  | k + 1, x1, x2, μ => if inR x2 ∧ inR (μ 10 2) then (if (μ 10 2) ≤ x2 then (some x1) else ((M1_at N 10 x2 μ).bind fun (q2 : Nat) => if kd q2 = 5 then ((M2_lacking N q2 μ).bind fun (q4 : Int) => bnd (x1 + q4) fun (w5 : Int) => L4_lacks_4 N k w5 (x2 + 1) μ) else none)) else none
def M4_lacks (N : Nat)  (μ0 : mm) : Option Int := L4_lacks_4 N N 0 0 μ0
-- X4_next
def J4_next_75 (N : Nat) (rec26 : Int → Int → Int → Int → mm → Option (Int × mm)) (x1 : Int) (x3 : Int) (x4 : Int) (x5 : Int) (μ : mm) : Option (Int × mm) := rec26 x1 x3 x4 (x5 + 1) μ
def J4_next_68 (N : Nat) (rec26 : Int → Int → Int → Int → mm → Option (Int × mm)) (x1 : Int) (x5 : Int) (x6 : Int) (μ : mm) : Option (Int × mm) := J4_next_75 N rec26 x1 x5 x6 x5 μ
def L4_next_26 (N : Nat) : Nat → Int → Int → Int → Int → mm → Option (Int × mm)
  | 0, _, _, _, _, _ => none
  | k + 1, x1, x3, x4, x5, μ => if inR x5 ∧ inR (μ 10 2) then (if (μ 10 2) ≤ x5 then (if inR x1 then (if x1 = 0 then (some (x3, μ)) else (some (x4, μ))) else none) else ((M1_at N 10 x5 μ).bind fun (q6 : Nat) => if kd q6 = 5 then (bnd (μ q6 3) fun (w8 : Int) => if inR w8 then (if w8 ≤ 0 then (J4_next_75 N (L4_next_26 N k) x1 x3 x4 x5 μ) else (if inR x3 then (if x3 < 0 then (J4_next_68 N (L4_next_26 N k) x1 x5 w8 μ) else (if inR w8 ∧ inR x4 then (if x4 ≤ w8 then (J4_next_75 N (L4_next_26 N k) x1 x3 x4 x5 μ) else (J4_next_68 N (L4_next_26 N k) x1 x5 w8 μ)) else none)) else none)) else none) else none)) else none
def M4_next (N : Nat) (a0 : Int) (μ : mm) : Option (Int × mm) := (M4_other N a0 1 μ).bind fun (q1 : Int) => if inR q1 then (if q1 = 0 then (L4_next_26 N N a0 (-9) (-9) 0 μ) else ((M4_refused N q1 μ).bind fun (q16 : (Int × mm)) => some (q16.1, q16.2))) else none
-- X4_enough
def L4_enough_30 (N : Nat) : Nat → Int → Int → Int → mm → Option (Int × mm)
  | 0, _, _, _, _ => none
  | k + 1, x1, x2, x4, μ => if inR x4 then (if 99 < x4 then (some ((-9), μ)) else ((M4_thought N x1 x4 x2 μ).bind fun (q6 : (Nat × mm)) => if kd q6.1 = 5 then (if inR (q6.2 q6.1 7) then (if (q6.2 q6.1 7) = 0 then (some (x4, q6.2)) else (L4_enough_30 N k x1 x2 (x4 + 1) q6.2)) else none) else none)) else none
def M4_enough (N : Nat) (a0 : Int) (a1 : Int) (μ : mm) : Option (Int × mm) := (M4_unknown N a0 μ).bind fun (q1 : Int) => (M4_outside N a1 1 60 μ).bind fun (q2 : Int) => (M4_firstOf N q1 q2 0 μ).bind fun (q3 : Int) => if inR q3 then (if q3 = 0 then (L4_enough_30 N N a0 a1 0 μ) else ((M4_refused N q3 μ).bind fun (q11 : (Int × mm)) => some (q11.1, q11.2))) else none
-- X4_serve
def J4_serve_89 (N : Nat) (rec24 : Int → Int → Int → Int → mm → Option (Int × mm)) (x1 : Int) (x3 : Int) (x4 : Int) (x5 : Int) (μ : mm) : Option (Int × mm) := rec24 x1 x3 x4 (x5 + 1) μ
def L4_serve_24 (N : Nat) : Nat → Int → Int → Int → Int → mm → Option (Int × mm)
  | 0, _, _, _, _, _ => none
  | k + 1, x1, x3, x4, x5, μ => if 0 ≤ (μ 10 2) ∧ (μ 10 2) < 32 then (if inR x5 ∧ inR (1 * 2 ^ ((μ 10 2) : Int).toNat) then (if (1 * 2 ^ ((μ 10 2) : Int).toNat) ≤ x5 then (if inR x1 then (if x1 = 0 then (some (x3, μ)) else (if inR x1 then (if x1 = 1 then (some (x4, μ)) else ((M1_lackOf N 10 x4 μ).bind fun (q7 : Int) => some (((μ 10 3) - q7), μ))) else none)) else none) else ((M6_bitCount_0f7a4 N x5 μ).bind fun (q10 : Int) => if inR q10 ∧ inR x3 then (if q10 ≤ x3 then (J4_serve_89 N (L4_serve_24 N k) x1 x3 x4 x5 μ) else ((M1_lackAll N 10 x5 μ).bind fun (q12 : Int) => if inR q12 then (if q12 = 0 then (J4_serve_89 N (L4_serve_24 N k) x1 x3 x4 x5 μ) else ((M1_lackOf N 10 x5 μ).bind fun (q14 : Int) => if inR q14 ∧ inR (μ 10 3) then (if (μ 10 3) < q14 then (J4_serve_89 N (L4_serve_24 N k) x1 x3 x4 x5 μ) else (J4_serve_89 N (L4_serve_24 N k) x1 q10 x5 x5 μ)) else none)) else none)) else none)) else none) else none
def M4_serve (N : Nat) (a0 : Int) (μ : mm) : Option (Int × mm) := (M4_other N a0 2 μ).bind fun (q1 : Int) => if inR q1 then (if q1 = 0 then (L4_serve_24 N N a0 0 0 1 μ) else ((M4_refused N q1 μ).bind fun (q20 : (Int × mm)) => some (q20.1, q20.2))) else none
-- X4_throughMore
def M4_throughMore (N : Nat) (a0 : Int) (a1 : Int) (a2 : Int) (μ : mm) : Option (Int × mm) := (M4_thought N a0 a1 a2 μ).bind fun (q1 : (Nat × mm)) => if kd q1.1 = 5 then ((M1_at N 10 a0 q1.2).bind fun (q3 : Nat) => if kd q3 = 5 then (some (((q1.2 q1.1 4) - (q1.2 q3 4)), q1.2)) else none) else none
-- X4_weigh
def L4_weigh_2 (N : Nat) : Nat → Int → Int → mm → Option mm
  | 0, _, _, _ => none
  | k + 1, x1, x2, μ => if inR x2 ∧ inR (μ 10 2) then (if (μ 10 2) ≤ x2 then (some μ) else (if inR x2 then (if 8 ≤ x2 then (some μ) else ((M1_at N 10 x2 μ).bind fun (q3 : Nat) => if kd q3 = 5 then (bnd (μ q3 2) fun (w5 : Int) => (M1_at N 10 x2 μ).bind fun (q6 : Nat) => if kd q6 = 5 then ((M2_lacking N q6 μ).bind fun (q8 : Int) => (M4_throughMore N x2 w5 x1 μ).bind fun (q9 : (Int × mm)) => if 0 ≤ x2 ∧ x2 < 8 then (bnd (mu q9.2 48 (x2).toNat q9.1) fun (μ11 : mm) => (M4_throughMore N x2 (w5 + q8) x1 μ11).bind fun (q12 : (Int × mm)) => if 0 ≤ x2 ∧ x2 < 8 then (bnd (mu q12.2 49 (x2).toNat q12.1) fun (μ14 : mm) => L4_weigh_2 N k x1 (x2 + 1) μ14) else none) else none) else none) else none)) else none)) else none
def M4_weigh (N : Nat) (a0 : Int) (μ : mm) : Option mm := L4_weigh_2 N N a0 0 μ
-- X4_weighed
def M4_weighed (N : Nat) (a0 : Int) (a1 : Int) (μ0 : mm) : Option Int := if inR a0 then (if a0 < 0 then (some 0) else (if inR a0 then (if a0 < 8 then (if inR a1 then (if a1 = 0 then (if 0 ≤ a0 ∧ a0 < 8 then (some (μ0 48 (a0).toNat)) else none) else (if 0 ≤ a0 ∧ a0 < 8 then (some (μ0 49 (a0).toNat)) else none)) else none) else (some 0)) else none)) else none
-- X4_throughOf
def J4_throughOf_72 (N : Nat) (rec13 : Int → Int → Int → Int → mm → Option Int) (x1 : Int) (x2 : Int) (x3 : Int) (x4 : Int) (x6 : Int) (μ : mm) : Option Int := (M4_weighed N x4 x6 μ).bind fun (q9 : Int) => bnd (x3 + q9) fun (w10 : Int) => rec13 x1 x2 w10 (x4 + 1) μ
def J4_throughOf_60 (N : Nat) (rec13 : Int → Int → Int → Int → mm → Option Int) (x1 : Int) (x2 : Int) (x3 : Int) (x4 : Int) (x5 : Int) (y0 : Int) (μ : mm) : Option Int := if inR y0 then (if y0 = 0 then (J4_throughOf_72 N rec13 x1 x2 x3 x4 y0 μ) else (bnd (x2 - x5) fun (w11 : Int) => J4_throughOf_72 N rec13 x1 w11 x3 x4 y0 μ)) else none
def J4_throughOf_59 (N : Nat) (rec13 : Int → Int → Int → Int → mm → Option Int) (x1 : Int) (x2 : Int) (x3 : Int) (x4 : Int) (x5 : Int) (μ : mm) : Option Int := J4_throughOf_60 N rec13 x1 x2 x3 x4 x5 0 μ
def L4_throughOf_13 (N : Nat) : Nat → Int → Int → Int → Int → mm → Option Int
  | 0, _, _, _, _, _ => none
  | k + 1, x1, x2, x3, x4, μ => if inR x4 ∧ inR (μ 10 2) then (if (μ 10 2) ≤ x4 then (some x3) else ((M1_at N 10 x4 μ).bind fun (q3 : Nat) => if kd q3 = 5 then ((M2_lacking N q3 μ).bind fun (q5 : Int) => if inR x1 ∧ 0 ≤ x4 ∧ x4 < 32 then (if inR ((x1 / 2 ^ (x4 : Int).toNat) % 2) then (if ((x1 / 2 ^ (x4 : Int).toNat) % 2) = 1 then (if inR q5 ∧ inR x2 then (if x2 < q5 then (J4_throughOf_59 N (L4_throughOf_13 N k) x1 x2 x3 x4 q5 μ) else (J4_throughOf_60 N (L4_throughOf_13 N k) x1 x2 x3 x4 q5 1 μ)) else none) else (J4_throughOf_59 N (L4_throughOf_13 N k) x1 x2 x3 x4 q5 μ)) else none) else none) else none)) else none
def M4_throughOf (N : Nat) (a0 : Int) (μ0 : mm) : Option Int := bnd (μ0 10 3) fun (w1 : Int) => L4_throughOf_13 N N a0 w1 0 0 μ0
-- X4_best
def J4_best_79 (N : Nat) (rec42 : Int → Int → Int → Int → mm → Option (Int × mm)) (x2 : Int) (x4 : Int) (x5 : Int) (x6 : Int) (μ : mm) : Option (Int × mm) := rec42 x2 x4 x5 (x6 + 1) μ
def L4_best_42 (N : Nat) : Nat → Int → Int → Int → Int → mm → Option (Int × mm)
  | 0, _, _, _, _, _ => none
  | k + 1, x2, x4, x5, x6, μ => if 0 ≤ (μ 10 2) ∧ (μ 10 2) < 32 then (if inR x6 ∧ inR (1 * 2 ^ ((μ 10 2) : Int).toNat) then (if (1 * 2 ^ ((μ 10 2) : Int).toNat) ≤ x6 then (if inR x2 then (if x2 = 0 then (some (x4, μ)) else (some (x5, μ))) else none) else ((M4_throughOf N x6 μ).bind fun (q10 : Int) => if inR q10 ∧ inR x4 then (if q10 ≤ x4 then (J4_best_79 N (L4_best_42 N k) x2 x4 x5 x6 μ) else (J4_best_79 N (L4_best_42 N k) x2 q10 x6 x6 μ)) else none)) else none) else none
def M4_best (N : Nat) (a0 : Int) (a1 : Int) (μ : mm) : Option (Int × mm) := (M4_outside N a0 1 30 μ).bind fun (q1 : Int) => (M4_other N a1 1 μ).bind fun (q2 : Int) => (M4_firstOf N q1 q2 0 μ).bind fun (q3 : Int) => if inR q3 then (if q3 = 0 then ((M4_weigh N a0 μ).bind fun (q5 : mm) => L4_best_42 N N a1 (-9) 0 0 q5) else ((M4_refused N q3 μ).bind fun (q14 : (Int × mm)) => some (q14.1, q14.2))) else none
-- X4_run
def L4_run_29 (N : Nat) : Nat → Int → Int → mm → Option (Int × mm)
  | 0, _, _, _ => none
  | k + 1, x1, x3, μ => if inR x3 then (if 60 < x3 then (some ((-9), μ)) else ((M1_issueAhead N 21 μ).bind fun (q5 : (Int × mm)) => if inR q5.1 then (if q5.1 < 0 then ((M1_daysGoBy N 21 1 q5.2).bind fun (q7 : mm) => L4_run_29 N k x1 (x3 + 1) q7) else (if inR x1 then (if x1 = 0 then (some (x3, q5.2)) else (some (q5.1, q5.2))) else none)) else none)) else none
def M4_run (N : Nat) (a0 : Int) (μ : mm) : Option (Int × mm) := (M4_other N a0 1 μ).bind fun (q1 : Int) => if inR q1 then (if q1 = 0 then ((M1_takeFrom N 21 10 μ).bind fun (q3 : mm) => L4_run_29 N N a0 0 q3) else ((M4_refused N q1 μ).bind fun (q12 : (Int × mm)) => some (q12.1, q12.2))) else none
-- X4_stock
def L4_stock_41 (N : Nat) : Nat → Int → Int → mm → Option (Int × mm)
  | 0, _, _, _ => none
  | k + 1, x1, x3, μ => if inR x3 ∧ inR x1 then (if x1 ≤ x3 then (some ((999 - (μ 21 3)), μ)) else ((M1_issueAhead N 21 μ).bind fun (q6 : (Int × mm)) => if inR q6.1 then (if q6.1 < 0 then ((M1_daysGoBy N 21 1 q6.2).bind fun (q8 : mm) => L4_stock_41 N k x1 (x3 + 1) q8) else (some ((-9), q6.2))) else none)) else none
def M4_stock (N : Nat) (a0 : Int) (μ : mm) : Option (Int × mm) := (M4_outside N a0 1 30 μ).bind fun (q1 : Int) => if inR q1 then (if q1 = 0 then ((M1_takeFrom N 21 10 μ).bind fun (q3 : mm) => bnd (mu q3 21 3 999) fun (μ4 : mm) => L4_stock_41 N N a0 0 μ4) else ((M4_refused N q1 μ).bind fun (q11 : (Int × mm)) => some (q11.1, q11.2))) else none
-- X4_borrow
def J4_borrow_187 (N : Nat) (rec103 : Int → Int → Int → Int → Int → Int → Int → mm → Option (Int × mm)) (x1 : Int) (x2 : Int) (x5 : Int) (x6 : Int) (x7 : Int) (x8 : Int) (x9 : Int) (μ : mm) : Option (Int × mm) := rec103 x1 x2 x5 x6 x7 x8 (x9 + 1) μ
def L4_borrow_103 (N : Nat) : Nat → Int → Int → Int → Int → Int → Int → Int → mm → Option (Int × mm)
  | 0, _, _, _, _, _, _, _, _ => none
  | k + 1, x1, x2, x5, x6, x7, x8, x9, μ => if inR x9 ∧ inR (μ 10 2) then (if (μ 10 2) ≤ x9 then (some (x7, μ)) else ((M1_at N 10 x9 μ).bind fun (q17 : Nat) => if kd q17 = 5 then (bnd (μ q17 2) fun (w19 : Int) => if inR x9 ∧ inR x1 then (if x9 = x1 then (J4_borrow_187 N (L4_borrow_103 N k) x1 x2 x5 x6 x7 x8 x9 μ) else (if inR w19 ∧ inR x5 then (if x5 ≤ w19 then ((M4_throughMore N x9 (w19 - x5) x2 μ).bind fun (q22 : (Int × mm)) => (M4_throughMore N x9 w19 x2 q22.2).bind fun (q23 : (Int × mm)) => bnd ((x6 + q22.1) - q23.1) fun (w24 : Int) => if inR w24 ∧ inR x8 then (if w24 ≤ x8 then (J4_borrow_187 N (L4_borrow_103 N k) x1 x2 x5 x6 x7 x8 x9 q23.2) else (J4_borrow_187 N (L4_borrow_103 N k) x1 x2 x5 x6 x9 w24 x9 q23.2)) else none) else (J4_borrow_187 N (L4_borrow_103 N k) x1 x2 x5 x6 x7 x8 x9 μ)) else none)) else none) else none)) else none
def M4_borrow (N : Nat) (a0 : Int) (a1 : Int) (μ : mm) : Option (Int × mm) := (M4_unknown N a0 μ).bind fun (q1 : Int) => (M4_outside N a1 1 30 μ).bind fun (q2 : Int) => (M4_firstOf N q1 q2 0 μ).bind fun (q3 : Int) => if inR q3 then (if q3 = 0 then ((M1_at N 10 a0 μ).bind fun (q5 : Nat) => if kd q5 = 5 then (bnd (μ q5 2) fun (w7 : Int) => (M1_at N 10 a0 μ).bind fun (q8 : Nat) => if kd q8 = 5 then ((M2_lacking N q8 μ).bind fun (q10 : Int) => if inR q10 then (if q10 = 0 then (some ((-9), μ)) else (if inR (w7 + q10) then (if (w7 + q10) ≤ 99 then ((M4_throughMore N a0 (w7 + q10) a1 μ).bind fun (q13 : (Int × mm)) => (M4_throughMore N a0 w7 a1 q13.2).bind fun (q14 : (Int × mm)) => bnd (q13.1 - q14.1) fun (w15 : Int) => L4_borrow_103 N N a0 a1 q10 w15 (-9) 0 0 q14.2) else (some ((-9), μ))) else none)) else none) else none) else none) else ((M4_refused N q3 μ).bind fun (q32 : (Int × mm)) => some (q32.1, q32.2))) else none
-- X4_shortMore
def M4_shortMore (N : Nat) (a0 : Int) (a1 : Int) (a2 : Int) (μ : mm) : Option (Int × mm) := (M4_thought N a0 a1 a2 μ).bind fun (q1 : (Nat × mm)) => if kd q1.1 = 5 then ((M1_at N 10 a0 q1.2).bind fun (q3 : Nat) => if kd q3 = 5 then (some (((q1.2 q1.1 5) - (q1.2 q3 5)), q1.2)) else none) else none
-- X4_sweep
def J4_sweep_112 (N : Nat) (rec38 : Int → Int → Int → Int → Int → mm → Option (Int × mm)) (x1 : Int) (x2 : Int) (x4 : Int) (x5 : Int) (x6 : Int) (μ : mm) : Option (Int × mm) := rec38 x1 x2 x4 x5 (x6 + 1) μ
def J4_sweep_104 (N : Nat) (rec38 : Int → Int → Int → Int → Int → mm → Option (Int × mm)) (x1 : Int) (x2 : Int) (x6 : Int) (x8 : Int) (μ : mm) : Option (Int × mm) := J4_sweep_112 N rec38 x1 x2 x6 x8 x6 μ
def L4_sweep_38 (N : Nat) : Nat → Int → Int → Int → Int → Int → mm → Option (Int × mm)
  | 0, _, _, _, _, _, _ => none
  | k + 1, x1, x2, x4, x5, x6, μ => if inR x6 ∧ inR (μ 10 2) then (if (μ 10 2) ≤ x6 then (if inR x2 then (if x2 = 0 then (some (x4, μ)) else (some (x5, μ))) else none) else ((M1_at N 10 x6 μ).bind fun (q8 : Nat) => if kd q8 = 5 then (bnd (μ q8 2) fun (w10 : Int) => if inR w10 then (if w10 = 0 then (J4_sweep_112 N (L4_sweep_38 N k) x1 x2 x4 x5 x6 μ) else ((M4_shortMore N x6 0 x1 μ).bind fun (q12 : (Int × mm)) => (M4_shortMore N x6 w10 x1 q12.2).bind fun (q13 : (Int × mm)) => bnd (q12.1 - q13.1) fun (w14 : Int) => if inR x4 then (if x4 < 0 then (J4_sweep_104 N (L4_sweep_38 N k) x1 x2 x6 w14 q13.2) else (if inR w14 ∧ inR x5 then (if x5 ≤ w14 then (J4_sweep_112 N (L4_sweep_38 N k) x1 x2 x4 x5 x6 q13.2) else (J4_sweep_104 N (L4_sweep_38 N k) x1 x2 x6 w14 q13.2)) else none)) else none)) else none) else none)) else none
def M4_sweep (N : Nat) (a0 : Int) (a1 : Int) (μ : mm) : Option (Int × mm) := (M4_outside N a0 1 30 μ).bind fun (q1 : Int) => (M4_other N a1 1 μ).bind fun (q2 : Int) => (M4_firstOf N q1 q2 0 μ).bind fun (q3 : Int) => if inR q3 then (if q3 = 0 then (L4_sweep_38 N N a0 a1 (-9) (-9) 0 μ) else ((M4_refused N q3 μ).bind fun (q21 : (Int × mm)) => some (q21.1, q21.2))) else none
-- X4_grain
def J4_grain_100 (N : Nat) (rec27 : Int → Int → Int → Int → mm → Option (Int × mm)) (x1 : Int) (x3 : Int) (x4 : Int) (x5 : Int) (μ : mm) : Option (Int × mm) := rec27 x1 x3 x4 (x5 + 1) μ
def L4_grain_27 (N : Nat) : Nat → Int → Int → Int → Int → mm → Option (Int × mm)
  | 0, _, _, _, _, _ => none
  | k + 1, x1, x3, x4, x5, μ => if inR x5 ∧ inR (μ 10 2) then (if (μ 10 2) ≤ x5 then (some (x3, μ)) else ((M1_at N 10 x5 μ).bind fun (q4 : Nat) => if kd q4 = 5 then (bnd (μ q4 2) fun (w6 : Int) => if inR w6 then (if w6 < 99 then ((M4_throughMore N x5 (w6 + 1) x1 μ).bind fun (q8 : (Int × mm)) => (M4_throughMore N x5 w6 x1 q8.2).bind fun (q9 : (Int × mm)) => bnd (q8.1 - q9.1) fun (w10 : Int) => if inR w10 ∧ inR x4 then (if w10 ≤ x4 then (J4_grain_100 N (L4_grain_27 N k) x1 x3 x4 x5 q9.2) else (J4_grain_100 N (L4_grain_27 N k) x1 x5 w10 x5 q9.2)) else none) else (J4_grain_100 N (L4_grain_27 N k) x1 x3 x4 x5 μ)) else none) else none)) else none
def M4_grain (N : Nat) (a0 : Int) (μ : mm) : Option (Int × mm) := (M4_outside N a0 1 30 μ).bind fun (q1 : Int) => if inR q1 then (if q1 = 0 then (L4_grain_27 N N a0 (-9) 0 0 μ) else ((M4_refused N q1 μ).bind fun (q15 : (Int × mm)) => some (q15.1, q15.2))) else none
-- X4_shares
def M4_shares (N : Nat) (a0 : Int) (μ : mm) : Option (Int × mm) := (M4_other N a0 1 μ).bind fun (q1 : Int) => if inR q1 then (if q1 = 0 then (if inR (μ 10 2) then (if 1 ≤ (μ 10 2) then (if inR a0 then (if a0 = 0 then (if 0 ≤ (μ 10 3) ∧ 0 < (μ 10 2) ∧ inR (μ 10 3) ∧ inR (μ 10 2) then (some (((μ 10 3) / (μ 10 2)), μ)) else none) else (if 0 ≤ (μ 10 3) ∧ 0 < (μ 10 2) ∧ inR (μ 10 3) ∧ inR (μ 10 2) then (some (((μ 10 3) % (μ 10 2)), μ)) else none)) else none) else (if inR a0 then (if a0 = 0 then (some (0, μ)) else (some ((μ 10 3), μ))) else none)) else none) else ((M4_refused N q1 μ).bind fun (q11 : (Int × mm)) => some (q11.1, q11.2))) else none
-- X4_richest
def J4_richest_43 (N : Nat) (rec8 : Int → Int → Int → mm → Option Int) (x1 : Int) (x2 : Int) (x3 : Int) (μ : mm) : Option Int := rec8 x1 x2 (x3 + 1) μ
def L4_richest_8 (N : Nat) : Nat → Int → Int → Int → mm → Option Int
  | 0, _, _, _, _ => none
  | k + 1, x1, x2, x3, μ => if inR x3 ∧ inR (μ 10 2) then (if (μ 10 2) ≤ x3 then (some x1) else ((M1_at N 10 x3 μ).bind fun (q2 : Nat) => if kd q2 = 5 then (bnd (μ q2 2) fun (w4 : Int) => if inR w4 ∧ inR x2 then (if w4 ≤ x2 then (J4_richest_43 N (L4_richest_8 N k) x1 x2 x3 μ) else (J4_richest_43 N (L4_richest_8 N k) x3 w4 x3 μ)) else none) else none)) else none
def M4_richest (N : Nat)  (μ0 : mm) : Option Int := L4_richest_8 N N (-9) (-9) 0 μ0
-- X4_trusted
def M4_trusted (N : Nat) (a0 : Int) (μ : mm) : Option (Int × mm) := (M4_unknown N a0 μ).bind fun (q1 : Int) => if inR q1 then (if q1 = 0 then ((M1_at N 10 a0 μ).bind fun (q3 : Nat) => if kd q3 = 5 then (some (((μ q3 4) - (μ q3 5)), μ)) else none) else ((M4_refused N q1 μ).bind fun (q5 : (Int × mm)) => some ((1000000000 - q5.1), q5.2))) else none
-- X4_worth
def M4_worth (N : Nat)  (μ0 : mm) : Option Int := (M1_allThrough N 10 μ0).bind fun (q1 : Int) => (M1_allShort N 10 μ0).bind fun (q2 : Int) => some (q1 - q2)
-- X4_wants
def J4_wants_29 (N : Nat) (x1 : Int) (x4 : Int) (y0 : Int) (μ : mm) : Option Int := (M4_weighed N x1 y0 μ).bind fun (q5 : Int) => if inR y0 then (if y0 = 0 then (some (q5 - 0)) else (if 0 ≤ x4 ∧ inR x4 then (some (q5 - (x4 / 10))) else none)) else none
def J4_wants_28 (N : Nat) (x1 : Int) (x4 : Int) (μ : mm) : Option Int := J4_wants_29 N x1 x4 0 μ
def M4_wants (N : Nat) (a0 : Int) (a1 : Int) (a2 : Int) (μ0 : mm) : Option Int := (M1_at N 10 a0 μ0).bind fun (q1 : Nat) => if kd q1 = 5 then ((M2_lacking N q1 μ0).bind fun (q3 : Int) => if inR a1 then (if a1 = 1 then (if inR q3 ∧ inR a2 then (if a2 < q3 then (J4_wants_28 N a0 q3 μ0) else (J4_wants_29 N a0 q3 1 μ0)) else none) else (J4_wants_28 N a0 q3 μ0)) else none) else none
-- X4_firstWants
def M4_firstWants (N : Nat) (a0 : Int) (a1 : Int) (μ0 : mm) : Option Int := (M4_wants N a0 a1 (μ0 10 3) μ0).bind fun (q1 : Int) => some q1
-- X4_otherWants
def J4_otherWants_66 (N : Nat) (y0 : Int) (y1 : Int) (y2 : Int) (μ : mm) : Option Int := (M4_wants N y2 y1 y0 μ).bind fun (q6 : Int) => some q6
def J4_otherWants_35 (N : Nat) (x3 : Int) (x4 : Int) (x5 : Int) (y0 : Int) (μ : mm) : Option Int := if inR y0 then (if y0 = 0 then (J4_otherWants_66 N (μ 10 3) x4 x3 μ) else (J4_otherWants_66 N ((μ 10 3) - x5) x4 x3 μ)) else none
def J4_otherWants_34 (N : Nat) (x3 : Int) (x4 : Int) (x5 : Int) (μ : mm) : Option Int := J4_otherWants_35 N x3 x4 x5 0 μ
def M4_otherWants (N : Nat) (a0 : Int) (a1 : Int) (a2 : Int) (a3 : Int) (μ0 : mm) : Option Int := (M1_at N 10 a0 μ0).bind fun (q1 : Nat) => if kd q1 = 5 then ((M2_lacking N q1 μ0).bind fun (q3 : Int) => if inR a1 then (if a1 = 1 then (if inR q3 ∧ inR (μ0 10 3) then (if (μ0 10 3) < q3 then (J4_otherWants_34 N a2 a3 q3 μ0) else (J4_otherWants_35 N a2 a3 q3 1 μ0)) else none) else (J4_otherWants_34 N a2 a3 q3 μ0)) else none) else none
-- X4_two
def J4_two_131 (N : Nat) (rec60 : Int → Int → Int → mm → Option (Int × mm)) (x1 : Int) (x2 : Int) (x6 : Int) (μ : mm) : Option (Int × mm) := rec60 x1 x2 (x6 + 1) μ
def L4_two_60 (N : Nat) : Nat → Int → Int → Int → mm → Option (Int × mm)
  | 0, _, _, _, _ => none
  | k + 1, x1, x2, x6, μ => if inR x6 then (if 4 ≤ x6 then (some ((-9), μ)) else (if 0 ≤ x6 ∧ inR x6 then (bnd (x6 / 2) fun (w11 : Int) => if 0 ≤ x6 ∧ inR x6 then (bnd (x6 % 2) fun (w13 : Int) => (M4_firstWants N x1 w11 μ).bind fun (q14 : Int) => (M4_firstWants N x1 (1 - w11) μ).bind fun (q15 : Int) => if inR q14 ∧ inR q15 then (if q14 < q15 then (J4_two_131 N (L4_two_60 N k) x1 x2 x6 μ) else ((M4_otherWants N x1 w11 x2 w13 μ).bind fun (q17 : Int) => (M4_otherWants N x1 w11 x2 (1 - w13) μ).bind fun (q18 : Int) => if inR q17 ∧ inR q18 then (if q17 < q18 then (J4_two_131 N (L4_two_60 N k) x1 x2 x6 μ) else (some (((10 * w11) + w13), μ))) else none)) else none) else none) else none)) else none
def J4_two_20 (N : Nat) (x1 : Int) (x2 : Int) (x3 : Int) (y0 : Int) (y1 : Int) (y2 : Int) (μ : mm) : Option (Int × mm) := (M4_firstOf N y2 y1 y0 μ).bind fun (q4 : Int) => (M4_outside N x3 1 30 μ).bind fun (q5 : Int) => (M4_firstOf N q4 q5 0 μ).bind fun (q6 : Int) => if inR q6 then (if q6 = 0 then ((M4_weigh N x3 μ).bind fun (q8 : mm) => L4_two_60 N N x1 x2 0 q8) else ((M4_refused N q6 μ).bind fun (q23 : (Int × mm)) => some (q23.1, q23.2))) else none
def M4_two (N : Nat) (a0 : Int) (a1 : Int) (a2 : Int) (μ : mm) : Option (Int × mm) := (M4_unknown N a0 μ).bind fun (q1 : Int) => (M4_unknown N a1 μ).bind fun (q2 : Int) => if inR a0 ∧ inR a1 then (if a0 = a1 then (J4_two_20 N a0 a1 a2 (-1) q2 q1 μ) else (J4_two_20 N a0 a1 a2 0 q2 q1 μ)) else none
-- X4_throughLosing
def J4_throughLosing_61 (N : Nat) (rec22 : Int → Int → Nat → Int → mm → Option (Int × mm)) (x2 : Int) (x3 : Int) (r4 : Nat) (x5 : Int) (μ : mm) : Option (Int × mm) := (M2_oneDay N 43 μ).bind fun (q7 : (Int × mm)) => rec22 x2 x3 r4 (x5 + 1) q7.2
def L4_throughLosing_22 (N : Nat) : Nat → Int → Int → Nat → Int → mm → Option (Int × mm)
  | 0, _, _, _, _, _ => none
  | k + 1, x2, x3, r4, x5, μ => if inR x5 ∧ inR x2 then (if x2 ≤ x5 then (some (((μ 43 4) - (μ r4 4)), μ)) else (if inR x3 ∧ 0 ≤ x5 ∧ x5 < 32 then (if inR ((x3 / 2 ^ (x5 : Int).toNat) % 2) then (if ((x3 / 2 ^ (x5 : Int).toNat) % 2) = 1 then (if inR (μ 43 2) then (if (μ 43 2) ≤ 0 then (J4_throughLosing_61 N (L4_throughLosing_22 N k) x2 x3 r4 x5 μ) else (bnd (mu μ 43 2 ((μ 43 2) - 1)) fun (μ9 : mm) => J4_throughLosing_61 N (L4_throughLosing_22 N k) x2 x3 r4 x5 μ9)) else none) else (J4_throughLosing_61 N (L4_throughLosing_22 N k) x2 x3 r4 x5 μ)) else none) else none)) else none
def M4_throughLosing (N : Nat) (a0 : Int) (a1 : Int) (a2 : Int) (μ : mm) : Option (Int × mm) := (M1_at N 10 a0 μ).bind fun (q1 : Nat) => if kd q1 = 5 then ((M2_takeFrom N 43 q1 μ).bind fun (q3 : mm) => L4_throughLosing_22 N N a1 a2 q1 0 q3) else none
-- X4_power
def L4_power_5 (N : Nat) : Nat → Int → Int → Int → Int → mm → Option Int
  | 0, _, _, _, _, _ => none
  | k + 1, x0, x2, x3, x5, μ => if inR x5 ∧ inR x2 then (if x2 ≤ x5 then (some x3) else (bnd (x3 * x0) fun (w2 : Int) => L4_power_5 N k x0 x2 w2 (x5 + 1) μ)) else none
def M4_power (N : Nat) (a0 : Int) (a1 : Int) (μ0 : mm) : Option Int := L4_power_5 N N a0 a1 1 0 μ0
-- X4_leastTerms
def J4_leastTerms_60 (N : Nat) (x0 : Int) (x2 : Int) (x4 : Int) (x5 : Int) (μ : mm) : Option Int := if inL x5 then (if inR (zcmp x5 0) then (if (zcmp x5 0) = 0 then (if inR x4 then (some x4) else none) else (if inR x4 then (if x4 = 0 then (if 0 ≤ x0 ∧ 0 < x5 ∧ inL x0 ∧ inL x5 then (some (x0 / x5)) else none) else (if 0 ≤ x2 ∧ 0 < x5 ∧ inL x2 ∧ inL x5 then (some (x2 / x5)) else none)) else none)) else none) else none
def L4_leastTerms_25 (N : Nat) : Nat → Int → Int → Int → Int → Int → Int → mm → Option Int
  | 0, _, _, _, _, _, _, _ => none
  | k + 1, x0, x2, x4, x5, x7, x9, μ => if inR x9 then (if 100 ≤ x9 then (J4_leastTerms_60 N x0 x2 x4 x5 μ) else (if inL x7 then (if inR (zcmp x7 0) then (if (zcmp x7 0) = 0 then (J4_leastTerms_60 N x0 x2 x4 x5 μ) else (if 0 ≤ x5 ∧ 0 < x7 ∧ inL x5 ∧ inL x7 then (bnd (x5 % x7) fun (w18 : Int) => L4_leastTerms_25 N k x0 x2 x4 x7 w18 (x9 + 1) μ) else none)) else none) else none)) else none
def M4_leastTerms (N : Nat) (a0 : Int) (a1 : Int) (a2 : Int) (μ0 : mm) : Option Int := if inL a0 then (if inR (zcmp a0 0) then (if (zcmp a0 0) = 0 then (if inR a2 then (some a2) else none) else (if inL a1 then (if inR (zcmp a1 0) then (if (zcmp a1 0) = 0 then (if inR a2 then (some a2) else none) else (L4_leastTerms_25 N N a0 a1 a2 a0 a1 0 μ0)) else none) else none)) else none) else none
-- X4_slip
def J4_slip_139 (N : Nat) (rec99 : Int → Int → Int → Int → Int → Int → Int → mm → Option (Int × mm)) (x1 : Int) (x2 : Int) (x3 : Int) (x4 : Int) (x5 : Int) (x9 : Int) (x11 : Int) (μ : mm) : Option (Int × mm) := rec99 x1 x2 x3 x4 x5 x9 (x11 + 1) μ
def L4_slip_99 (N : Nat) : Nat → Int → Int → Int → Int → Int → Int → Int → mm → Option (Int × mm)
  | 0, _, _, _, _, _, _, _, _ => none
  | k + 1, x1, x2, x3, x4, x5, x9, x11, μ => if 0 ≤ x2 ∧ x2 < 32 then (if inR x11 ∧ inR (1 * 2 ^ (x2 : Int).toNat) then (if (1 * 2 ^ (x2 : Int).toNat) ≤ x11 then (if inR x3 then ((M4_power N x3 x2 μ).bind fun (q10 : Int) => (M4_leastTerms N x9 q10 x5 μ).bind fun (q11 : Int) => some (q11, μ)) else none) else ((M4_throughLosing N x1 x2 x11 μ).bind fun (q12 : (Int × mm)) => if inR q12.1 ∧ inR x4 then (if q12.1 < x4 then (J4_slip_139 N (L4_slip_99 N k) x1 x2 x3 x4 x5 x9 x11 q12.2) else (if inR (x3 - 1) then ((M6_bitCount_0f7a4 N x11 q12.2).bind fun (q15 : Int) => (M4_power N (x3 - 1) (x2 - q15) q12.2).bind fun (q16 : Int) => bnd (x9 + q16) fun (w17 : Int) => J4_slip_139 N (L4_slip_99 N k) x1 x2 x3 x4 x5 w17 x11 q12.2) else none)) else none)) else none) else none
def J4_slip_76 (N : Nat) (x1 : Int) (x2 : Int) (x3 : Int) (x4 : Int) (x5 : Int) (x8 : Int) (μ : mm) : Option (Int × mm) := if inR x8 then (if x8 = 0 then (L4_slip_99 N N x1 x2 x3 x4 x5 0 0 μ) else ((M4_refused N x8 μ).bind fun (q20 : (Int × mm)) => if inR q20.1 then (some ((4000000000000000000 - q20.1), q20.2)) else none)) else none
def J4_slip_47 (N : Nat) (x1 : Int) (x2 : Int) (x3 : Int) (x4 : Int) (x5 : Int) (x6 : Int) (y0 : Int) (μ : mm) : Option (Int × mm) := (M4_unknown N x1 μ).bind fun (q3 : Int) => (M4_firstOf N q3 x6 y0 μ).bind fun (q4 : Int) => if inR q4 then (if q4 = 0 then ((M4_other N x5 1 μ).bind fun (q23 : Int) => J4_slip_76 N x1 x2 x3 x4 x5 q23 μ) else (J4_slip_76 N x1 x2 x3 x4 x5 q4 μ)) else none
def J4_slip_41 (N : Nat) (x1 : Int) (x2 : Int) (x3 : Int) (x4 : Int) (x5 : Int) (x6 : Int) (μ : mm) : Option (Int × mm) := J4_slip_47 N x1 x2 x3 x4 x5 x6 (-6) μ
def J4_slip_20 (N : Nat) (x1 : Int) (x2 : Int) (x3 : Int) (x4 : Int) (x5 : Int) (y0 : Int) (μ : mm) : Option (Int × mm) := if inR x2 then (if 7 < x2 then (J4_slip_41 N x1 x2 x3 x4 x5 y0 μ) else (if inR x3 then (if 20 < x3 then (J4_slip_41 N x1 x2 x3 x4 x5 y0 μ) else (if inR x4 then (if x4 ≤ 9 then (J4_slip_47 N x1 x2 x3 x4 x5 y0 0 μ) else (J4_slip_41 N x1 x2 x3 x4 x5 y0 μ)) else none)) else none)) else none
def J4_slip_14 (N : Nat) (x1 : Int) (x2 : Int) (x3 : Int) (x4 : Int) (x5 : Int) (μ : mm) : Option (Int × mm) := J4_slip_20 N x1 x2 x3 x4 x5 (-4) μ
def M4_slip (N : Nat) (a0 : Int) (a1 : Int) (a2 : Int) (a3 : Int) (a4 : Int) (μ : mm) : Option (Int × mm) := if inR a1 then (if a1 < 0 then (J4_slip_14 N a0 a1 a2 a3 a4 μ) else (if inR a3 then (if a3 < 0 then (J4_slip_14 N a0 a1 a2 a3 a4 μ) else (if inR a2 then (if 2 ≤ a2 then (J4_slip_20 N a0 a1 a2 a3 a4 0 μ) else (J4_slip_14 N a0 a1 a2 a3 a4 μ)) else none)) else none)) else none
-- X4_mean
def M4_mean (N : Nat) (a0 : Int) (μ : mm) : Option (Int × mm) := (M4_other N a0 1 μ).bind fun (q1 : Int) => if inR q1 then (if q1 = 0 then ((M1_allHas N 10 μ).bind fun (q3 : Int) => if inR q3 then (if inR (μ 10 2) then ((M4_leastTerms N q3 (μ 10 2) a0 μ).bind fun (q6 : Int) => some (q6, μ)) else none) else none) else ((M4_refused N q1 μ).bind fun (q7 : (Int × mm)) => if inR q7.1 then (some ((4000000000000000000 - q7.1), q7.2)) else none)) else none
-- X4_rowIsOfTrial
def J4_rowIsOfTrial_31 (N : Nat) (rec2 : Int → mm → Option (Int × mm)) (x1 : Int) (μ : mm) : Option (Int × mm) := if 0 ≤ x1 ∧ x1 < 16 then (if inR (μ 43 2) ∧ inR (μ 46 (x1).toNat) then (if (μ 43 2) = (μ 46 (x1).toNat) then (rec2 (x1 + 1) μ) else (some (0, μ))) else none) else none
def L4_rowIsOfTrial_2 (N : Nat) : Nat → Int → mm → Option (Int × mm)
  | 0, _, _ => none
  | k + 1, x1, μ => if inR x1 ∧ inR (μ 9 9) then (if (μ 9 9) ≤ x1 then (some (1, μ)) else (if inR x1 then (if 16 ≤ x1 then (some (1, μ)) else (if inR x1 then (if x1 ≤ 0 then (J4_rowIsOfTrial_31 N (L4_rowIsOfTrial_2 N k) x1 μ) else ((M2_oneDay N 43 μ).bind fun (q7 : (Int × mm)) => J4_rowIsOfTrial_31 N (L4_rowIsOfTrial_2 N k) x1 q7.2)) else none)) else none)) else none
def M4_rowIsOfTrial (N : Nat)  (μ : mm) : Option (Int × mm) := L4_rowIsOfTrial_2 N N 0 μ
-- X4_whatIs
def J4_whatIs_110 (N : Nat) (rec47 : Int → Int → Int → Int → Int → mm → Option (Int × mm)) (x1 : Int) (x2 : Int) (x4 : Int) (x5 : Int) (x6 : Int) (μ : mm) : Option (Int × mm) := rec47 x1 x2 x4 x5 (x6 + 1) μ
def J4_whatIs_94 (N : Nat) (rec47 : Int → Int → Int → Int → Int → mm → Option (Int × mm)) (x1 : Int) (x2 : Int) (x4 : Int) (x5 : Int) (x6 : Int) (μ : mm) : Option (Int × mm) := (M4_rowIsOfTrial N μ).bind fun (q12 : (Int × mm)) => if inR q12.1 then (if q12.1 = 0 then (J4_whatIs_110 N rec47 x1 x2 x4 x5 x6 q12.2) else (if 0 ≤ x6 ∧ x6 < 32 then (bnd (zor x4 (1 * 2 ^ (x6 : Int).toNat)) fun (w15 : Int) => J4_whatIs_110 N rec47 x1 x2 w15 x5 x6 q12.2) else none)) else none
def L4_whatIs_47 (N : Nat) : Nat → Int → Int → Int → Int → Int → mm → Option (Int × mm)
  | 0, _, _, _, _, _, _ => none
  | k + 1, x1, x2, x4, x5, x6, μ => if inR x6 ∧ inR x5 then (if x5 ≤ x6 then (some (x4, μ)) else ((M1_at N 10 x1 μ).bind fun (q7 : Nat) => if kd q7 = 5 then ((M2_takeFrom N 43 q7 μ).bind fun (q9 : mm) => if inR x2 then (if x2 = 0 then (bnd (mu q9 43 0 x6) fun (μ17 : mm) => J4_whatIs_94 N (L4_whatIs_47 N k) x1 x2 x4 x5 x6 μ17) else (bnd (mu q9 43 1 x6) fun (μ11 : mm) => J4_whatIs_94 N (L4_whatIs_47 N k) x1 x2 x4 x5 x6 μ11)) else none) else none)) else none
def J4_whatIs_42 (N : Nat) (x1 : Int) (x2 : Int) (x4 : Int) (y0 : Int) (μ : mm) : Option (Int × mm) := L4_whatIs_47 N N x1 x2 x4 y0 0 μ
def M4_whatIs (N : Nat) (a0 : Int) (a1 : Int) (μ : mm) : Option (Int × mm) := (M4_unknown N a0 μ).bind fun (q1 : Int) => (M4_other N a1 1 μ).bind fun (q2 : Int) => (M4_firstOf N q1 q2 0 μ).bind fun (q3 : Int) => if inR q3 then (if q3 = 0 then (if inR a1 then (if a1 = 0 then ((M0_length_8abf5 N 65 μ).bind fun (q20 : Int) => J4_whatIs_42 N a0 a1 0 q20 μ) else (J4_whatIs_42 N a0 a1 0 10 μ)) else none) else ((M4_refused N q3 μ).bind fun (q22 : (Int × mm)) => some (q22.1, q22.2))) else none
-- X4_row
def J4_row_27 (N : Nat) (x1 : Int) (x2 : Int) (μ : mm) : Option (Int × mm) := if inR x2 then (if x2 = 0 then (if inR (μ 9 9) then (if (μ 9 9) < 0 then (some ((μ 9 9), μ)) else (if inR (μ 9 9) then (if 16 ≤ (μ 9 9) then (some ((μ 9 9), μ)) else (bnd (mu μ 9 9 ((μ 9 9) + 1)) fun (μ6 : mm) => if 0 ≤ (μ 9 9) ∧ (μ 9 9) < 16 then (bnd (mu μ6 46 ((μ 9 9)).toNat x1) fun (μ8 : mm) => some ((μ8 9 9), μ8)) else none)) else none)) else none) else ((M4_refused N x2 μ).bind fun (q11 : (Int × mm)) => some (q11.1, q11.2))) else none
def M4_row (N : Nat) (a0 : Int) (μ : mm) : Option (Int × mm) := (M4_outside N a0 0 99 μ).bind fun (q1 : Int) => if inR q1 then (if q1 = 0 then (if inR (μ 9 9) then (if (μ 9 9) < 16 then (J4_row_27 N a0 q1 μ) else (J4_row_27 N a0 (-6) μ)) else none) else (J4_row_27 N a0 q1 μ)) else none
-- X4_judge
def J4_judge_65 (N : Nat) (x1 : Int) (μ : mm) : Option (Int × mm) := bnd (mu μ 9 9 0) fun (μ2 : mm) => some (x1, μ2)
def J4_judge_59 (N : Nat) (rec5 : Int → Int → mm → Option (Int × mm)) (x1 : Int) (x2 : Int) (μ : mm) : Option (Int × mm) := rec5 x1 (x2 + 1) μ
def J4_judge_57 (N : Nat) (rec5 : Int → Int → mm → Option (Int × mm)) (x2 : Int) (μ : mm) : Option (Int × mm) := J4_judge_59 N rec5 x2 x2 μ
def L4_judge_5 (N : Nat) : Nat → Int → Int → mm → Option (Int × mm)
  | 0, _, _, _ => none
  | k + 1, x1, x2, μ => if inR x2 ∧ inR (μ 9 9) then (if (μ 9 9) ≤ x2 then (J4_judge_65 N x1 μ) else (if inR x2 then (if 16 ≤ x2 then (J4_judge_65 N x1 μ) else (if inR x1 then (if 0 ≤ x1 then (J4_judge_65 N x1 μ) else ((M1_knows N 10 x2 μ).bind fun (q5 : Int) => if inR q5 then (if q5 = 0 then (J4_judge_57 N (L4_judge_5 N k) x2 μ) else ((M1_at N 10 x2 μ).bind fun (q7 : Nat) => if kd q7 = 5 then (if 0 ≤ x2 ∧ x2 < 16 then (if inR (μ q7 3) ∧ inR (μ 46 (x2).toNat) then (if (μ q7 3) = (μ 46 (x2).toNat) then (J4_judge_59 N (L4_judge_5 N k) x1 x2 μ) else (J4_judge_57 N (L4_judge_5 N k) x2 μ)) else none) else none) else none)) else none)) else none)) else none)) else none
def M4_judge (N : Nat)  (μ : mm) : Option (Int × mm) := L4_judge_5 N N (-9) 0 μ
-- X4_clear
def M4_clear (N : Nat)  (μ : mm) : Option (Int × mm) := bnd (μ 9 9) fun (w1 : Int) => bnd (mu μ 9 9 0) fun (μ2 : mm) => some (w1, μ2)
-- X4_lots
def J4_lots_159 (N : Nat) (rec39 : Int → Int → Int → Int → Int → mm → Option (Int × mm)) (x1 : Int) (x3 : Int) (x5 : Int) (x7 : Int) (y0 : Int) (y1 : Int) (μ : mm) : Option (Int × mm) := bnd (y1 + y0) fun (w12 : Int) => rec39 x1 x3 x5 w12 (x7 + 1) μ
def L4_lots_59 (N : Nat) (rec39 : Int → Int → Int → Int → Int → mm → Option (Int × mm)) : Nat → Int → Int → Int → Int → Int → Int → mm → Option (Int × mm)
  | 0, _, _, _, _, _, _, _ => none
  | k + 1, x1, x3, x5, x6, x7, x8, μ => if inR x8 ∧ inR (μ 21 2) then (if (μ 21 2) ≤ x8 then ((M1_daysGoBy N 21 20 μ).bind fun (q8 : mm) => if inR x3 then (if x3 = 0 then ((M1_allThrough N 21 q8).bind fun (q13 : Int) => (M1_allThrough N 10 q8).bind fun (q14 : Int) => J4_lots_159 N rec39 x1 x3 x5 x7 (q13 - q14) x6 q8) else ((M1_allShort N 21 q8).bind fun (q10 : Int) => (M1_allShort N 10 q8).bind fun (q11 : Int) => J4_lots_159 N rec39 x1 x3 x5 x7 (q10 - q11) x6 q8)) else none) else (bnd ((x5 * 1664525) + 1013904223) fun (w16 : Int) => (M1_at N 21 x8 μ).bind fun (q17 : Nat) => if kd q17 = 5 then (if 0 ≤ (w16 % 2147483648) ∧ inR (w16 % 2147483648) then (if 0 ≤ ((w16 % 2147483648) / 256) ∧ inR ((w16 % 2147483648) / 256) then (bnd (mu μ q17 2 (((w16 % 2147483648) / 256) % 30)) fun (μ21 : mm) => L4_lots_59 N rec39 k x1 x3 w16 x6 x7 (x8 + 1) μ21) else none) else none) else none)) else none
def L4_lots_39 (N : Nat) : Nat → Int → Int → Int → Int → Int → mm → Option (Int × mm)
  | 0, _, _, _, _, _, _ => none
  | k + 1, x1, x3, x5, x6, x7, μ => if inR x7 ∧ inR x1 then (if x1 ≤ x7 then (some (x6, μ)) else ((M1_takeFrom N 21 10 μ).bind fun (q6 : mm) => L4_lots_59 N (L4_lots_39 N k) N x1 x3 x5 x6 x7 0 q6)) else none
def M4_lots (N : Nat) (a0 : Int) (a1 : Int) (a2 : Int) (μ : mm) : Option (Int × mm) := (M4_outside N a0 1 20 μ).bind fun (q1 : Int) => (M4_other N a2 1 μ).bind fun (q2 : Int) => (M4_firstOf N q1 q2 0 μ).bind fun (q3 : Int) => if inR q3 then (if q3 = 0 then (L4_lots_39 N N a0 a2 a1 0 0 μ) else ((M4_refused N q3 μ).bind fun (q24 : (Int × mm)) => some (q24.1, q24.2))) else none
-- X4_image
def M4_image (N : Nat)  (μ : mm) : Option (Int × mm) := (M1_takeFrom N 32 10 μ).bind fun (q1 : mm) => bnd (mu q1 9 10 1) fun (μ2 : mm) => some ((μ2 10 5), μ2)
-- X4_on
def M4_on (N : Nat)  (μ : mm) : Option (Int × mm) := if inR (μ 9 10) then (if (μ 9 10) = 0 then ((M4_refused N (-3) μ).bind fun (q3 : (Int × mm)) => some (q3.1, q3.2)) else ((M1_takeFrom N 10 32 μ).bind fun (q2 : mm) => some ((q2 10 5), q2))) else none
-- X4_count
def J4_count_37 (N : Nat) (x1 : Int) (μ : mm) : Option Int := if inR x1 then (if x1 = 0 then (some (μ 10 2)) else (if x1 = 1 then (some (μ 10 5)) else (if x1 = 2 then (some (μ 10 3)) else (if x1 = 3 then (some (μ 10 4)) else (if x1 = 4 then ((M1_allHas N 10 μ).bind fun (q7 : Int) => some q7) else (if x1 = 5 then ((M1_allWithMatter N 10 μ).bind fun (q9 : Int) => some q9) else (if x1 = 6 then (some (μ 9 9)) else (if x1 = 7 then (some (μ 44 1)) else (some (-9)))))))))) else none
def M4_count (N : Nat) (a0 : Int) (μ0 : mm) : Option Int := if inR a0 then (if a0 < 11 then (J4_count_37 N a0 μ0) else (if inR a0 then (if 16 < a0 then (J4_count_37 N a0 μ0) else (bnd (a0 - 10) fun (w14 : Int) => if inR w14 then (if 7 ≤ w14 then (some 0) else (if 0 ≤ w14 ∧ w14 < 7 then (some (μ0 47 (w14).toNat)) else none)) else none)) else none)) else none
-- X5_isIn
def M5_isIn (N : Nat) (a0 : Int) (a1 : Int) (a2 : Int) (μ0 : mm) : Option Int := if inR a0 ∧ inR a1 then (if a0 < a1 then (some 0) else (if inR a0 ∧ inR a2 then (if a2 < a0 then (some 0) else (some 1)) else none)) else none
-- X5_least
def M5_least (N : Nat) (a0 : Int) (a1 : Int) (μ0 : mm) : Option Int := if inR a0 ∧ inR a1 then (if a1 ≤ a0 then (some a1) else (some a0)) else none
-- X5_copies
def L5_copies_2 (N : Nat) : Nat → Nat → Nat → Int → mm → Option mm
  | 0, _, _, _, _ => none
  | k + 1, r0, r1, x2, μ => if inR x2 then (if 52 ≤ x2 then (some μ) else (if 0 ≤ x2 ∧ x2 < 52 then (if 0 ≤ x2 ∧ x2 < 52 then (bnd (mu μ r1 (x2).toNat (μ r0 (x2).toNat)) fun (μ4 : mm) => L5_copies_2 N k r0 r1 (x2 + 1) μ4) else none) else none)) else none
def M5_copies (N : Nat) (a0 : Nat) (a1 : Nat) (μ : mm) : Option mm := L5_copies_2 N N a0 a1 0 μ
-- X5_no
def M5_no (N : Nat) (a0 : Int) (μ : mm) : Option (Int × mm) := if 0 ≤ (-a0) ∧ (-a0) < 7 then (if 0 ≤ (-a0) ∧ (-a0) < 7 then (bnd (mu μ 7 ((-a0)).toNat ((μ 7 ((-a0)).toNat) + 1)) fun (μ3 : mm) => some (a0, μ3)) else none) else none
-- X5_noFar
def M5_noFar (N : Nat) (a0 : Int) (μ : mm) : Option (Int × mm) := (M5_no N a0 μ).bind fun (q1 : (Int × mm)) => some ((1000000000 - q1.1), q1.2)
-- X5_noWide
def M5_noWide (N : Nat) (a0 : Int) (μ : mm) : Option (Int × mm) := (M5_no N a0 μ).bind fun (q1 : (Int × mm)) => if inR q1.1 then (some ((4000000000000000000 - q1.1), q1.2)) else none
-- X5_isOne
def M5_isOne (N : Nat) (a0 : Int) (μ0 : mm) : Option Int := (M5_isIn N a0 0 ((μ0 1 0) - 1) μ0).bind fun (q1 : Int) => if (q1 = 0 ∨ q1 = 1) then (some q1) else none
-- X5_has
def M5_has (N : Nat) (a0 : Int) (a1 : Int) (μ0 : mm) : Option Int := if inR a0 ∧ 0 ≤ a1 ∧ a1 < 32 then (if inR ((a0 / 2 ^ (a1 : Int).toNat) % 2) then (if ((a0 / 2 ^ (a1 : Int).toNat) % 2) = 1 then (some 1) else (some 0)) else none) else none
-- X5_bits
def L5_bits_4 (N : Nat) : Nat → Int → Int → Int → mm → Option Int
  | 0, _, _, _, _ => none
  | k + 1, x0, x1, x2, μ => if inR x2 then (if 8 ≤ x2 then (some x1) else (if inR x0 ∧ 0 ≤ x2 ∧ x2 < 32 then (bnd (x1 + ((x0 / 2 ^ (x2 : Int).toNat) % 2)) fun (w3 : Int) => L5_bits_4 N k x0 w3 (x2 + 1) μ) else none)) else none
def M5_bits (N : Nat) (a0 : Int) (μ0 : mm) : Option Int := L5_bits_4 N N a0 0 0 μ0
-- X5_needs
def M5_needs (N : Nat) (a0 : Nat) (a1 : Int) (μ0 : mm) : Option Int := if 0 ≤ ((4 + (6 * a1)) + 1) ∧ ((4 + (6 * a1)) + 1) < 52 then (bnd (μ0 a0 (((4 + (6 * a1)) + 1)).toNat) fun (w2 : Int) => if 0 ≤ ((4 + (6 * a1)) + 0) ∧ ((4 + (6 * a1)) + 0) < 52 then (if inR (μ0 a0 (((4 + (6 * a1)) + 0)).toNat) then (if (μ0 a0 (((4 + (6 * a1)) + 0)).toNat) = 1 then (some (w2 + 5)) else (if (μ0 a0 (((4 + (6 * a1)) + 0)).toNat) = 2 then (some (2 * (w2 + 1))) else (if (μ0 a0 (((4 + (6 * a1)) + 0)).toNat) = 3 then (if 0 ≤ (w2 + 1) ∧ inR (w2 + 1) then (some ((w2 + 1) / 2)) else none) else (if (μ0 a0 (((4 + (6 * a1)) + 0)).toNat) = 4 then (some (w2 + 15)) else (if (μ0 a0 (((4 + (6 * a1)) + 0)).toNat) = 5 then (some 1) else (some (w2 + 1))))))) else none) else none) else none
-- X5_wears
def M5_wears (N : Nat) (a0 : Nat) (a1 : Int) (μ0 : mm) : Option Int := if 0 ≤ ((4 + (6 * a1)) + 0) ∧ ((4 + (6 * a1)) + 0) < 52 then (if inR (μ0 a0 (((4 + (6 * a1)) + 0)).toNat) then (if (μ0 a0 (((4 + (6 * a1)) + 0)).toNat) = 2 then ((M5_needs N a0 a1 μ0).bind fun (q3 : Int) => some q3) else (if (μ0 a0 (((4 + (6 * a1)) + 0)).toNat) = 3 then (some 1) else (if (μ0 a0 (((4 + (6 * a1)) + 0)).toNat) = 4 then ((M5_needs N a0 a1 μ0).bind fun (q6 : Int) => if 0 ≤ q6 ∧ inR q6 then (some (q6 / 3)) else none) else (if (μ0 a0 (((4 + (6 * a1)) + 0)).toNat) = 5 then (some 0) else ((M5_needs N a0 a1 μ0).bind fun (q10 : Int) => if 0 ≤ q10 ∧ inR q10 then (some (q10 / 2)) else none))))) else none) else none
-- X5_nextBy
def M5_nextBy (N : Nat) (a0 : Int) (μ0 : mm) : Option Int := if inR a0 then (if a0 = 1 then (some 1) else (if a0 = 2 then (some 30) else (if a0 = 3 then (some 7) else (if a0 = 4 then (some 0) else (if a0 = 5 then (some 8) else (some 7)))))) else none
-- X5_lacksIn
def M5_lacksIn (N : Nat) (a0 : Nat) (a1 : Int) (μ0 : mm) : Option Int := (M5_needs N a0 a1 μ0).bind fun (q1 : Int) => if 0 ≤ ((4 + (6 * a1)) + 2) ∧ ((4 + (6 * a1)) + 2) < 52 then (bnd (q1 - (μ0 a0 (((4 + (6 * a1)) + 2)).toNat)) fun (w3 : Int) => if 0 ≤ ((4 + (6 * a1)) + 3) ∧ ((4 + (6 * a1)) + 3) < 52 then (if inR (μ0 a0 (((4 + (6 * a1)) + 3)).toNat) then (if (μ0 a0 (((4 + (6 * a1)) + 3)).toNat) = 0 then (some 0) else (if inR w3 then (if 0 ≤ w3 then (some w3) else (some 0)) else none)) else none) else none) else none
-- X5_isGone
def M5_isGone (N : Nat) (a0 : Nat) (a1 : Int) (μ : mm) : Option mm := (M5_least N 9999 ((μ a0 3) + a1) μ).bind fun (q1 : Int) => bnd (mu μ a0 3 q1) fun (μ2 : mm) => some μ2
-- X5_meets
def J5_meets_88 (N : Nat) (r0 : Nat) (x1 : Int) (μ : mm) : Option mm := if 0 ≤ ((4 + (6 * x1)) + 0) ∧ ((4 + (6 * x1)) + 0) < 52 then ((M5_nextBy N (μ r0 (((4 + (6 * x1)) + 0)).toNat) μ).bind fun (q12 : Int) => if 0 ≤ ((4 + (6 * x1)) + 3) ∧ ((4 + (6 * x1)) + 3) < 52 then (bnd (mu μ r0 (((4 + (6 * x1)) + 3)).toNat q12) fun (μ14 : mm) => some μ14) else none) else none
def J5_meets_31 (N : Nat) (r0 : Nat) (x1 : Int) (x2 : Int) (y0 : Int) (y1 : Int) (μ : mm) : Option mm := bnd ((4 + (6 * y1)) + y0) fun (w5 : Int) => if 0 ≤ w5 ∧ w5 < 52 then ((M5_least N 999 ((μ r0 (w5).toNat) + 1) μ).bind fun (q7 : Int) => if 0 ≤ w5 ∧ w5 < 52 then (bnd (mu μ r0 (w5).toNat q7) fun (μ9 : mm) => if inR x2 then (if x2 = 0 then (J5_meets_88 N r0 x1 μ9) else ((M5_wears N r0 x1 μ9).bind fun (q15 : Int) => if 0 ≤ ((4 + (6 * x1)) + 2) ∧ ((4 + (6 * x1)) + 2) < 52 then ((M5_least N q15 (μ9 r0 (((4 + (6 * x1)) + 2)).toNat) μ9).bind fun (q17 : Int) => if 0 ≤ ((4 + (6 * x1)) + 2) ∧ ((4 + (6 * x1)) + 2) < 52 then (if 0 ≤ ((4 + (6 * x1)) + 2) ∧ ((4 + (6 * x1)) + 2) < 52 then (bnd (mu μ9 r0 (((4 + (6 * x1)) + 2)).toNat ((μ9 r0 (((4 + (6 * x1)) + 2)).toNat) - q17)) fun (μ20 : mm) => (M5_isGone N r0 q17 μ20).bind fun (q21 : mm) => J5_meets_88 N r0 x1 q21) else none) else none) else none)) else none) else none) else none
def J5_meets_20 (N : Nat) (r0 : Nat) (x1 : Int) (y0 : Int) (μ : mm) : Option mm := if inR y0 then (if y0 = 0 then (J5_meets_31 N r0 x1 y0 5 x1 μ) else (J5_meets_31 N r0 x1 y0 4 x1 μ)) else none
def M5_meets (N : Nat) (a0 : Nat) (a1 : Int) (μ : mm) : Option mm := if 0 ≤ ((4 + (6 * a1)) + 2) ∧ ((4 + (6 * a1)) + 2) < 52 then ((M5_needs N a0 a1 μ).bind fun (q2 : Int) => if inR (μ a0 (((4 + (6 * a1)) + 2)).toNat) ∧ inR q2 then (if (μ a0 (((4 + (6 * a1)) + 2)).toNat) < q2 then (J5_meets_20 N a0 a1 0 μ) else (J5_meets_20 N a0 a1 1 μ)) else none) else none
-- X5_day
def J5_day_55 (N : Nat) (rec9 : Nat → Int → mm → Option mm) (r0 : Nat) (x1 : Int) (μ : mm) : Option mm := rec9 r0 (x1 + 1) μ
def L5_day_9 (N : Nat) : Nat → Nat → Int → mm → Option mm
  | 0, _, _, _ => none
  | k + 1, r0, x1, μ => if inR x1 ∧ inR (μ r0 0) then (if (μ r0 0) ≤ x1 then (some μ) else (if 0 ≤ ((4 + (6 * x1)) + 3) ∧ ((4 + (6 * x1)) + 3) < 52 then (if inR (μ r0 (((4 + (6 * x1)) + 3)).toNat) then (if (μ r0 (((4 + (6 * x1)) + 3)).toNat) = 0 then (J5_day_55 N (L5_day_9 N k) r0 x1 μ) else (if 0 ≤ ((4 + (6 * x1)) + 3) ∧ ((4 + (6 * x1)) + 3) < 52 then (if 0 ≤ ((4 + (6 * x1)) + 3) ∧ ((4 + (6 * x1)) + 3) < 52 then (bnd (mu μ r0 (((4 + (6 * x1)) + 3)).toNat ((μ r0 (((4 + (6 * x1)) + 3)).toNat) - 1)) fun (μ7 : mm) => if 0 ≤ ((4 + (6 * x1)) + 3) ∧ ((4 + (6 * x1)) + 3) < 52 then (if inR (μ7 r0 (((4 + (6 * x1)) + 3)).toNat) then (if (μ7 r0 (((4 + (6 * x1)) + 3)).toNat) = 0 then ((M5_meets N r0 x1 μ7).bind fun (q10 : mm) => J5_day_55 N (L5_day_9 N k) r0 x1 q10) else (J5_day_55 N (L5_day_9 N k) r0 x1 μ7)) else none) else none) else none) else none)) else none) else none)) else none
def M5_day (N : Nat) (a0 : Nat) (μ : mm) : Option mm := bnd (mu μ a0 1 ((μ a0 1) + 1)) fun (μ1 : mm) => L5_day_9 N N a0 0 μ1
-- X5_daysOn
def L5_daysOn_2 (N : Nat) : Nat → Nat → Int → Int → mm → Option mm
  | 0, _, _, _, _ => none
  | k + 1, r0, x1, x2, μ => if inR x2 ∧ inR x1 then (if x1 ≤ x2 then (some μ) else ((M5_day N r0 μ).bind fun (q2 : mm) => L5_daysOn_2 N k r0 x1 (x2 + 1) q2)) else none
def M5_daysOn (N : Nat) (a0 : Nat) (a1 : Int) (μ : mm) : Option mm := L5_daysOn_2 N N a0 a1 0 μ
-- X5_allOf
def L5_allOf_4 (N : Nat) : Nat → Nat → Int → Int → Int → mm → Option Int
  | 0, _, _, _, _, _ => none
  | k + 1, r0, x1, x2, x3, μ => if inR x3 ∧ inR (μ r0 0) then (if (μ r0 0) ≤ x3 then (some x2) else (if 0 ≤ ((4 + (6 * x3)) + x1) ∧ ((4 + (6 * x3)) + x1) < 52 then (bnd (x2 + (μ r0 (((4 + (6 * x3)) + x1)).toNat)) fun (w3 : Int) => L5_allOf_4 N k r0 x1 w3 (x3 + 1) μ) else none)) else none
def M5_allOf (N : Nat) (a0 : Nat) (a1 : Int) (μ0 : mm) : Option Int := L5_allOf_4 N N a0 a1 0 0 μ0
-- X5_issuesIn
def M5_issuesIn (N : Nat) (a0 : Nat) (a1 : Int) (a2 : Int) (μ : mm) : Option mm := bnd (mu μ a0 2 ((μ a0 2) - a2)) fun (μ1 : mm) => if 0 ≤ ((4 + (6 * a1)) + 2) ∧ ((4 + (6 * a1)) + 2) < 52 then (if 0 ≤ ((4 + (6 * a1)) + 2) ∧ ((4 + (6 * a1)) + 2) < 52 then (bnd (mu μ1 a0 (((4 + (6 * a1)) + 2)).toNat ((μ1 a0 (((4 + (6 * a1)) + 2)).toNat) + a2)) fun (μ4 : mm) => some μ4) else none) else none
-- X5_handsIn
def M5_handsIn (N : Nat) (a0 : Nat) (a1 : Int) (μ : mm) : Option mm := if 0 ≤ ((4 + (6 * a1)) + 2) ∧ ((4 + (6 * a1)) + 2) < 52 then (bnd ((μ a0 2) + (μ a0 (((4 + (6 * a1)) + 2)).toNat)) fun (w2 : Int) => if 0 ≤ ((4 + (6 * a1)) + 2) ∧ ((4 + (6 * a1)) + 2) < 52 then (bnd (mu μ a0 (((4 + (6 * a1)) + 2)).toNat 0) fun (μ4 : mm) => (M5_least N 999 w2 μ4).bind fun (q5 : Int) => bnd (mu μ4 a0 2 q5) fun (μ6 : mm) => if inR w2 then (if w2 ≤ 999 then (some μ6) else ((M5_isGone N a0 (w2 - 999) μ6).bind fun (q8 : mm) => some q8)) else none) else none) else none
-- X5_throughBehind
def M5_throughBehind (N : Nat) (a0 : Int) (μ : mm) : Option (Int × mm) := (M5_daysOn N 2 a0 μ).bind fun (q1 : mm) => (M5_allOf N 2 4 q1).bind fun (q2 : Int) => (M5_allOf N 1 4 q1).bind fun (q3 : Int) => some ((q2 - q3), q1)
-- X5_letter
def J5_letter_27 (N : Nat) (μ : mm) : Option (Int × mm) := (M5_no N (-6) μ).bind fun (q3 : (Int × mm)) => some (q3.1, q3.2)
def M5_letter (N : Nat) (a0 : Int) (μ : mm) : Option (Int × mm) := if inR a0 then (if 0 ≤ a0 then (if inR a0 then (if 255 < a0 then (J5_letter_27 N μ) else (if inR (μ 0 8) then (if (μ 0 8) = 96 then (J5_letter_27 N μ) else (if 0 ≤ (μ 0 8) ∧ (μ 0 8) < 96 then (bnd (mu μ 5 ((μ 0 8)).toNat a0) fun (μ6 : mm) => bnd (mu μ6 0 8 ((μ6 0 8) + 1)) fun (μ7 : mm) => some ((μ7 0 8), μ7)) else none)) else none)) else none) else ((M5_no N (-4) μ).bind fun (q10 : (Int × mm)) => some (q10.1, q10.2))) else none
-- X5_here
def M5_here (N : Nat)  (μ0 : mm) : Option Int := if inR (μ0 0 10) ∧ inR (μ0 0 8) then (if (μ0 0 8) ≤ (μ0 0 10) then (some (-1)) else (if 0 ≤ (μ0 0 10) ∧ (μ0 0 10) < 96 then (some (μ0 5 ((μ0 0 10)).toNat)) else none)) else none
-- X5_readsNumber
def L5_readsNumber_9 (N : Nat) : Nat → Int → Int → Int → mm → Option (Int × mm)
  | 0, _, _, _, _ => none
  | k + 1, x1, x2, x3, μ => if inR x3 ∧ inR x2 then (if x2 ≤ x3 then (some (1, μ)) else ((M5_here N μ).bind fun (q4 : Int) => (M5_isIn N q4 48 57 μ).bind fun (q5 : Int) => if inR q5 then (if q5 = 0 then (some (0, μ)) else (if 0 ≤ x1 ∧ x1 < 3 then ((M5_here N μ).bind fun (q8 : Int) => if 0 ≤ x1 ∧ x1 < 3 then (bnd (mu μ 8 (x1).toNat (((10 * (μ 8 (x1).toNat)) + q8) - 48)) fun (μ10 : mm) => bnd (mu μ10 0 10 ((μ10 0 10) + 1)) fun (μ11 : mm) => L5_readsNumber_9 N k x1 x2 (x3 + 1) μ11) else none) else none)) else none)) else none
def M5_readsNumber (N : Nat) (a0 : Int) (a1 : Int) (μ : mm) : Option (Int × mm) := if 0 ≤ a0 ∧ a0 < 3 then (bnd (mu μ 8 (a0).toNat 0) fun (μ2 : mm) => L5_readsNumber_9 N N a0 a1 0 μ2) else none
-- X5_kindBy
def M5_kindBy (N : Nat) (a0 : Int) (μ0 : mm) : Option Int := if inR a0 then (if a0 = 99 then (some 0) else (if a0 = 100 then (some 4) else (if a0 = 101 then (some (-9)) else (if a0 = 102 then (some (-9)) else (if a0 = 103 then (some 5) else (if a0 = 104 then (some 2) else (if a0 = 105 then (some (-9)) else (if a0 = 106 then (some (-9)) else (if a0 = 107 then (some (-9)) else (if a0 = 108 then (some (-9)) else (if a0 = 109 then (some 1) else (if a0 = 110 then (some (-9)) else (if a0 = 111 then (some (-9)) else (if a0 = 112 then (some (-9)) else (if a0 = 113 then (some (-9)) else (if a0 = 114 then (some (-9)) else (if a0 = 115 then (some (-9)) else (if a0 = 116 then (some 3) else (some (-9)))))))))))))))))))) else none
-- X5_readsKind
def J5_readsKind_32 (N : Nat) (y0 : Int) (y1 : Int) (μ : mm) : Option (Int × mm) := bnd (mu μ 0 10 (y1 + y0)) fun (μ5 : mm) => if inR (μ5 8 0) then (if (μ5 8 0) < 0 then (some (0, μ5)) else (some (1, μ5))) else none
def M5_readsKind (N : Nat)  (μ : mm) : Option (Int × mm) := (M5_here N μ).bind fun (q1 : Int) => (M5_kindBy N q1 μ).bind fun (q2 : Int) => bnd (mu μ 8 0 q2) fun (μ3 : mm) => if inR (μ3 8 0) then (if 0 ≤ (μ3 8 0) then (J5_readsKind_32 N 1 (μ3 0 10) μ3) else (J5_readsKind_32 N 0 (μ3 0 10) μ3)) else none
-- X5_readsStatement
def J5_readsStatement_207 (N : Nat) (x2 : Int) (μ : mm) : Option (Int × mm) := if inR x2 then (if x2 = 0 then (some (0, μ)) else ((M5_here N μ).bind fun (q6 : Int) => if inR q6 then (if q6 = 59 then (bnd (mu μ 0 10 ((μ 0 10) + 1)) fun (μ8 : mm) => some (1, μ8)) else (some (0, μ))) else none)) else none
def J5_readsStatement_161 (N : Nat) (y0 : Int) (μ : mm) : Option (Int × mm) := J5_readsStatement_207 N y0 μ
def J5_readsStatement_160 (N : Nat) (μ : mm) : Option (Int × mm) := J5_readsStatement_161 N 0 μ
def J5_readsStatement_134 (N : Nat) (y0 : Int) (μ : mm) : Option (Int × mm) := J5_readsStatement_207 N y0 μ
def J5_readsStatement_133 (N : Nat) (μ : mm) : Option (Int × mm) := J5_readsStatement_134 N 0 μ
def M5_readsStatement (N : Nat)  (μ : mm) : Option (Int × mm) := (M5_here N μ).bind fun (q1 : Int) => bnd (mu μ 0 10 ((μ 0 10) + 1)) fun (μ2 : mm) => if inR q1 then (if q1 = 100 then ((M5_readsNumber N 0 2 μ2).bind fun (q4 : (Int × mm)) => J5_readsStatement_207 N q4.1 q4.2) else (if q1 = 101 then (bnd (mu μ2 0 10 ((μ2 0 10) - 1)) fun (μ12 : mm) => some (0, μ12)) else (if q1 = 102 then (bnd (mu μ2 0 10 ((μ2 0 10) - 1)) fun (μ14 : mm) => some (0, μ14)) else (if q1 = 103 then ((M5_readsNumber N 0 3 μ2).bind fun (q16 : (Int × mm)) => J5_readsStatement_207 N q16.1 q16.2) else (if q1 = 104 then (bnd (mu μ2 0 10 ((μ2 0 10) - 1)) fun (μ18 : mm) => some (0, μ18)) else (if q1 = 105 then ((M5_readsNumber N 0 1 μ2).bind fun (q20 : (Int × mm)) => if inR q20.1 then (if q20.1 = 0 then (J5_readsStatement_160 N q20.2) else ((M5_readsNumber N 1 2 q20.2).bind fun (q22 : (Int × mm)) => if inR q22.1 then (if q22.1 = 0 then (J5_readsStatement_160 N q22.2) else (J5_readsStatement_161 N 1 q22.2)) else none)) else none) else (if q1 = 106 then (bnd (mu μ2 0 10 ((μ2 0 10) - 1)) fun (μ27 : mm) => some (0, μ27)) else (if q1 = 107 then (bnd (mu μ2 0 10 ((μ2 0 10) - 1)) fun (μ29 : mm) => some (0, μ29)) else (if q1 = 108 then (bnd (mu μ2 0 10 ((μ2 0 10) - 1)) fun (μ31 : mm) => some (0, μ31)) else (if q1 = 109 then (bnd (mu μ2 0 10 ((μ2 0 10) - 1)) fun (μ33 : mm) => some (0, μ33)) else (if q1 = 110 then (bnd (mu μ2 0 10 ((μ2 0 10) - 1)) fun (μ35 : mm) => some (0, μ35)) else (if q1 = 111 then (bnd (mu μ2 0 10 ((μ2 0 10) - 1)) fun (μ37 : mm) => some (0, μ37)) else (if q1 = 112 then ((M5_readsKind N μ2).bind fun (q39 : (Int × mm)) => if inR q39.1 then (if q39.1 = 0 then (J5_readsStatement_133 N q39.2) else ((M5_readsNumber N 1 1 q39.2).bind fun (q41 : (Int × mm)) => if inR q41.1 then (if q41.1 = 0 then (J5_readsStatement_133 N q41.2) else ((M5_readsNumber N 2 2 q41.2).bind fun (q43 : (Int × mm)) => if inR q43.1 then (if q43.1 = 0 then (J5_readsStatement_133 N q43.2) else (J5_readsStatement_134 N 1 q43.2)) else none)) else none)) else none) else (if q1 = 113 then (bnd (mu μ2 0 10 ((μ2 0 10) - 1)) fun (μ49 : mm) => some (0, μ49)) else (if q1 = 114 then ((M5_readsNumber N 0 1 μ2).bind fun (q51 : (Int × mm)) => J5_readsStatement_207 N q51.1 q51.2) else (if q1 = 115 then (bnd (mu μ2 0 10 ((μ2 0 10) - 1)) fun (μ53 : mm) => some (0, μ53)) else (if q1 = 116 then (bnd (mu μ2 0 10 ((μ2 0 10) - 1)) fun (μ55 : mm) => some (0, μ55)) else (if q1 = 117 then ((M5_readsNumber N 0 1 μ2).bind fun (q57 : (Int × mm)) => if inR q57.1 then (if q57.1 = 0 then (J5_readsStatement_160 N q57.2) else ((M5_readsNumber N 1 2 q57.2).bind fun (q59 : (Int × mm)) => if inR q59.1 then (if q59.1 = 0 then (J5_readsStatement_160 N q59.2) else (J5_readsStatement_161 N 1 q59.2)) else none)) else none) else (bnd (mu μ2 0 10 ((μ2 0 10) - 1)) fun (μ64 : mm) => some (0, μ64)))))))))))))))))))) else none
-- X5_adds
def L5_adds_30 (N : Nat) : Nat → Int → Int → Int → Int → Int → mm → Option (Int × mm)
  | 0, _, _, _, _, _, _ => none
  | k + 1, x1, x2, x3, x4, x5, μ => if inR x5 then (if 6 ≤ x5 then (if 0 ≤ ((4 + (6 * x4)) + 0) ∧ ((4 + (6 * x4)) + 0) < 52 then (bnd (mu μ 1 (((4 + (6 * x4)) + 0)).toNat x1) fun (μ6 : mm) => if 0 ≤ ((4 + (6 * x4)) + 1) ∧ ((4 + (6 * x4)) + 1) < 52 then (bnd (mu μ6 1 (((4 + (6 * x4)) + 1)).toNat x2) fun (μ8 : mm) => if 0 ≤ ((4 + (6 * x4)) + 3) ∧ ((4 + (6 * x4)) + 3) < 52 then (bnd (mu μ8 1 (((4 + (6 * x4)) + 3)).toNat x3) fun (μ10 : mm) => bnd (mu μ10 1 0 ((μ10 1 0) + 1)) fun (μ11 : mm) => some (1, μ11)) else none) else none) else none) else (if 0 ≤ ((4 + (6 * x4)) + x5) ∧ ((4 + (6 * x4)) + x5) < 52 then (bnd (mu μ 1 (((4 + (6 * x4)) + x5)).toNat 0) fun (μ13 : mm) => L5_adds_30 N k x1 x2 x3 x4 (x5 + 1) μ13) else none)) else none
def M5_adds (N : Nat) (a0 : Int) (a1 : Int) (a2 : Int) (μ : mm) : Option (Int × mm) := if inR a2 then (if 60 < a2 then (some (0, μ)) else (if inR (μ 1 0) then (if (μ 1 0) = 8 then (some (0, μ)) else (bnd (μ 1 0) fun (w3 : Int) => L5_adds_30 N N a0 a1 a2 w3 0 μ)) else none)) else none
-- X5_isDone
def M5_isDone (N : Nat) (a0 : Int) (μ : mm) : Option (Int × mm) := bnd (μ 8 0) fun (w1 : Int) => bnd (μ 8 1) fun (w2 : Int) => if inR a0 then (if a0 = 103 then (if inR ((μ 1 2) + w1) then (if ((μ 1 2) + w1) ≤ 999 then (bnd (mu μ 1 2 ((μ 1 2) + w1)) fun (μ5 : mm) => some (1, μ5)) else (some (0, μ))) else none) else (if a0 = 104 then ((M5_isIn N w1 1 60 μ).bind fun (q8 : Int) => if inR q8 then (if q8 = 0 then (some (0, μ)) else (if inR ((μ 1 1) + w1) then (if ((μ 1 1) + w1) ≤ 999 then ((M5_daysOn N 1 w1 μ).bind fun (q11 : mm) => some (1, q11)) else (some (0, μ))) else none)) else none) else (if a0 = 105 then ((M5_isOne N w1 μ).bind fun (q15 : Int) => if inR q15 then (if q15 = 0 then (some (0, μ)) else (if inR w2 ∧ inR (μ 1 2) then (if (μ 1 2) < w2 then (some (0, μ)) else (if 0 ≤ ((4 + (6 * w1)) + 2) ∧ ((4 + (6 * w1)) + 2) < 52 then (if inR ((μ 1 (((4 + (6 * w1)) + 2)).toNat) + w2) then (if ((μ 1 (((4 + (6 * w1)) + 2)).toNat) + w2) ≤ 99 then ((M5_issuesIn N 1 w1 w2 μ).bind fun (q20 : mm) => some (1, q20)) else (some (0, μ))) else none) else none)) else none)) else none) else (if a0 = 106 then ((M5_isIn N w1 1 60 μ).bind fun (q25 : Int) => if inR q25 then (if q25 = 0 then (some (0, μ)) else (if inR ((μ 1 1) + w1) then (if ((μ 1 1) + w1) ≤ 999 then ((M5_daysOn N 1 w1 μ).bind fun (q28 : mm) => some (1, q28)) else (some (0, μ))) else none)) else none) else (if a0 = 107 then ((M5_isIn N w1 1 60 μ).bind fun (q32 : Int) => if inR q32 then (if q32 = 0 then (some (0, μ)) else (if inR ((μ 1 1) + w1) then (if ((μ 1 1) + w1) ≤ 999 then ((M5_daysOn N 1 w1 μ).bind fun (q35 : mm) => some (1, q35)) else (some (0, μ))) else none)) else none) else (if a0 = 108 then ((M5_isIn N w1 1 60 μ).bind fun (q39 : Int) => if inR q39 then (if q39 = 0 then (some (0, μ)) else (if inR ((μ 1 1) + w1) then (if ((μ 1 1) + w1) ≤ 999 then ((M5_daysOn N 1 w1 μ).bind fun (q42 : mm) => some (1, q42)) else (some (0, μ))) else none)) else none) else (if a0 = 109 then ((M5_isIn N w1 1 60 μ).bind fun (q46 : Int) => if inR q46 then (if q46 = 0 then (some (0, μ)) else (if inR ((μ 1 1) + w1) then (if ((μ 1 1) + w1) ≤ 999 then ((M5_daysOn N 1 w1 μ).bind fun (q49 : mm) => some (1, q49)) else (some (0, μ))) else none)) else none) else (if a0 = 110 then ((M5_isIn N w1 1 60 μ).bind fun (q53 : Int) => if inR q53 then (if q53 = 0 then (some (0, μ)) else (if inR ((μ 1 1) + w1) then (if ((μ 1 1) + w1) ≤ 999 then ((M5_daysOn N 1 w1 μ).bind fun (q56 : mm) => some (1, q56)) else (some (0, μ))) else none)) else none) else (if a0 = 111 then ((M5_isIn N w1 1 60 μ).bind fun (q60 : Int) => if inR q60 then (if q60 = 0 then (some (0, μ)) else (if inR ((μ 1 1) + w1) then (if ((μ 1 1) + w1) ≤ 999 then ((M5_daysOn N 1 w1 μ).bind fun (q63 : mm) => some (1, q63)) else (some (0, μ))) else none)) else none) else (if a0 = 112 then ((M5_adds N w1 w2 (μ 8 2) μ).bind fun (q67 : (Int × mm)) => if (q67.1 = 0 ∨ q67.1 = 1) then (some (q67.1, q67.2)) else none) else (if a0 = 113 then ((M5_isIn N w1 1 60 μ).bind fun (q70 : Int) => if inR q70 then (if q70 = 0 then (some (0, μ)) else (if inR ((μ 1 1) + w1) then (if ((μ 1 1) + w1) ≤ 999 then ((M5_daysOn N 1 w1 μ).bind fun (q73 : mm) => some (1, q73)) else (some (0, μ))) else none)) else none) else (if a0 = 114 then ((M5_isOne N w1 μ).bind fun (q77 : Int) => if inR q77 then (if q77 = 0 then (some (0, μ)) else ((M5_handsIn N 1 w1 μ).bind fun (q79 : mm) => some (1, q79))) else none) else (if a0 = 115 then ((M5_isIn N w1 1 60 μ).bind fun (q82 : Int) => if inR q82 then (if q82 = 0 then (some (0, μ)) else (if inR ((μ 1 1) + w1) then (if ((μ 1 1) + w1) ≤ 999 then ((M5_daysOn N 1 w1 μ).bind fun (q85 : mm) => some (1, q85)) else (some (0, μ))) else none)) else none) else (if a0 = 116 then ((M5_isIn N w1 1 60 μ).bind fun (q89 : Int) => if inR q89 then (if q89 = 0 then (some (0, μ)) else (if inR ((μ 1 1) + w1) then (if ((μ 1 1) + w1) ≤ 999 then ((M5_daysOn N 1 w1 μ).bind fun (q92 : mm) => some (1, q92)) else (some (0, μ))) else none)) else none) else (if a0 = 117 then ((M5_isOne N w1 μ).bind fun (q96 : Int) => if inR q96 then (if q96 = 0 then (some (0, μ)) else (if inR w2 then (if w2 ≤ 60 then (if 0 ≤ ((4 + (6 * w1)) + 3) ∧ ((4 + (6 * w1)) + 3) < 52 then (bnd (mu μ 1 (((4 + (6 * w1)) + 3)).toNat w2) fun (μ100 : mm) => some (1, μ100)) else none) else (some (0, μ))) else none)) else none) else ((M5_isIn N w1 1 60 μ).bind fun (q104 : Int) => if inR q104 then (if q104 = 0 then (some (0, μ)) else (if inR ((μ 1 1) + w1) then (if ((μ 1 1) + w1) ≤ 999 then ((M5_daysOn N 1 w1 μ).bind fun (q107 : mm) => some (1, q107)) else (some (0, μ))) else none)) else none)))))))))))))))) else none
-- X5_counter
def J5_counter_128 (N : Nat) (x1 : Int) (x2 : Int) (μ : mm) : Option (Int × mm) := bnd (mu μ 0 8 0) fun (μ8 : mm) => if inR x2 then (if x2 = (-9) then (some (x1, μ8)) else (some (x2, μ8))) else none
def L5_counter_62 (N : Nat) : Nat → Int → Int → mm → Option (Int × mm)
  | 0, _, _, _ => none
  | k + 1, x1, x2, μ => if inR x2 then (if x2 = (-9) then (if inR (μ 0 10) ∧ inR (μ 0 8) then (if (μ 0 8) ≤ (μ 0 10) then (J5_counter_128 N x1 x2 μ) else (bnd (μ 0 10) fun (w12 : Int) => (M5_here N μ).bind fun (q13 : Int) => (M5_readsStatement N μ).bind fun (q14 : (Int × mm)) => (M5_isDone N q13 q14.2).bind fun (q15 : (Int × mm)) => if inR q15.1 then (if q15.1 = 0 then (bnd ((-2000) - w12) fun (w17 : Int) => (M5_copies N 4 1 q15.2).bind fun (q18 : mm) => L5_counter_62 N k x1 w17 q18) else (L5_counter_62 N k x1 x2 q15.2)) else none)) else none) else (J5_counter_128 N x1 x2 μ)) else none
def J5_counter_46 (N : Nat) (x1 : Int) (x2 : Int) (μ : mm) : Option (Int × mm) := (M5_copies N 1 4 μ).bind fun (q5 : mm) => bnd (mu q5 0 10 0) fun (μ6 : mm) => L5_counter_62 N N x1 x2 μ6
def J5_counter_26 (N : Nat) (rec10 : Int → Int → mm → Option (Int × mm)) (x1 : Int) (x2 : Int) (μ : mm) : Option (Int × mm) := if inR x2 then (if x2 = (-9) then (if inR (μ 0 10) ∧ inR (μ 0 8) then (if (μ 0 10) < (μ 0 8) then (rec10 (x1 + 1) x2 μ) else (J5_counter_46 N (x1 + 1) x2 μ)) else none) else (J5_counter_46 N (x1 + 1) x2 μ)) else none
def L5_counter_10 (N : Nat) : Nat → Int → Int → mm → Option (Int × mm)
  | 0, _, _, _ => none
  | k + 1, x1, x2, μ => (M5_readsStatement N μ).bind fun (q2 : (Int × mm)) => if inR q2.1 then (if q2.1 = 0 then (bnd ((-1000) - (q2.2 0 10)) fun (w25 : Int) => J5_counter_26 N (L5_counter_10 N k) x1 w25 q2.2) else (J5_counter_26 N (L5_counter_10 N k) x1 x2 q2.2)) else none
def M5_counter (N : Nat)  (μ : mm) : Option (Int × mm) := bnd (mu μ 0 10 0) fun (μ1 : mm) => L5_counter_10 N N 0 (-9) μ1
-- X5_person
def M5_person (N : Nat) (a0 : Int) (a1 : Int) (μ : mm) : Option (Int × mm) := (M5_isOne N a0 μ).bind fun (q1 : Int) => if inR q1 then (if q1 = 0 then ((M5_no N (-1) μ).bind fun (q14 : (Int × mm)) => some (q14.1, q14.2)) else ((M5_isIn N a1 0 5 μ).bind fun (q3 : Int) => if inR q3 then (if q3 = 0 then (if inR a1 then (if a1 = 6 then ((M5_needs N 1 a0 μ).bind fun (q10 : Int) => some (q10, μ)) else (if inR a1 then (if a1 = 7 then ((M5_lacksIn N 1 a0 μ).bind fun (q8 : Int) => some (q8, μ)) else ((M5_no N (-2) μ).bind fun (q7 : (Int × mm)) => some (q7.1, q7.2))) else none)) else none) else (if 0 ≤ ((4 + (6 * a0)) + a1) ∧ ((4 + (6 * a0)) + a1) < 52 then (some ((μ 1 (((4 + (6 * a0)) + a1)).toNat), μ)) else none)) else none)) else none
-- X5_wrongBy
def M5_wrongBy (N : Nat) (a0 : Int) (a1 : Int) (a2 : Int) (μ0 : mm) : Option Int := if inR a0 ∧ inR a1 then (if a1 ≤ a0 then (if inR a0 ∧ inR a2 then (if a0 ≤ a2 then (some 0) else (some (-6))) else none) else (some (-4))) else none
-- X5_issues
def J5_issues_54 (N : Nat) (x1 : Int) (x2 : Int) (x3 : Int) (μ : mm) : Option (Int × mm) := if inR x3 then (if x3 = 0 then ((M5_issuesIn N 1 x1 x2 μ).bind fun (q5 : mm) => some ((q5 1 2), q5)) else ((M5_no N x3 μ).bind fun (q6 : (Int × mm)) => some (q6.1, q6.2))) else none
def J5_issues_51 (N : Nat) (x1 : Int) (x2 : Int) (μ : mm) : Option (Int × mm) := J5_issues_54 N x1 x2 (-3) μ
def J5_issues_19 (N : Nat) (x1 : Int) (x2 : Int) (y0 : Int) (μ : mm) : Option (Int × mm) := if inR y0 then (if y0 = 0 then (if inR x2 ∧ inR (μ 1 2) then (if (μ 1 2) < x2 then (J5_issues_51 N x1 x2 μ) else (if 0 ≤ ((4 + (6 * x1)) + 2) ∧ ((4 + (6 * x1)) + 2) < 52 then (if inR ((μ 1 (((4 + (6 * x1)) + 2)).toNat) + x2) then (if ((μ 1 (((4 + (6 * x1)) + 2)).toNat) + x2) ≤ 99 then (J5_issues_54 N x1 x2 y0 μ) else (J5_issues_51 N x1 x2 μ)) else none) else none)) else none) else (J5_issues_54 N x1 x2 y0 μ)) else none
def M5_issues (N : Nat) (a0 : Int) (a1 : Int) (μ : mm) : Option (Int × mm) := (M5_isOne N a0 μ).bind fun (q1 : Int) => if inR q1 then (if q1 = 0 then (J5_issues_19 N a0 a1 (-1) μ) else ((M5_wrongBy N a1 0 99 μ).bind fun (q14 : Int) => J5_issues_19 N a0 a1 q14 μ)) else none
-- X5_returns
def M5_returns (N : Nat) (a0 : Int) (μ : mm) : Option (Int × mm) := (M5_isOne N a0 μ).bind fun (q1 : Int) => if inR q1 then (if q1 = 0 then ((M5_no N (-1) μ).bind fun (q8 : (Int × mm)) => some (q8.1, q8.2)) else (if 0 ≤ ((4 + (6 * a0)) + 2) ∧ ((4 + (6 * a0)) + 2) < 52 then (if inR (μ 1 (((4 + (6 * a0)) + 2)).toNat) then (if (μ 1 (((4 + (6 * a0)) + 2)).toNat) = 0 then ((M5_no N (-3) μ).bind fun (q6 : (Int × mm)) => some (q6.1, q6.2)) else ((M5_handsIn N 1 a0 μ).bind fun (q5 : mm) => some ((q5 1 2), q5))) else none) else none)) else none
-- X5_due
def J5_due_19 (N : Nat) (x1 : Int) (x2 : Int) (y0 : Int) (μ : mm) : Option (Int × mm) := if inR y0 then (if y0 = 0 then (if 0 ≤ ((4 + (6 * x1)) + 3) ∧ ((4 + (6 * x1)) + 3) < 52 then (bnd (μ 1 (((4 + (6 * x1)) + 3)).toNat) fun (w5 : Int) => if 0 ≤ ((4 + (6 * x1)) + 3) ∧ ((4 + (6 * x1)) + 3) < 52 then (bnd (mu μ 1 (((4 + (6 * x1)) + 3)).toNat x2) fun (μ7 : mm) => some (w5, μ7)) else none) else none) else ((M5_no N y0 μ).bind fun (q8 : (Int × mm)) => some (q8.1, q8.2))) else none
def M5_due (N : Nat) (a0 : Int) (a1 : Int) (μ : mm) : Option (Int × mm) := (M5_isOne N a0 μ).bind fun (q1 : Int) => if inR q1 then (if q1 = 0 then (J5_due_19 N a0 a1 (-1) μ) else ((M5_wrongBy N a1 0 60 μ).bind fun (q10 : Int) => J5_due_19 N a0 a1 q10 μ)) else none
-- X5_fills
def J5_fills_29 (N : Nat) (x1 : Int) (x2 : Int) (μ : mm) : Option (Int × mm) := if inR x2 then (if x2 = 0 then (bnd (mu μ 1 2 ((μ 1 2) + x1)) fun (μ4 : mm) => some ((μ4 1 2), μ4)) else ((M5_no N x2 μ).bind fun (q5 : (Int × mm)) => some (q5.1, q5.2))) else none
def M5_fills (N : Nat) (a0 : Int) (μ : mm) : Option (Int × mm) := (M5_wrongBy N a0 0 99 μ).bind fun (q1 : Int) => if inR q1 then (if q1 = 0 then (if inR ((μ 1 2) + a0) then (if ((μ 1 2) + a0) ≤ 999 then (J5_fills_29 N a0 q1 μ) else (J5_fills_29 N a0 (-6) μ)) else none) else (J5_fills_29 N a0 q1 μ)) else none
-- X5_turn
def J5_turn_33 (N : Nat) (x1 : Int) (x2 : Int) (x3 : Int) (y0 : Int) (μ : mm) : Option (Int × mm) := if inR y0 then (if y0 = 0 then (if 0 ≤ ((4 + (6 * x1)) + 0) ∧ ((4 + (6 * x1)) + 0) < 52 then (if 0 ≤ ((4 + (6 * x1)) + 1) ∧ ((4 + (6 * x1)) + 1) < 52 then (bnd ((10 * (μ 1 (((4 + (6 * x1)) + 0)).toNat)) + (μ 1 (((4 + (6 * x1)) + 1)).toNat)) fun (w9 : Int) => if 0 ≤ ((4 + (6 * x1)) + 0) ∧ ((4 + (6 * x1)) + 0) < 52 then (bnd (mu μ 1 (((4 + (6 * x1)) + 0)).toNat x2) fun (μ11 : mm) => if 0 ≤ ((4 + (6 * x1)) + 1) ∧ ((4 + (6 * x1)) + 1) < 52 then (bnd (mu μ11 1 (((4 + (6 * x1)) + 1)).toNat x3) fun (μ13 : mm) => some (w9, μ13)) else none) else none) else none) else none) else ((M5_no N y0 μ).bind fun (q14 : (Int × mm)) => some (q14.1, q14.2))) else none
def M5_turn (N : Nat) (a0 : Int) (a1 : Int) (a2 : Int) (μ : mm) : Option (Int × mm) := (M5_isOne N a0 μ).bind fun (q1 : Int) => if inR q1 then (if q1 = 0 then (J5_turn_33 N a0 a1 a2 (-1) μ) else ((M5_isIn N a1 0 5 μ).bind fun (q3 : Int) => if inR q3 then (if q3 = 0 then (J5_turn_33 N a0 a1 a2 (-2) μ) else ((M5_wrongBy N a2 0 9 μ).bind fun (q5 : Int) => J5_turn_33 N a0 a1 a2 q5 μ)) else none)) else none
-- X5_days
def J5_days_32 (N : Nat) (μ : mm) : Option (Int × mm) := (M5_no N (-6) μ).bind fun (q3 : (Int × mm)) => some (q3.1, q3.2)
def M5_days (N : Nat) (a0 : Int) (μ : mm) : Option (Int × mm) := if inR a0 then (if 1 ≤ a0 then (if inR a0 then (if 60 < a0 then (J5_days_32 N μ) else (if inR ((μ 1 1) + a0) then (if ((μ 1 1) + a0) ≤ 999 then ((M5_allOf N 1 4 μ).bind fun (q5 : Int) => (M5_daysOn N 1 a0 μ).bind fun (q6 : mm) => (M5_allOf N 1 4 q6).bind fun (q7 : Int) => some ((q7 - q5), q6)) else (J5_days_32 N μ)) else none)) else none) else ((M5_no N (-4) μ).bind fun (q10 : (Int × mm)) => some (q10.1, q10.2))) else none
-- X5_takes
def M5_takes (N : Nat) (a0 : Int) (μ : mm) : Option mm := (M5_copies N 1 2 μ).bind fun (q1 : mm) => (M5_daysOn N 2 a0 q1).bind fun (q2 : mm) => some q2
-- X5_personThen
def J5_personThen_39 (N : Nat) (x1 : Int) (x2 : Int) (x3 : Int) (x4 : Int) (μ : mm) : Option (Int × mm) := if inR x4 then (if x4 = 0 then ((M5_takes N x2 μ).bind fun (q5 : mm) => if inR x3 then (if 4 ≤ x3 then (if 0 ≤ ((4 + (6 * x1)) + 5) ∧ ((4 + (6 * x1)) + 5) < 52 then (if 0 ≤ ((4 + (6 * x1)) + 5) ∧ ((4 + (6 * x1)) + 5) < 52 then (if inR (q5 2 (((4 + (6 * x1)) + 5)).toNat) ∧ inR (q5 1 (((4 + (6 * x1)) + 5)).toNat) then (if (q5 2 (((4 + (6 * x1)) + 5)).toNat) ≤ (q5 1 (((4 + (6 * x1)) + 5)).toNat) then (some (0, q5)) else (some (1, q5))) else none) else none) else none) else (if 0 ≤ ((4 + (6 * x1)) + (2 + x3)) ∧ ((4 + (6 * x1)) + (2 + x3)) < 52 then (some ((q5 2 (((4 + (6 * x1)) + (2 + x3))).toNat), q5)) else none)) else none) else ((M5_no N x4 μ).bind fun (q13 : (Int × mm)) => some (q13.1, q13.2))) else none
def J5_personThen_19 (N : Nat) (x1 : Int) (x2 : Int) (x3 : Int) (y0 : Int) (μ : mm) : Option (Int × mm) := if inR y0 then (if y0 = 0 then ((M5_isIn N x3 0 4 μ).bind fun (q15 : Int) => if inR q15 then (if q15 = 0 then (J5_personThen_39 N x1 x2 x3 (-2) μ) else (J5_personThen_39 N x1 x2 x3 y0 μ)) else none) else (J5_personThen_39 N x1 x2 x3 y0 μ)) else none
def M5_personThen (N : Nat) (a0 : Int) (a1 : Int) (a2 : Int) (μ : mm) : Option (Int × mm) := (M5_isOne N a0 μ).bind fun (q1 : Int) => if inR q1 then (if q1 = 0 then (J5_personThen_19 N a0 a1 a2 (-1) μ) else ((M5_wrongBy N a1 0 99 μ).bind fun (q19 : Int) => J5_personThen_19 N a0 a1 a2 q19 μ)) else none
-- X5_allThen
def J5_allThen_24 (N : Nat) (x1 : Int) (x2 : Int) (x3 : Int) (μ : mm) : Option (Int × mm) := if inR x3 then (if x3 = 0 then ((M5_takes N x1 μ).bind fun (q4 : mm) => if inR x2 then (if x2 = 0 then ((M5_allOf N 2 4 q4).bind fun (q9 : Int) => some (q9, q4)) else (if inR x2 then (if x2 = 1 then ((M5_allOf N 2 5 q4).bind fun (q7 : Int) => some (q7, q4)) else (some ((q4 2 3), q4))) else none)) else none) else ((M5_no N x3 μ).bind fun (q11 : (Int × mm)) => some (q11.1, q11.2))) else none
def M5_allThen (N : Nat) (a0 : Int) (a1 : Int) (μ : mm) : Option (Int × mm) := (M5_wrongBy N a0 0 99 μ).bind fun (q1 : Int) => if inR q1 then (if q1 = 0 then ((M5_isIn N a1 0 2 μ).bind fun (q13 : Int) => if inR q13 then (if q13 = 0 then (J5_allThen_24 N a0 a1 (-2) μ) else (J5_allThen_24 N a0 a1 q1 μ)) else none) else (J5_allThen_24 N a0 a1 q1 μ)) else none
-- X5_isShortOn
def M5_isShortOn (N : Nat) (a0 : Int) (μ0 : mm) : Option Int := if 0 ≤ ((4 + (6 * a0)) + 3) ∧ ((4 + (6 * a0)) + 3) < 52 then (if inR (μ0 4 (((4 + (6 * a0)) + 3)).toNat) then (if (μ0 4 (((4 + (6 * a0)) + 3)).toNat) = 1 then (if 0 ≤ ((4 + (6 * a0)) + 2) ∧ ((4 + (6 * a0)) + 2) < 52 then ((M5_needs N 4 a0 μ0).bind fun (q4 : Int) => if inR (μ0 4 (((4 + (6 * a0)) + 2)).toNat) ∧ inR q4 then (if q4 ≤ (μ0 4 (((4 + (6 * a0)) + 2)).toNat) then (some 0) else (some 1)) else none) else none) else (some 0)) else none) else none
-- X5_first
def L5_first_55 (N : Nat) (rec29 : Int → Int → mm → Option (Int × mm)) : Nat → Int → Int → Int → mm → Option (Int × mm)
  | 0, _, _, _, _ => none
  | k + 1, x1, x2, x3, μ => if inR x3 ∧ inR (μ 1 0) then (if (μ 1 0) ≤ x3 then (rec29 x1 (x2 + 1) μ) else ((M5_isShortOn N x3 μ).bind fun (q8 : Int) => if inR q8 then (if q8 = 0 then (L5_first_55 N rec29 k x1 x2 (x3 + 1) μ) else (if inR x1 then (if x1 = 0 then (some (x3, μ)) else (some (x2, μ))) else none)) else none)) else none
def L5_first_29 (N : Nat) : Nat → Int → Int → mm → Option (Int × mm)
  | 0, _, _, _ => none
  | k + 1, x1, x2, μ => if inR x2 then (if 99 < x2 then (some ((-9), μ)) else ((M5_copies N 2 4 μ).bind fun (q5 : mm) => (M5_day N 2 q5).bind fun (q6 : mm) => L5_first_55 N (L5_first_29 N k) N x1 x2 0 q6)) else none
def M5_first (N : Nat) (a0 : Int) (μ : mm) : Option (Int × mm) := (M5_isIn N a0 0 1 μ).bind fun (q1 : Int) => if inR q1 then (if q1 = 0 then ((M5_no N (-2) μ).bind fun (q15 : (Int × mm)) => some (q15.1, q15.2)) else ((M5_copies N 1 2 μ).bind fun (q3 : mm) => L5_first_29 N N a0 1 q3)) else none
-- X5_isThroughOn
def M5_isThroughOn (N : Nat) (a0 : Int) (μ0 : mm) : Option Int := if 0 ≤ ((4 + (6 * a0)) + 3) ∧ ((4 + (6 * a0)) + 3) < 52 then (if inR (μ0 4 (((4 + (6 * a0)) + 3)).toNat) then (if (μ0 4 (((4 + (6 * a0)) + 3)).toNat) = 1 then (if 0 ≤ ((4 + (6 * a0)) + 2) ∧ ((4 + (6 * a0)) + 2) < 52 then ((M5_needs N 4 a0 μ0).bind fun (q4 : Int) => if inR (μ0 4 (((4 + (6 * a0)) + 2)).toNat) ∧ inR q4 then (if (μ0 4 (((4 + (6 * a0)) + 2)).toNat) < q4 then (some 0) else (some 1)) else none) else none) else (some 0)) else none) else none
-- X5_lasts
def J5_lasts_77 (N : Nat) (rec29 : Int → Int → Int → mm → Option (Int × mm)) (x1 : Int) (x3 : Int) (y0 : Int) (y1 : Int) (μ : mm) : Option (Int × mm) := bnd (y1 + y0) fun (w11 : Int) => rec29 x1 w11 (x3 + 1) μ
def L5_lasts_29 (N : Nat) : Nat → Int → Int → Int → mm → Option (Int × mm)
  | 0, _, _, _, _ => none
  | k + 1, x1, x2, x3, μ => if inR x3 then (if 99 < x3 then (some (x2, μ)) else ((M5_copies N 2 4 μ).bind fun (q5 : mm) => (M5_day N 2 q5).bind fun (q6 : mm) => (M5_isShortOn N x1 q6).bind fun (q7 : Int) => if inR q7 then (if q7 = 0 then ((M5_isThroughOn N x1 q6).bind fun (q9 : Int) => if inR q9 then (if q9 = 0 then (J5_lasts_77 N (L5_lasts_29 N k) x1 x3 0 x2 q6) else (J5_lasts_77 N (L5_lasts_29 N k) x1 x3 1 x2 q6)) else none) else (some (x2, q6))) else none)) else none
def M5_lasts (N : Nat) (a0 : Int) (μ : mm) : Option (Int × mm) := (M5_isOne N a0 μ).bind fun (q1 : Int) => if inR q1 then (if q1 = 0 then ((M5_no N (-1) μ).bind fun (q15 : (Int × mm)) => some (q15.1, q15.2)) else ((M5_copies N 1 2 μ).bind fun (q3 : mm) => L5_lasts_29 N N a0 0 1 q3)) else none
-- X5_lacks
def L5_lacks_4 (N : Nat) : Nat → Int → Int → mm → Option Int
  | 0, _, _, _ => none
  | k + 1, x1, x2, μ => if inR x2 ∧ inR (μ 1 0) then (if (μ 1 0) ≤ x2 then (some x1) else ((M5_lacksIn N 1 x2 μ).bind fun (q2 : Int) => bnd (x1 + q2) fun (w3 : Int) => L5_lacks_4 N k w3 (x2 + 1) μ)) else none
def M5_lacks (N : Nat)  (μ0 : mm) : Option Int := L5_lacks_4 N N 0 0 μ0
-- X5_next
def J5_next_73 (N : Nat) (rec21 : Int → Int → Int → mm → Option (Int × mm)) (x1 : Int) (x2 : Int) (x3 : Int) (μ : mm) : Option (Int × mm) := rec21 x1 x2 (x3 + 1) μ
def J5_next_71 (N : Nat) (rec21 : Int → Int → Int → mm → Option (Int × mm)) (x1 : Int) (x3 : Int) (μ : mm) : Option (Int × mm) := J5_next_73 N rec21 x1 x3 x3 μ
def L5_next_21 (N : Nat) : Nat → Int → Int → Int → mm → Option (Int × mm)
  | 0, _, _, _, _ => none
  | k + 1, x1, x2, x3, μ => if inR x3 ∧ inR (μ 1 0) then (if (μ 1 0) ≤ x3 then (if inR x2 then (if x2 < 0 then (some (x2, μ)) else (if inR x1 then (if x1 = 0 then (some (x2, μ)) else (if 0 ≤ ((4 + (6 * x2)) + 3) ∧ ((4 + (6 * x2)) + 3) < 52 then (some ((μ 1 (((4 + (6 * x2)) + 3)).toNat), μ)) else none)) else none)) else none) else (if 0 ≤ ((4 + (6 * x3)) + 3) ∧ ((4 + (6 * x3)) + 3) < 52 then (if inR (μ 1 (((4 + (6 * x3)) + 3)).toNat) then (if (μ 1 (((4 + (6 * x3)) + 3)).toNat) ≤ 0 then (J5_next_73 N (L5_next_21 N k) x1 x2 x3 μ) else (if inR x2 then (if x2 < 0 then (J5_next_71 N (L5_next_21 N k) x1 x3 μ) else (if 0 ≤ ((4 + (6 * x3)) + 3) ∧ ((4 + (6 * x3)) + 3) < 52 then (if 0 ≤ ((4 + (6 * x2)) + 3) ∧ ((4 + (6 * x2)) + 3) < 52 then (if inR (μ 1 (((4 + (6 * x3)) + 3)).toNat) ∧ inR (μ 1 (((4 + (6 * x2)) + 3)).toNat) then (if (μ 1 (((4 + (6 * x2)) + 3)).toNat) ≤ (μ 1 (((4 + (6 * x3)) + 3)).toNat) then (J5_next_73 N (L5_next_21 N k) x1 x2 x3 μ) else (J5_next_71 N (L5_next_21 N k) x1 x3 μ)) else none) else none) else none)) else none)) else none) else none)) else none
def M5_next (N : Nat) (a0 : Int) (μ : mm) : Option (Int × mm) := (M5_isIn N a0 0 1 μ).bind fun (q1 : Int) => if inR q1 then (if q1 = 0 then ((M5_no N (-2) μ).bind fun (q19 : (Int × mm)) => some (q19.1, q19.2)) else (L5_next_21 N N a0 (-9) 0 μ)) else none
-- X5_isShortWithin
def L5_isShortWithin_2 (N : Nat) : Nat → Int → Int → Int → mm → Option (Int × mm)
  | 0, _, _, _, _ => none
  | k + 1, x1, x2, x3, μ => if inR x3 ∧ inR x2 then (if x2 ≤ x3 then (some (0, μ)) else ((M5_copies N 2 4 μ).bind fun (q2 : mm) => (M5_day N 2 q2).bind fun (q3 : mm) => (M5_isShortOn N x1 q3).bind fun (q4 : Int) => if inR q4 then (if q4 = 0 then (L5_isShortWithin_2 N k x1 x2 (x3 + 1) q3) else (some (1, q3))) else none)) else none
def M5_isShortWithin (N : Nat) (a0 : Int) (a1 : Int) (μ : mm) : Option (Int × mm) := L5_isShortWithin_2 N N a0 a1 0 μ
-- X5_enough
def L5_enough_33 (N : Nat) : Nat → Int → Int → Int → mm → Option (Int × mm)
  | 0, _, _, _, _ => none
  | k + 1, x1, x2, x4, μ => if inR x4 then (if 100 ≤ x4 then (some ((-9), μ)) else ((M5_copies N 1 2 μ).bind fun (q5 : mm) => if 0 ≤ ((4 + (6 * x1)) + 2) ∧ ((4 + (6 * x1)) + 2) < 52 then (bnd (mu q5 2 (((4 + (6 * x1)) + 2)).toNat x4) fun (μ7 : mm) => (M5_isShortWithin N x1 x2 μ7).bind fun (q8 : (Int × mm)) => if inR q8.1 then (if q8.1 = 0 then (some (x4, q8.2)) else (L5_enough_33 N k x1 x2 (x4 + 1) q8.2)) else none) else none)) else none
def J5_enough_19 (N : Nat) (x1 : Int) (x2 : Int) (y0 : Int) (μ : mm) : Option (Int × mm) := if inR y0 then (if y0 = 0 then (L5_enough_33 N N x1 x2 0 μ) else ((M5_no N y0 μ).bind fun (q12 : (Int × mm)) => some (q12.1, q12.2))) else none
def M5_enough (N : Nat) (a0 : Int) (a1 : Int) (μ : mm) : Option (Int × mm) := (M5_isOne N a0 μ).bind fun (q1 : Int) => if inR q1 then (if q1 = 0 then (J5_enough_19 N a0 a1 (-1) μ) else ((M5_wrongBy N a1 1 60 μ).bind fun (q14 : Int) => J5_enough_19 N a0 a1 q14 μ)) else none
-- X5_lacksOf
def J5_lacksOf_35 (N : Nat) (rec4 : Int → Int → Int → mm → Option Int) (x1 : Int) (x3 : Int) (y0 : Int) (y1 : Int) (μ : mm) : Option Int := bnd (y1 + y0) fun (w4 : Int) => rec4 x1 w4 (x3 + 1) μ
def L5_lacksOf_4 (N : Nat) : Nat → Int → Int → Int → mm → Option Int
  | 0, _, _, _, _ => none
  | k + 1, x1, x2, x3, μ => if inR x3 ∧ inR (μ 1 0) then (if (μ 1 0) ≤ x3 then (some x2) else ((M5_has N x1 x3 μ).bind fun (q2 : Int) => if inR q2 then (if q2 = 0 then (J5_lacksOf_35 N (L5_lacksOf_4 N k) x1 x3 0 x2 μ) else ((M5_lacksIn N 1 x3 μ).bind fun (q5 : Int) => J5_lacksOf_35 N (L5_lacksOf_4 N k) x1 x3 q5 x2 μ)) else none)) else none
def M5_lacksOf (N : Nat) (a0 : Int) (μ0 : mm) : Option Int := L5_lacksOf_4 N N a0 0 0 μ0
-- X5_lacking
def J5_lacking_33 (N : Nat) (rec4 : Int → Int → mm → Option Int) (x2 : Int) (y0 : Int) (y1 : Int) (μ : mm) : Option Int := bnd (zor y1 y0) fun (w4 : Int) => rec4 w4 (x2 + 1) μ
def L5_lacking_4 (N : Nat) : Nat → Int → Int → mm → Option Int
  | 0, _, _, _ => none
  | k + 1, x1, x2, μ => if inR x2 ∧ inR (μ 1 0) then (if (μ 1 0) ≤ x2 then (some x1) else ((M5_lacksIn N 1 x2 μ).bind fun (q2 : Int) => if inR q2 then (if q2 ≤ 0 then (J5_lacking_33 N (L5_lacking_4 N k) x2 0 x1 μ) else (if 0 ≤ x2 ∧ x2 < 32 then (J5_lacking_33 N (L5_lacking_4 N k) x2 (1 * 2 ^ (x2 : Int).toNat) x1 μ) else none)) else none)) else none
def M5_lacking (N : Nat)  (μ0 : mm) : Option Int := L5_lacking_4 N N 0 0 μ0
-- X5_serve
def J5_serve_71 (N : Nat) (rec26 : Int → Int → Int → Int → mm → Option (Int × mm)) (x1 : Int) (x2 : Int) (x3 : Int) (x4 : Int) (μ : mm) : Option (Int × mm) := rec26 x1 x2 x3 (x4 + 1) μ
def L5_serve_26 (N : Nat) : Nat → Int → Int → Int → Int → mm → Option (Int × mm)
  | 0, _, _, _, _, _ => none
  | k + 1, x1, x2, x3, x4, μ => if inR x4 ∧ inR x2 then (if x2 < x4 then (if inR x1 then (if x1 = 0 then ((M5_bits N x3 μ).bind fun (q9 : Int) => some (q9, μ)) else (if inR x1 then (if x1 = 1 then (some (x3, μ)) else ((M5_lacksOf N x3 μ).bind fun (q7 : Int) => some (((μ 1 2) - q7), μ))) else none)) else none) else (if inR (zand x4 (zxor x2 (-1))) then (if (zand x4 (zxor x2 (-1))) = 0 then ((M5_bits N x4 μ).bind fun (q12 : Int) => (M5_bits N x3 μ).bind fun (q13 : Int) => if inR q12 ∧ inR q13 then (if q12 ≤ q13 then (J5_serve_71 N (L5_serve_26 N k) x1 x2 x3 x4 μ) else ((M5_lacksOf N x4 μ).bind fun (q15 : Int) => if inR q15 ∧ inR (μ 1 2) then (if (μ 1 2) < q15 then (J5_serve_71 N (L5_serve_26 N k) x1 x2 x3 x4 μ) else (J5_serve_71 N (L5_serve_26 N k) x1 x2 x4 x4 μ)) else none)) else none) else (J5_serve_71 N (L5_serve_26 N k) x1 x2 x3 x4 μ)) else none)) else none
def M5_serve (N : Nat) (a0 : Int) (μ : mm) : Option (Int × mm) := (M5_isIn N a0 0 2 μ).bind fun (q1 : Int) => if inR q1 then (if q1 = 0 then ((M5_no N (-2) μ).bind fun (q21 : (Int × mm)) => some (q21.1, q21.2)) else ((M5_lacking N μ).bind fun (q3 : Int) => L5_serve_26 N N a0 q3 0 0 μ)) else none
-- X5_signs
def M5_signs (N : Nat) (a0 : Int) (μ : mm) : Option (Int × mm) := (M5_lacksIn N 2 a0 μ).bind fun (q1 : Int) => if inR q1 ∧ inR (μ 2 2) then (if q1 ≤ (μ 2 2) then ((M5_issuesIn N 2 a0 q1 μ).bind fun (q3 : mm) => some (q1, q3)) else (some (0, μ))) else none
-- X5_best
def J5_best_140 (N : Nat) (rec43 : Int → Int → Int → Int → Int → mm → Option (Int × mm)) (x1 : Int) (x2 : Int) (x4 : Int) (x5 : Int) (x6 : Int) (μ : mm) : Option (Int × mm) := rec43 x1 x2 x4 x5 (x6 + 1) μ
def J5_best_106 (N : Nat) (rec43 : Int → Int → Int → Int → Int → mm → Option (Int × mm)) (rec73 : Int → Int → Int → Int → Int → Int → Int → mm → Option (Int × mm)) (x1 : Int) (x2 : Int) (x4 : Int) (x5 : Int) (x6 : Int) (x8 : Int) (y0 : Int) (y1 : Int) (μ : mm) : Option (Int × mm) := bnd (y1 + y0) fun (w15 : Int) => rec73 x1 x2 x4 x5 x6 w15 (x8 + 1) μ
def L5_best_73 (N : Nat) (rec43 : Int → Int → Int → Int → Int → mm → Option (Int × mm)) : Nat → Int → Int → Int → Int → Int → Int → Int → mm → Option (Int × mm)
  | 0, _, _, _, _, _, _, _, _ => none
  | k + 1, x1, x2, x4, x5, x6, x7, x8, μ => if inR x8 ∧ inR (μ 1 0) then (if (μ 1 0) ≤ x8 then ((M5_throughBehind N x1 μ).bind fun (q10 : (Int × mm)) => if inR q10.1 ∧ inR x5 then (if x5 < q10.1 then (J5_best_140 N rec43 x1 x2 x6 q10.1 x6 q10.2) else (J5_best_140 N rec43 x1 x2 x4 x5 x6 q10.2)) else none) else ((M5_has N x6 x8 μ).bind fun (q13 : Int) => if inR q13 then (if q13 = 0 then (J5_best_106 N rec43 (L5_best_73 N rec43 k) x1 x2 x4 x5 x6 x8 0 x7 μ) else ((M5_signs N x8 μ).bind fun (q16 : (Int × mm)) => J5_best_106 N rec43 (L5_best_73 N rec43 k) x1 x2 x4 x5 x6 x8 q16.1 x7 q16.2)) else none)) else none
def L5_best_43 (N : Nat) : Nat → Int → Int → Int → Int → Int → mm → Option (Int × mm)
  | 0, _, _, _, _, _, _ => none
  | k + 1, x1, x2, x4, x5, x6, μ => if 0 ≤ (μ 1 0) ∧ (μ 1 0) < 32 then (if inR x6 ∧ inR (1 * 2 ^ ((μ 1 0) : Int).toNat) then (if (1 * 2 ^ ((μ 1 0) : Int).toNat) ≤ x6 then (if inR x2 then (if x2 = 0 then (some (x5, μ)) else (some (x4, μ))) else none) else ((M5_copies N 1 2 μ).bind fun (q8 : mm) => L5_best_73 N (L5_best_43 N k) N x1 x2 x4 x5 x6 0 0 q8)) else none) else none
def J5_best_24 (N : Nat) (x1 : Int) (x2 : Int) (x3 : Int) (μ : mm) : Option (Int × mm) := if inR x3 then (if x3 = 0 then (L5_best_43 N N x1 x2 0 (-1) 0 μ) else ((M5_no N x3 μ).bind fun (q20 : (Int × mm)) => some (q20.1, q20.2))) else none
def M5_best (N : Nat) (a0 : Int) (a1 : Int) (μ : mm) : Option (Int × mm) := (M5_wrongBy N a0 1 30 μ).bind fun (q1 : Int) => if inR q1 then (if q1 = 0 then ((M5_isIn N a1 0 1 μ).bind fun (q22 : Int) => if inR q22 then (if q22 = 0 then (J5_best_24 N a0 a1 (-2) μ) else (J5_best_24 N a0 a1 q1 μ)) else none) else (J5_best_24 N a0 a1 q1 μ)) else none
-- X5_refusesOne
def J5_refusesOne_59 (N : Nat) (rec2 : Int → mm → Option (Int × mm)) (x1 : Int) (μ : mm) : Option (Int × mm) := rec2 (x1 + 1) μ
def L5_refusesOne_2 (N : Nat) : Nat → Int → mm → Option (Int × mm)
  | 0, _, _ => none
  | k + 1, x1, μ => if inR x1 ∧ inR (μ 2 0) then (if (μ 2 0) ≤ x1 then (some ((-9), μ)) else (if 0 ≤ ((4 + (6 * x1)) + 3) ∧ ((4 + (6 * x1)) + 3) < 52 then (if inR (μ 2 (((4 + (6 * x1)) + 3)).toNat) then (if (μ 2 (((4 + (6 * x1)) + 3)).toNat) = 1 then ((M5_lacksIn N 2 x1 μ).bind fun (q4 : Int) => if inR q4 ∧ inR (μ 2 2) then (if q4 ≤ (μ 2 2) then ((M5_issuesIn N 2 x1 q4 μ).bind fun (q6 : mm) => J5_refusesOne_59 N (L5_refusesOne_2 N k) x1 q6) else (some (x1, μ))) else none) else (J5_refusesOne_59 N (L5_refusesOne_2 N k) x1 μ)) else none) else none)) else none
def M5_refusesOne (N : Nat)  (μ : mm) : Option (Int × mm) := L5_refusesOne_2 N N 0 μ
-- X5_run
def L5_run_29 (N : Nat) : Nat → Int → Int → mm → Option (Int × mm)
  | 0, _, _, _ => none
  | k + 1, x1, x2, μ => if inR x2 then (if 60 < x2 then (some ((-9), μ)) else ((M5_refusesOne N μ).bind fun (q5 : (Int × mm)) => if inR q5.1 then (if q5.1 < 0 then ((M5_day N 2 q5.2).bind fun (q7 : mm) => L5_run_29 N k x1 (x2 + 1) q7) else (if inR x1 then (if x1 = 0 then (some (x2, q5.2)) else (some (q5.1, q5.2))) else none)) else none)) else none
def M5_run (N : Nat) (a0 : Int) (μ : mm) : Option (Int × mm) := (M5_isIn N a0 0 1 μ).bind fun (q1 : Int) => if inR q1 then (if q1 = 0 then ((M5_no N (-2) μ).bind fun (q12 : (Int × mm)) => some (q12.1, q12.2)) else ((M5_copies N 1 2 μ).bind fun (q3 : mm) => L5_run_29 N N a0 0 q3)) else none
-- X5_servesAll
def L5_servesAll_20 (N : Nat) : Nat → Int → Int → mm → Option (Int × mm)
  | 0, _, _, _ => none
  | k + 1, x2, x3, μ => if inR x3 ∧ inR x2 then (if x2 ≤ x3 then (some (1, μ)) else ((M5_refusesOne N μ).bind fun (q4 : (Int × mm)) => if inR q4.1 then (if q4.1 < 0 then ((M5_day N 2 q4.2).bind fun (q6 : mm) => L5_servesAll_20 N k x2 (x3 + 1) q6) else (some (0, q4.2))) else none)) else none
def M5_servesAll (N : Nat) (a0 : Int) (a1 : Int) (μ : mm) : Option (Int × mm) := (M5_copies N 1 2 μ).bind fun (q1 : mm) => bnd (mu q1 2 2 a0) fun (μ2 : mm) => L5_servesAll_20 N N a1 0 μ2
-- X5_stock
def L5_stock_20 (N : Nat) : Nat → Int → Int → mm → Option (Int × mm)
  | 0, _, _, _ => none
  | k + 1, x1, x3, μ => if inR x3 then (if 999 < x3 then (some ((-9), μ)) else ((M5_servesAll N x3 x1 μ).bind fun (q4 : (Int × mm)) => if inR q4.1 then (if q4.1 = 0 then (L5_stock_20 N k x1 (x3 + 1) q4.2) else (some (x3, q4.2))) else none)) else none
def M5_stock (N : Nat) (a0 : Int) (μ : mm) : Option (Int × mm) := (M5_wrongBy N a0 1 30 μ).bind fun (q1 : Int) => if inR q1 then (if q1 = 0 then (L5_stock_20 N N a0 0 μ) else ((M5_no N q1 μ).bind fun (q8 : (Int × mm)) => some (q8.1, q8.2))) else none
-- X5_throughOf
def M5_throughOf (N : Nat) (a0 : Nat) (a1 : Int) (μ0 : mm) : Option Int := if 0 ≤ ((4 + (6 * a1)) + 4) ∧ ((4 + (6 * a1)) + 4) < 52 then (if 0 ≤ ((4 + (6 * a1)) + 4) ∧ ((4 + (6 * a1)) + 4) < 52 then (some ((μ0 a0 (((4 + (6 * a1)) + 4)).toNat) - (μ0 1 (((4 + (6 * a1)) + 4)).toNat))) else none) else none
-- X5_borrow
def J5_borrow_211 (N : Nat) (rec50 : Int → Int → Int → Int → Int → Int → mm → Option (Int × mm)) (x1 : Int) (x2 : Int) (x4 : Int) (x5 : Int) (x6 : Int) (x7 : Int) (μ : mm) : Option (Int × mm) := rec50 x1 x2 x4 x5 x6 (x7 + 1) μ
def L5_borrow_50 (N : Nat) : Nat → Int → Int → Int → Int → Int → Int → mm → Option (Int × mm)
  | 0, _, _, _, _, _, _, _ => none
  | k + 1, x1, x2, x4, x5, x6, x7, μ => if inR x7 ∧ inR (μ 1 0) then (if (μ 1 0) ≤ x7 then (some (x5, μ)) else (if inR x4 then (if x4 ≤ 0 then (some (x5, μ)) else (if inR x7 ∧ inR x1 then (if x7 = x1 then (J5_borrow_211 N (L5_borrow_50 N k) x1 x2 x4 x5 x6 x7 μ) else (if 0 ≤ ((4 + (6 * x7)) + 2) ∧ ((4 + (6 * x7)) + 2) < 52 then (if inR (μ 1 (((4 + (6 * x7)) + 2)).toNat) ∧ inR x4 then (if x4 ≤ (μ 1 (((4 + (6 * x7)) + 2)).toNat) then ((M5_takes N x2 μ).bind fun (q10 : mm) => (M5_throughOf N 2 x1 q10).bind fun (q11 : Int) => (M5_throughOf N 2 x7 q10).bind fun (q12 : Int) => bnd (q11 + q12) fun (w13 : Int) => (M5_copies N 1 2 q10).bind fun (q14 : mm) => if 0 ≤ ((4 + (6 * x7)) + 2) ∧ ((4 + (6 * x7)) + 2) < 52 then (if 0 ≤ ((4 + (6 * x7)) + 2) ∧ ((4 + (6 * x7)) + 2) < 52 then (bnd (mu q14 2 (((4 + (6 * x7)) + 2)).toNat ((q14 2 (((4 + (6 * x7)) + 2)).toNat) - x4)) fun (μ17 : mm) => if 0 ≤ ((4 + (6 * x1)) + 2) ∧ ((4 + (6 * x1)) + 2) < 52 then (if 0 ≤ ((4 + (6 * x1)) + 2) ∧ ((4 + (6 * x1)) + 2) < 52 then (bnd (mu μ17 2 (((4 + (6 * x1)) + 2)).toNat ((μ17 2 (((4 + (6 * x1)) + 2)).toNat) + x4)) fun (μ20 : mm) => (M5_daysOn N 2 x2 μ20).bind fun (q21 : mm) => (M5_throughOf N 2 x1 q21).bind fun (q22 : Int) => (M5_throughOf N 2 x7 q21).bind fun (q23 : Int) => bnd ((q22 + q23) - w13) fun (w24 : Int) => if inR w24 ∧ inR x6 then (if x6 < w24 then (J5_borrow_211 N (L5_borrow_50 N k) x1 x2 x4 x7 w24 x7 q21) else (J5_borrow_211 N (L5_borrow_50 N k) x1 x2 x4 x5 x6 x7 q21)) else none) else none) else none) else none) else none) else (J5_borrow_211 N (L5_borrow_50 N k) x1 x2 x4 x5 x6 x7 μ)) else none) else none)) else none)) else none)) else none
def J5_borrow_19 (N : Nat) (x1 : Int) (x2 : Int) (y0 : Int) (μ : mm) : Option (Int × mm) := if inR y0 then (if y0 = 0 then ((M5_lacksIn N 1 x1 μ).bind fun (q4 : Int) => L5_borrow_50 N N x1 x2 q4 (-9) 0 0 μ) else ((M5_no N y0 μ).bind fun (q31 : (Int × mm)) => some (q31.1, q31.2))) else none
def M5_borrow (N : Nat) (a0 : Int) (a1 : Int) (μ : mm) : Option (Int × mm) := (M5_isOne N a0 μ).bind fun (q1 : Int) => if inR q1 then (if q1 = 0 then (J5_borrow_19 N a0 a1 (-1) μ) else ((M5_wrongBy N a1 1 30 μ).bind fun (q33 : Int) => J5_borrow_19 N a0 a1 q33 μ)) else none
-- X5_sweep
def J5_sweep_147 (N : Nat) (rec60 : Int → Int → Int → Int → Int → Int → mm → Option (Int × mm)) (x1 : Int) (x2 : Int) (x4 : Int) (x5 : Int) (x6 : Int) (x7 : Int) (μ : mm) : Option (Int × mm) := rec60 x1 x2 x4 x5 x6 (x7 + 1) μ
def L5_sweep_60 (N : Nat) : Nat → Int → Int → Int → Int → Int → Int → mm → Option (Int × mm)
  | 0, _, _, _, _, _, _, _ => none
  | k + 1, x1, x2, x4, x5, x6, x7, μ => if inR x7 ∧ inR (μ 1 0) then (if (μ 1 0) ≤ x7 then (if inR x5 then (if x5 < 0 then (some (x5, μ)) else (if inR x2 then (if x2 = 0 then (some (x5, μ)) else (some (x6, μ))) else none)) else none) else (if 0 ≤ ((4 + (6 * x7)) + 2) ∧ ((4 + (6 * x7)) + 2) < 52 then (if inR (μ 1 (((4 + (6 * x7)) + 2)).toNat) then (if (μ 1 (((4 + (6 * x7)) + 2)).toNat) = 0 then (J5_sweep_147 N (L5_sweep_60 N k) x1 x2 x4 x5 x6 x7 μ) else ((M5_copies N 1 2 μ).bind fun (q13 : mm) => (M5_handsIn N 2 x7 q13).bind fun (q14 : mm) => (M5_daysOn N 2 x1 q14).bind fun (q15 : mm) => (M5_allOf N 2 5 q15).bind fun (q16 : Int) => bnd (q16 - x4) fun (w17 : Int) => if inR w17 ∧ inR x6 then (if w17 < x6 then (J5_sweep_147 N (L5_sweep_60 N k) x1 x2 x4 x7 w17 x7 q15) else (J5_sweep_147 N (L5_sweep_60 N k) x1 x2 x4 x5 x6 x7 q15)) else none)) else none) else none)) else none
def J5_sweep_24 (N : Nat) (x1 : Int) (x2 : Int) (x3 : Int) (μ : mm) : Option (Int × mm) := if inR x3 then (if x3 = 0 then ((M5_takes N x1 μ).bind fun (q4 : mm) => (M5_allOf N 2 5 q4).bind fun (q5 : Int) => L5_sweep_60 N N x1 x2 q5 (-9) 1000000000 0 q4) else ((M5_no N x3 μ).bind fun (q22 : (Int × mm)) => some (q22.1, q22.2))) else none
def M5_sweep (N : Nat) (a0 : Int) (a1 : Int) (μ : mm) : Option (Int × mm) := (M5_wrongBy N a0 1 30 μ).bind fun (q1 : Int) => if inR q1 then (if q1 = 0 then ((M5_isIn N a1 0 1 μ).bind fun (q24 : Int) => if inR q24 then (if q24 = 0 then (J5_sweep_24 N a0 a1 (-2) μ) else (J5_sweep_24 N a0 a1 q1 μ)) else none) else (J5_sweep_24 N a0 a1 q1 μ)) else none
-- X5_grain
def J5_grain_116 (N : Nat) (rec42 : Int → Int → Int → Int → mm → Option (Int × mm)) (x1 : Int) (x3 : Int) (x4 : Int) (x5 : Int) (μ : mm) : Option (Int × mm) := rec42 x1 x3 x4 (x5 + 1) μ
def L5_grain_42 (N : Nat) : Nat → Int → Int → Int → Int → mm → Option (Int × mm)
  | 0, _, _, _, _, _ => none
  | k + 1, x1, x3, x4, x5, μ => if inR x5 ∧ inR (μ 1 0) then (if (μ 1 0) ≤ x5 then (some (x4, μ)) else ((M5_copies N 1 2 μ).bind fun (q6 : mm) => if 0 ≤ ((4 + (6 * x5)) + 2) ∧ ((4 + (6 * x5)) + 2) < 52 then ((M5_least N 99 ((q6 2 (((4 + (6 * x5)) + 2)).toNat) + 1) q6).bind fun (q8 : Int) => if 0 ≤ ((4 + (6 * x5)) + 2) ∧ ((4 + (6 * x5)) + 2) < 52 then (bnd (mu q6 2 (((4 + (6 * x5)) + 2)).toNat q8) fun (μ10 : mm) => (M5_throughBehind N x1 μ10).bind fun (q11 : (Int × mm)) => if inR q11.1 ∧ inR x3 then (if x3 < q11.1 then (J5_grain_116 N (L5_grain_42 N k) x1 q11.1 x5 x5 q11.2) else (J5_grain_116 N (L5_grain_42 N k) x1 x3 x4 x5 q11.2)) else none) else none) else none)) else none
def M5_grain (N : Nat) (a0 : Int) (μ : mm) : Option (Int × mm) := (M5_wrongBy N a0 1 30 μ).bind fun (q1 : Int) => if inR q1 then (if q1 = 0 then ((M5_copies N 1 2 μ).bind fun (q3 : mm) => (M5_throughBehind N a0 q3).bind fun (q4 : (Int × mm)) => L5_grain_42 N N a0 q4.1 (-9) 0 q4.2) else ((M5_no N q1 μ).bind fun (q15 : (Int × mm)) => some (q15.1, q15.2))) else none
-- X5_shares
def M5_shares (N : Nat) (a0 : Int) (μ : mm) : Option (Int × mm) := (M5_isIn N a0 0 1 μ).bind fun (q1 : Int) => if inR q1 then (if q1 = 0 then ((M5_no N (-2) μ).bind fun (q12 : (Int × mm)) => some (q12.1, q12.2)) else (bnd (μ 1 0) fun (w3 : Int) => if inR w3 then (if w3 = 0 then (if inR a0 then (if a0 = 0 then (some (0, μ)) else (some ((μ 1 2), μ))) else none) else (if inR a0 then (if a0 = 0 then (if 0 ≤ (μ 1 2) ∧ 0 < w3 ∧ inR (μ 1 2) ∧ inR w3 then (some (((μ 1 2) / w3), μ)) else none) else (if 0 ≤ (μ 1 2) ∧ 0 < w3 ∧ inR (μ 1 2) ∧ inR w3 then (some (((μ 1 2) % w3), μ)) else none)) else none)) else none)) else none
-- X5_richest
def J5_richest_44 (N : Nat) (rec5 : Int → Int → mm → Option Int) (x1 : Int) (x2 : Int) (μ : mm) : Option Int := rec5 x1 (x2 + 1) μ
def J5_richest_42 (N : Nat) (rec5 : Int → Int → mm → Option Int) (x2 : Int) (μ : mm) : Option Int := J5_richest_44 N rec5 x2 x2 μ
def L5_richest_5 (N : Nat) : Nat → Int → Int → mm → Option Int
  | 0, _, _, _ => none
  | k + 1, x1, x2, μ => if inR x2 ∧ inR (μ 1 0) then (if (μ 1 0) ≤ x2 then (some x1) else (if inR x1 then (if x1 < 0 then (J5_richest_42 N (L5_richest_5 N k) x2 μ) else (if 0 ≤ ((4 + (6 * x2)) + 2) ∧ ((4 + (6 * x2)) + 2) < 52 then (if 0 ≤ ((4 + (6 * x1)) + 2) ∧ ((4 + (6 * x1)) + 2) < 52 then (if inR (μ 1 (((4 + (6 * x2)) + 2)).toNat) ∧ inR (μ 1 (((4 + (6 * x1)) + 2)).toNat) then (if (μ 1 (((4 + (6 * x2)) + 2)).toNat) ≤ (μ 1 (((4 + (6 * x1)) + 2)).toNat) then (J5_richest_44 N (L5_richest_5 N k) x1 x2 μ) else (J5_richest_42 N (L5_richest_5 N k) x2 μ)) else none) else none) else none)) else none)) else none
def M5_richest (N : Nat)  (μ0 : mm) : Option Int := L5_richest_5 N N (-9) 0 μ0
-- X5_trusted
def M5_trusted (N : Nat) (a0 : Int) (μ : mm) : Option (Int × mm) := (M5_isOne N a0 μ).bind fun (q1 : Int) => if inR q1 then (if q1 = 0 then ((M5_noFar N (-1) μ).bind fun (q3 : (Int × mm)) => some (q3.1, q3.2)) else (if 0 ≤ ((4 + (6 * a0)) + 4) ∧ ((4 + (6 * a0)) + 4) < 52 then (if 0 ≤ ((4 + (6 * a0)) + 5) ∧ ((4 + (6 * a0)) + 5) < 52 then (some (((μ 1 (((4 + (6 * a0)) + 4)).toNat) - (μ 1 (((4 + (6 * a0)) + 5)).toNat)), μ)) else none) else none)) else none
-- X5_worth
def M5_worth (N : Nat)  (μ0 : mm) : Option Int := (M5_allOf N 1 4 μ0).bind fun (q1 : Int) => (M5_allOf N 1 5 μ0).bind fun (q2 : Int) => some (q1 - q2)
-- X5_ownBy
def J5_ownBy_43 (N : Nat) (x1 : Int) (x2 : Int) (x6 : Int) (x7 : Int) (y0 : Int) (μ : mm) : Option (Int × mm) := (M5_daysOn N 2 x6 μ).bind fun (q4 : mm) => (M5_throughOf N 2 x1 q4).bind fun (q5 : Int) => if inR x1 ∧ inR x2 then (if x1 = x2 then (if 0 ≤ x7 ∧ inR x7 then (some ((q5 - (x7 / 10)), q4)) else none) else (if 0 ≤ y0 ∧ inR y0 then (some ((q5 - (y0 / 10)), q4)) else none)) else none
def J5_ownBy_25 (N : Nat) (x1 : Int) (x2 : Int) (x4 : Int) (x5 : Int) (x6 : Int) (y0 : Int) (μ : mm) : Option (Int × mm) := if inR x5 then (if x5 = 1 then ((M5_signs N x4 μ).bind fun (q10 : (Int × mm)) => J5_ownBy_43 N x1 x2 x6 y0 q10.1 q10.2) else (J5_ownBy_43 N x1 x2 x6 y0 0 μ)) else none
def M5_ownBy (N : Nat) (a0 : Int) (a1 : Int) (a2 : Int) (a3 : Int) (a4 : Int) (a5 : Int) (μ : mm) : Option (Int × mm) := (M5_copies N 1 2 μ).bind fun (q1 : mm) => if inR a2 then (if a2 = 1 then ((M5_signs N a1 q1).bind fun (q12 : (Int × mm)) => J5_ownBy_25 N a0 a1 a3 a4 a5 q12.1 q12.2) else (J5_ownBy_25 N a0 a1 a3 a4 a5 0 q1)) else none
-- X5_two
def J5_two_134 (N : Nat) (rec49 : Int → Int → Int → Int → mm → Option (Int × mm)) (x1 : Int) (x2 : Int) (x3 : Int) (x5 : Int) (μ : mm) : Option (Int × mm) := rec49 x1 x2 x3 (x5 + 1) μ
def L5_two_49 (N : Nat) : Nat → Int → Int → Int → Int → mm → Option (Int × mm)
  | 0, _, _, _, _, _ => none
  | k + 1, x1, x2, x3, x5, μ => if inR x5 then (if 4 ≤ x5 then (some ((-9), μ)) else (if 0 ≤ x5 ∧ inR x5 then (bnd (x5 / 2) fun (w6 : Int) => if 0 ≤ x5 ∧ inR x5 then (bnd (x5 % 2) fun (w8 : Int) => (M5_ownBy N x1 x1 (1 - w6) x2 w8 x3 μ).bind fun (q9 : (Int × mm)) => (M5_ownBy N x1 x1 w6 x2 w8 x3 q9.2).bind fun (q10 : (Int × mm)) => if inR q9.1 ∧ inR q10.1 then (if q10.1 < q9.1 then (J5_two_134 N (L5_two_49 N k) x1 x2 x3 x5 q10.2) else ((M5_ownBy N x2 x1 w6 x2 (1 - w8) x3 q10.2).bind fun (q12 : (Int × mm)) => (M5_ownBy N x2 x1 w6 x2 w8 x3 q12.2).bind fun (q13 : (Int × mm)) => if inR q12.1 ∧ inR q13.1 then (if q13.1 < q12.1 then (J5_two_134 N (L5_two_49 N k) x1 x2 x3 x5 q13.2) else (some (((10 * w6) + w8), q13.2))) else none)) else none) else none) else none)) else none
def J5_two_32 (N : Nat) (x1 : Int) (x2 : Int) (x3 : Int) (y0 : Int) (μ : mm) : Option (Int × mm) := if inR y0 then (if y0 = 0 then (L5_two_49 N N x1 x2 x3 0 μ) else ((M5_no N y0 μ).bind fun (q18 : (Int × mm)) => some (q18.1, q18.2))) else none
def J5_two_31 (N : Nat) (x1 : Int) (x2 : Int) (x3 : Int) (μ : mm) : Option (Int × mm) := J5_two_32 N x1 x2 x3 (-1) μ
def M5_two (N : Nat) (a0 : Int) (a1 : Int) (a2 : Int) (μ : mm) : Option (Int × mm) := (M5_isOne N a0 μ).bind fun (q1 : Int) => if inR q1 then (if q1 = 0 then (J5_two_31 N a0 a1 a2 μ) else ((M5_isOne N a1 μ).bind fun (q20 : Int) => if inR q20 then (if q20 = 0 then (J5_two_31 N a0 a1 a2 μ) else (if inR a0 ∧ inR a1 then (if a0 = a1 then (J5_two_31 N a0 a1 a2 μ) else ((M5_wrongBy N a2 1 30 μ).bind fun (q23 : Int) => J5_two_32 N a0 a1 a2 q23 μ)) else none)) else none)) else none
-- X5_gcd
def L5_gcd_6 (N : Nat) : Nat → Int → Int → mm → Option Int
  | 0, _, _, _ => none
  | k + 1, x4, x6, μ => if inL x6 then (if inR (zcmp x6 0) then (if (zcmp x6 0) = 0 then (some x4) else (if 0 ≤ x4 ∧ 0 < x6 ∧ inL x4 ∧ inL x6 then (bnd (x4 % x6) fun (w4 : Int) => L5_gcd_6 N k x6 w4 μ) else none)) else none) else none
def M5_gcd (N : Nat) (a0 : Int) (a1 : Int) (μ0 : mm) : Option Int := L5_gcd_6 N N a0 a1 μ0
-- X5_partOf
def J5_partOf_20 (N : Nat) (x0 : Int) (x2 : Int) (y0 : Int) (μ : mm) : Option Int := (M5_gcd N x0 x2 μ).bind fun (q4 : Int) => if 0 ≤ y0 ∧ 0 < q4 ∧ inL y0 ∧ inL q4 then (some (y0 / q4)) else none
def M5_partOf (N : Nat) (a0 : Int) (a1 : Int) (a2 : Int) (μ0 : mm) : Option Int := if inL a0 then (if inR (zcmp a0 0) then (if (zcmp a0 0) = 0 then (if inR a2 then (some a2) else none) else (if inR a2 then (if a2 = 0 then (J5_partOf_20 N a0 a1 a0 μ0) else (J5_partOf_20 N a0 a1 a1 μ0)) else none)) else none) else none
-- X5_slip
def J5_slip_28 (N : Nat) (μ : mm) : Option (Int × mm) := (M5_noWide N (-4) μ).bind fun (q4 : (Int × mm)) => some (q4.1, q4.2)
def J5_slip_54 (N : Nat) (μ : mm) : Option (Int × mm) := (M5_noWide N (-6) μ).bind fun (q8 : (Int × mm)) => some (q8.1, q8.2)
def J5_slip_235 (N : Nat) (rec109 : Int → Int → Int → Int → Int → Int → Int → Int → mm → Option (Int × mm)) (x1 : Int) (x2 : Int) (x3 : Int) (x4 : Int) (x5 : Int) (x8 : Int) (x10 : Int) (y0 : Int) (y1 : Int) (μ : mm) : Option (Int × mm) := bnd (y1 + y0) fun (w21 : Int) => rec109 x1 x2 x3 x4 x5 w21 x8 (x10 + 1) μ
def J5_slip_200 (N : Nat) (rec109 : Int → Int → Int → Int → Int → Int → Int → Int → mm → Option (Int × mm)) (rec134 : Int → Int → Int → Int → Int → Int → Int → Int → Int → Int → mm → Option (Int × mm)) (x1 : Int) (x2 : Int) (x3 : Int) (x4 : Int) (x5 : Int) (x6 : Int) (x8 : Int) (x10 : Int) (x11 : Int) (x13 : Int) (μ : mm) : Option (Int × mm) := (M5_day N 2 μ).bind fun (q29 : mm) => rec134 x1 x2 x3 x4 x5 x6 x8 x10 x11 (x13 + 1) q29
def J5_slip_160 (N : Nat) (rec109 : Int → Int → Int → Int → Int → Int → Int → Int → mm → Option (Int × mm)) (rec134 : Int → Int → Int → Int → Int → Int → Int → Int → Int → Int → mm → Option (Int × mm)) (x1 : Int) (x2 : Int) (x3 : Int) (x4 : Int) (x5 : Int) (x6 : Int) (x8 : Int) (x10 : Int) (x13 : Int) (y0 : Int) (y1 : Int) (μ : mm) : Option (Int × mm) := bnd (y1 * y0) fun (w26 : Int) => (M5_has N x10 x13 μ).bind fun (q27 : Int) => if inR q27 then (if q27 = 0 then (J5_slip_200 N rec109 rec134 x1 x2 x3 x4 x5 x6 x8 x10 w26 x13 μ) else (if 0 ≤ ((4 + (6 * x1)) + 2) ∧ ((4 + (6 * x1)) + 2) < 52 then (if inR (μ 2 (((4 + (6 * x1)) + 2)).toNat) then (if (μ 2 (((4 + (6 * x1)) + 2)).toNat) ≤ 0 then (J5_slip_200 N rec109 rec134 x1 x2 x3 x4 x5 x6 x8 x10 w26 x13 μ) else (if 0 ≤ ((4 + (6 * x1)) + 2) ∧ ((4 + (6 * x1)) + 2) < 52 then (if 0 ≤ ((4 + (6 * x1)) + 2) ∧ ((4 + (6 * x1)) + 2) < 52 then (bnd (mu μ 2 (((4 + (6 * x1)) + 2)).toNat ((μ 2 (((4 + (6 * x1)) + 2)).toNat) - 1)) fun (μ34 : mm) => J5_slip_200 N rec109 rec134 x1 x2 x3 x4 x5 x6 x8 x10 w26 x13 μ34) else none) else none)) else none) else none)) else none
def L5_slip_134 (N : Nat) (rec109 : Int → Int → Int → Int → Int → Int → Int → Int → mm → Option (Int × mm)) : Nat → Int → Int → Int → Int → Int → Int → Int → Int → Int → Int → mm → Option (Int × mm)
  | 0, _, _, _, _, _, _, _, _, _, _, _ => none
  | k + 1, x1, x2, x3, x4, x5, x6, x8, x10, x11, x13, μ => if inR x13 ∧ inR x2 then (if x2 ≤ x13 then ((M5_throughOf N 2 x1 μ).bind fun (q19 : Int) => if inR q19 ∧ inR x4 then (if q19 < x4 then (J5_slip_235 N rec109 x1 x2 x3 x4 x5 x8 x10 0 x6 μ) else (J5_slip_235 N rec109 x1 x2 x3 x4 x5 x8 x10 x11 x6 μ)) else none) else ((M5_has N x10 x13 μ).bind fun (q23 : Int) => if inR q23 then (if q23 = 0 then (if inR (x3 - 1) then (J5_slip_160 N rec109 (L5_slip_134 N rec109 k) x1 x2 x3 x4 x5 x6 x8 x10 x13 (x3 - 1) x11 μ) else none) else (J5_slip_160 N rec109 (L5_slip_134 N rec109 k) x1 x2 x3 x4 x5 x6 x8 x10 x13 1 x11 μ)) else none)) else none
def L5_slip_109 (N : Nat) : Nat → Int → Int → Int → Int → Int → Int → Int → Int → mm → Option (Int × mm)
  | 0, _, _, _, _, _, _, _, _, _ => none
  | k + 1, x1, x2, x3, x4, x5, x6, x8, x10, μ => if 0 ≤ x2 ∧ x2 < 32 then (if inR x10 ∧ inR (1 * 2 ^ (x2 : Int).toNat) then (if (1 * 2 ^ (x2 : Int).toNat) ≤ x10 then ((M5_partOf N x6 x8 x5 μ).bind fun (q16 : Int) => some (q16, μ)) else ((M5_copies N 1 2 μ).bind fun (q17 : mm) => L5_slip_134 N (L5_slip_109 N k) N x1 x2 x3 x4 x5 x6 x8 x10 1 0 q17)) else none) else none
def L5_slip_87 (N : Nat) : Nat → Int → Int → Int → Int → Int → Int → Int → Int → mm → Option (Int × mm)
  | 0, _, _, _, _, _, _, _, _, _ => none
  | k + 1, x1, x2, x3, x4, x5, x6, x8, x10, μ => if inR x10 ∧ inR x2 then (if x2 ≤ x10 then (L5_slip_109 N N x1 x2 x3 x4 x5 x6 x8 0 μ) else (if inR x3 then (bnd (x8 * x3) fun (w41 : Int) => L5_slip_87 N k x1 x2 x3 x4 x5 x6 w41 (x10 + 1) μ) else none)) else none
def M5_slip (N : Nat) (a0 : Int) (a1 : Int) (a2 : Int) (a3 : Int) (a4 : Int) (μ : mm) : Option (Int × mm) := (M5_isOne N a0 μ).bind fun (q1 : Int) => if inR q1 then (if q1 = 0 then ((M5_noWide N (-1) μ).bind fun (q51 : (Int × mm)) => some (q51.1, q51.2)) else (if inR a1 then (if a1 < 0 then (J5_slip_28 N μ) else (if inR a3 then (if a3 < 0 then (J5_slip_28 N μ) else (if inR a2 then (if 2 ≤ a2 then (if inR a1 then (if 7 < a1 then (J5_slip_54 N μ) else (if inR a2 then (if 20 < a2 then (J5_slip_54 N μ) else (if inR a3 then (if a3 ≤ 9 then ((M5_isIn N a4 0 1 μ).bind fun (q11 : Int) => if inR q11 then (if q11 = 0 then ((M5_noWide N (-2) μ).bind fun (q43 : (Int × mm)) => some (q43.1, q43.2)) else (L5_slip_87 N N a0 a1 a2 a3 a4 0 1 0 μ)) else none) else (J5_slip_54 N μ)) else none)) else none)) else none) else (J5_slip_28 N μ)) else none)) else none)) else none)) else none
-- X5_mean
def M5_mean (N : Nat) (a0 : Int) (μ : mm) : Option (Int × mm) := (M5_isIn N a0 0 1 μ).bind fun (q1 : Int) => if inR q1 then (if q1 = 0 then ((M5_noWide N (-2) μ).bind fun (q3 : (Int × mm)) => some (q3.1, q3.2)) else ((M5_allOf N 1 2 μ).bind fun (q4 : Int) => if inR q4 then (if inR (μ 1 0) then ((M5_partOf N q4 (μ 1 0) a0 μ).bind fun (q7 : Int) => some (q7, μ)) else none) else none)) else none
-- X5_whatIs
def J5_whatIs_146 (N : Nat) (rec35 : Int → Int → Int → Int → mm → Option (Int × mm)) (x1 : Int) (x2 : Int) (x4 : Int) (y0 : Int) (y1 : Int) (μ : mm) : Option (Int × mm) := bnd (zor y1 y0) fun (w12 : Int) => rec35 x1 x2 w12 (x4 + 1) μ
def J5_whatIs_116 (N : Nat) (rec35 : Int → Int → Int → Int → mm → Option (Int × mm)) (rec80 : Int → Int → Int → Int → Int → Int → mm → Option (Int × mm)) (x1 : Int) (x2 : Int) (x3 : Int) (x4 : Int) (x6 : Int) (y0 : Int) (y1 : Int) (μ : mm) : Option (Int × mm) := bnd (zand y1 y0) fun (w18 : Int) => (M5_day N 2 μ).bind fun (q19 : mm) => rec80 x1 x2 x3 x4 w18 (x6 + 1) q19
def L5_whatIs_80 (N : Nat) (rec35 : Int → Int → Int → Int → mm → Option (Int × mm)) : Nat → Int → Int → Int → Int → Int → Int → mm → Option (Int × mm)
  | 0, _, _, _, _, _, _, _ => none
  | k + 1, x1, x2, x3, x4, x5, x6, μ => if inR x6 ∧ inR (μ 0 9) then (if (μ 0 9) ≤ x6 then (if inR x5 then (if x5 = 0 then (J5_whatIs_146 N rec35 x1 x2 x4 0 x3 μ) else (if 0 ≤ x4 ∧ x4 < 32 then (J5_whatIs_146 N rec35 x1 x2 x4 (1 * 2 ^ (x4 : Int).toNat) x3 μ) else none)) else none) else (if 0 ≤ ((4 + (6 * x1)) + 2) ∧ ((4 + (6 * x1)) + 2) < 52 then (if 0 ≤ x6 ∧ x6 < 16 then (if inR (μ 2 (((4 + (6 * x1)) + 2)).toNat) ∧ inR (μ 6 (x6).toNat) then (if (μ 2 (((4 + (6 * x1)) + 2)).toNat) = (μ 6 (x6).toNat) then (J5_whatIs_116 N rec35 (L5_whatIs_80 N rec35 k) x1 x2 x3 x4 x6 1 x5 μ) else (J5_whatIs_116 N rec35 (L5_whatIs_80 N rec35 k) x1 x2 x3 x4 x6 0 x5 μ)) else none) else none) else none)) else none
def J5_whatIs_48 (N : Nat) (rec35 : Int → Int → Int → Int → mm → Option (Int × mm)) (x1 : Int) (x2 : Int) (x3 : Int) (x4 : Int) (y0 : Int) (y1 : Int) (μ : mm) : Option (Int × mm) := if inR y1 ∧ inR y0 then (if y0 ≤ y1 then (some (x3, μ)) else ((M5_copies N 1 2 μ).bind fun (q7 : mm) => if 0 ≤ ((4 + (6 * x1)) + x2) ∧ ((4 + (6 * x1)) + x2) < 52 then (bnd (mu q7 2 (((4 + (6 * x1)) + x2)).toNat x4) fun (μ9 : mm) => L5_whatIs_80 N rec35 N x1 x2 x3 x4 1 0 μ9) else none)) else none
def L5_whatIs_35 (N : Nat) : Nat → Int → Int → Int → Int → mm → Option (Int × mm)
  | 0, _, _, _, _, _ => none
  | k + 1, x1, x2, x3, x4, μ => if inR x2 then (if x2 = 0 then (J5_whatIs_48 N (L5_whatIs_35 N k) x1 x2 x3 x4 6 x4 μ) else (J5_whatIs_48 N (L5_whatIs_35 N k) x1 x2 x3 x4 10 x4 μ)) else none
def M5_whatIs (N : Nat) (a0 : Int) (a1 : Int) (μ : mm) : Option (Int × mm) := (M5_isOne N a0 μ).bind fun (q1 : Int) => if inR q1 then (if q1 = 0 then ((M5_no N (-1) μ).bind fun (q26 : (Int × mm)) => some (q26.1, q26.2)) else ((M5_isIn N a1 0 1 μ).bind fun (q3 : Int) => if inR q3 then (if q3 = 0 then ((M5_no N (-2) μ).bind fun (q24 : (Int × mm)) => some (q24.1, q24.2)) else (L5_whatIs_35 N N a0 a1 0 0 μ)) else none)) else none
-- X5_row
def J5_row_24 (N : Nat) (x1 : Int) (x2 : Int) (μ : mm) : Option (Int × mm) := if inR x2 then (if x2 = 0 then (if 0 ≤ (μ 0 9) ∧ (μ 0 9) < 16 then (bnd (mu μ 6 ((μ 0 9)).toNat x1) fun (μ5 : mm) => bnd (mu μ5 0 9 ((μ5 0 9) + 1)) fun (μ6 : mm) => some ((μ6 0 9), μ6)) else none) else ((M5_no N x2 μ).bind fun (q7 : (Int × mm)) => some (q7.1, q7.2))) else none
def M5_row (N : Nat) (a0 : Int) (μ : mm) : Option (Int × mm) := (M5_wrongBy N a0 0 99 μ).bind fun (q1 : Int) => if inR q1 then (if q1 = 0 then (if inR (μ 0 9) then (if (μ 0 9) = 16 then (J5_row_24 N a0 (-6) μ) else (J5_row_24 N a0 q1 μ)) else none) else (J5_row_24 N a0 q1 μ)) else none
-- X5_judge
def L5_judge_12 (N : Nat) : Nat → Int → Int → mm → Option (Int × mm)
  | 0, _, _, _ => none
  | k + 1, x1, x2, μ => if inR x2 ∧ inR x1 then (if x1 ≤ x2 then (some ((-9), μ)) else ((M5_isOne N x2 μ).bind fun (q4 : Int) => if inR q4 then (if q4 = 0 then (some (x2, μ)) else (if 0 ≤ ((4 + (6 * x2)) + 3) ∧ ((4 + (6 * x2)) + 3) < 52 then (if 0 ≤ x2 ∧ x2 < 16 then (if inR (μ 1 (((4 + (6 * x2)) + 3)).toNat) ∧ inR (μ 6 (x2).toNat) then (if (μ 1 (((4 + (6 * x2)) + 3)).toNat) = (μ 6 (x2).toNat) then (L5_judge_12 N k x1 (x2 + 1) μ) else (some (x2, μ))) else none) else none) else none)) else none)) else none
def M5_judge (N : Nat)  (μ : mm) : Option (Int × mm) := bnd (μ 0 9) fun (w1 : Int) => bnd (mu μ 0 9 0) fun (μ2 : mm) => L5_judge_12 N N w1 0 μ2
-- X5_clear
def M5_clear (N : Nat)  (μ : mm) : Option (Int × mm) := bnd (μ 0 9) fun (w1 : Int) => bnd (mu μ 0 9 0) fun (μ2 : mm) => some (w1, μ2)
-- X5_drawn
def M5_drawn (N : Nat) (a0 : Int) (μ : mm) : Option (Int × mm) := bnd (mu μ 0 12 (((μ 0 12) * 1664525) + 1013904223)) fun (μ1 : mm) => if 0 ≤ ((μ1 0 12) % 2147483648) ∧ inR ((μ1 0 12) % 2147483648) then (if 0 ≤ (((μ1 0 12) % 2147483648) / 256) ∧ 0 < a0 ∧ inR (((μ1 0 12) % 2147483648) / 256) ∧ inR a0 then (some (((((μ1 0 12) % 2147483648) / 256) % a0), μ1)) else none) else none
-- X5_lots
def J5_lots_146 (N : Nat) (rec52 : Int → Int → Int → Int → mm → Option (Int × mm)) (x1 : Int) (x3 : Int) (x5 : Int) (y0 : Int) (y2 : Int) (y3 : Int) (μ : mm) : Option (Int × mm) := (M5_allOf N 1 y0 μ).bind fun (q13 : Int) => bnd (y3 + (y2 - q13)) fun (w14 : Int) => rec52 x1 x3 w14 (x5 + 1) μ
def J5_lots_130 (N : Nat) (rec52 : Int → Int → Int → Int → mm → Option (Int × mm)) (x1 : Int) (x3 : Int) (x5 : Int) (y0 : Int) (y2 : Int) (μ : mm) : Option (Int × mm) := (M5_allOf N 2 y0 μ).bind fun (q11 : Int) => if inR x3 then (if x3 = 0 then (J5_lots_146 N rec52 x1 x3 x5 4 q11 y2 μ) else (J5_lots_146 N rec52 x1 x3 x5 5 q11 y2 μ)) else none
def L5_lots_72 (N : Nat) (rec52 : Int → Int → Int → Int → mm → Option (Int × mm)) : Nat → Int → Int → Int → Int → Int → mm → Option (Int × mm)
  | 0, _, _, _, _, _, _ => none
  | k + 1, x1, x3, x4, x5, x6, μ => if inR x6 ∧ inR (μ 1 0) then (if (μ 1 0) ≤ x6 then ((M5_daysOn N 2 20 μ).bind fun (q9 : mm) => if inR x3 then (if x3 = 0 then (J5_lots_130 N rec52 x1 x3 x5 4 x4 q9) else (J5_lots_130 N rec52 x1 x3 x5 5 x4 q9)) else none) else ((M5_drawn N 30 μ).bind fun (q17 : (Int × mm)) => if 0 ≤ ((4 + (6 * x6)) + 2) ∧ ((4 + (6 * x6)) + 2) < 52 then (bnd (mu q17.2 2 (((4 + (6 * x6)) + 2)).toNat q17.1) fun (μ19 : mm) => L5_lots_72 N rec52 k x1 x3 x4 x5 (x6 + 1) μ19) else none)) else none
def L5_lots_52 (N : Nat) : Nat → Int → Int → Int → Int → mm → Option (Int × mm)
  | 0, _, _, _, _, _ => none
  | k + 1, x1, x3, x4, x5, μ => if inR x5 ∧ inR x1 then (if x1 ≤ x5 then (some (x4, μ)) else ((M5_copies N 1 2 μ).bind fun (q7 : mm) => L5_lots_72 N (L5_lots_52 N k) N x1 x3 x4 x5 0 q7)) else none
def M5_lots (N : Nat) (a0 : Int) (a1 : Int) (a2 : Int) (μ : mm) : Option (Int × mm) := if inR a0 then (if 1 ≤ a0 then (if inR a0 then (if a0 ≤ 20 then ((M5_isIn N a2 0 1 μ).bind fun (q3 : Int) => if inR q3 then (if q3 = 0 then ((M5_no N (-2) μ).bind fun (q22 : (Int × mm)) => some (q22.1, q22.2)) else (bnd (mu μ 0 12 a1) fun (μ5 : mm) => L5_lots_52 N N a0 a2 0 0 μ5)) else none) else ((M5_no N (-6) μ).bind fun (q24 : (Int × mm)) => some (q24.1, q24.2))) else none) else ((M5_no N (-4) μ).bind fun (q26 : (Int × mm)) => some (q26.1, q26.2))) else none
-- X5_image
def M5_image (N : Nat)  (μ : mm) : Option (Int × mm) := (M5_copies N 1 3 μ).bind fun (q1 : mm) => bnd (mu q1 0 4 1) fun (μ2 : mm) => some ((μ2 1 1), μ2)
-- X5_on
def M5_on (N : Nat)  (μ : mm) : Option (Int × mm) := if inR (μ 0 4) then (if (μ 0 4) = 0 then ((M5_no N (-3) μ).bind fun (q3 : (Int × mm)) => some (q3.1, q3.2)) else ((M5_copies N 3 1 μ).bind fun (q2 : mm) => some ((q2 1 1), q2))) else none
-- X5_count
def J5_count_119 (N : Nat) (rec90 : Int → Int → mm → Option Int) (x3 : Int) (y0 : Int) (y1 : Int) (μ : mm) : Option Int := bnd (y1 + y0) fun (w17 : Int) => rec90 w17 (x3 + 1) μ
def L5_count_90 (N : Nat) : Nat → Int → Int → mm → Option Int
  | 0, _, _, _ => none
  | k + 1, x2, x3, μ => if inR x3 ∧ inR (μ 1 0) then (if (μ 1 0) ≤ x3 then (some x2) else (if 0 ≤ ((4 + (6 * x3)) + 3) ∧ ((4 + (6 * x3)) + 3) < 52 then (if inR (μ 1 (((4 + (6 * x3)) + 3)).toNat) then (if (μ 1 (((4 + (6 * x3)) + 3)).toNat) ≤ 0 then (J5_count_119 N (L5_count_90 N k) x3 0 x2 μ) else (J5_count_119 N (L5_count_90 N k) x3 1 x2 μ)) else none) else none)) else none
def M5_count (N : Nat) (a0 : Int) (μ0 : mm) : Option Int := (M5_isIn N a0 11 16 μ0).bind fun (q1 : Int) => if inR q1 then (if q1 = 0 then (if inR a0 then (if a0 = 0 then (if 0 ≤ a0 ∧ a0 < 52 then (some (μ0 1 (a0).toNat)) else none) else (if a0 = 1 then (if 0 ≤ a0 ∧ a0 < 52 then (some (μ0 1 (a0).toNat)) else none) else (if a0 = 2 then (if 0 ≤ a0 ∧ a0 < 52 then (some (μ0 1 (a0).toNat)) else none) else (if a0 = 3 then (if 0 ≤ a0 ∧ a0 < 52 then (some (μ0 1 (a0).toNat)) else none) else (if a0 = 4 then ((M5_allOf N 1 2 μ0).bind fun (q12 : Int) => some q12) else (if a0 = 5 then (L5_count_90 N N 0 0 μ0) else (if a0 = 6 then (some (μ0 0 9)) else (if a0 = 7 then (some (μ0 0 8)) else (some (-9)))))))))) else none) else (if 0 ≤ (a0 - 10) ∧ (a0 - 10) < 7 then (some (μ0 7 ((a0 - 10)).toNat)) else none)) else none
