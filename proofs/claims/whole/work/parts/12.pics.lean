/-! THE PICTURES: what each method of the class and of the reference answers and makes of the store; written by wip/gen/gen2.py out of the abstract code of part 02 -/
def hy_fu : Nat := 4000
/-- HayBoard.isWithin(III)Z -/
def J3 (a0 : Int32) (a1 : Int32) (a2 : Int32) (σ : Sg) : Option (Int32 × Sg) :=
  if a0 < a1 then (some ((0 : Int32), σ)) else (if a2 < a0 then (some ((0 : Int32), σ)) else (some ((1 : Int32), σ)))
/-- HayBoard.isKind(I)Z -/
def J2 (a0 : Int32) (σ : Sg) : Option (Int32 × Sg) :=
  (J3 a0 (0 : Int32) (5 : Int32) σ).bind fun p1 => if p1.1 = 0 ∨ p1.1 = 1 then some (p1.1, p1.2) else none
/-- HayBoard.isFarm(I)Z -/
def J4 (a0 : Int32) (σ : Sg) : Option (Int32 × Sg) :=
  (J3 a0 (0 : Int32) (1 : Int32) σ).bind fun p1 => if p1.1 = 0 ∨ p1.1 = 1 then some (p1.1, p1.2) else none
/-- HayBoard.isPlace(I)Z -/
def J5 (a0 : Int32) (σ : Sg) : Option (Int32 × Sg) :=
  if a0 < 0 then (some ((0 : Int32), σ)) else (if (36 : Int32) ≤ a0 then (some ((0 : Int32), σ)) else (some ((1 : Int32), σ)))
/-- HayBoard.isHay(I)Z -/
def J6 (a0 : Int32) (σ : Sg) : Option (Int32 × Sg) :=
  (J3 a0 (1 : Int32) (99 : Int32) σ).bind fun p1 => if p1.1 = 0 ∨ p1.1 = 1 then some (p1.1, p1.2) else none
/-- Common.isOn(I)Z -/
def J9 (o : Nat) (a0 : Int32) (σ : Sg) : Option (Int32 × Sg) :=
  if hy_ib a0 12 then (J5 (σ ((o + 7) + hy_ix a0) 2) σ).bind fun p1 => if p1.1 = 0 ∨ p1.1 = 1 then some (p1.1, p1.2) else none else none
def J8_1   (o : Nat) (x1 : Int32) (x2 : Int32) (σ : Sg) : Option (Sg) :=
  if hy_ib x1 12 then (J5 x2 (hy_up σ ((o + 7) + hy_ix x1) 2 x2)).bind fun p1 => if p1.1 = 0 then (some p1.2) else (if hy_ib x2 36 then some (hy_up p1.2 (o + 2) (hy_ix x2) x1) else none) else none
/-- Common.puts(II)V -/
def J8 (o : Nat) (a0 : Int32) (a1 : Int32) (σ : Sg) : Option (Sg) :=
  (J9 o a0 σ).bind fun p2 => if p2.1 = 0 then (J8_1  o a0 a1 p2.2) else (if hy_ib a0 12 then if hy_ib (p2.2 ((o + 7) + hy_ix a0) 2) 36 then J8_1  o a0 a1 (hy_up p2.2 (o + 2) (hy_ix (p2.2 ((o + 7) + hy_ix a0) 2)) (-1000000005 : Int32)) else none else none)
/-- Common.adds(IIII)I -/
def J7 (o : Nat) (a0 : Int32) (a1 : Int32) (a2 : Int32) (a3 : Int32) (σ : Sg) : Option (Int32 × Sg) :=
  if hy_ib (σ o 7) 12 then (J8 o (σ o 7) a2 (hy_up (hy_up (hy_up (hy_up (hy_up (hy_up σ ((o + 7) + hy_ix (σ o 7)) 0 a0) ((o + 7) + hy_ix (σ o 7)) 1 a1) ((o + 7) + hy_ix (σ o 7)) 3 a3) ((o + 7) + hy_ix (σ o 7)) 4 (0 : Int32)) ((o + 7) + hy_ix (σ o 7)) 5 (0 : Int32)) ((o + 7) + hy_ix (σ o 7)) 2 (36 : Int32))).bind fun σ1 => some ((σ o 7), (hy_up σ1 o 7 ((σ1 o 7) + (1 : Int32)))) else none
/-- HayBoard.bale(IIII)I -/
def J1 (a0 : Int32) (a1 : Int32) (a2 : Int32) (a3 : Int32) (σ : Sg) : Option (Int32 × Sg) :=
  (J2 a0 σ).bind fun p1 => if p1.1 = 0 then (some ((-1000000001 : Int32), p1.2)) else ((J4 a1 p1.2).bind fun p2 => if p2.1 = 0 then (some ((-1000000001 : Int32), p2.2)) else ((J5 a2 p2.2).bind fun p3 => if p3.1 = 0 then (some ((-1000000001 : Int32), p3.2)) else ((J6 a3 p3.2).bind fun p4 => if p4.1 = 0 then (some ((-1000000001 : Int32), p4.2)) else (if hy_ib a2 36 then if (p4.2 83 (hy_ix a2)) = (-1000000005 : Int32) then (if (p4.2 81 7) < (12 : Int32) then ((J7 81 a0 a1 a2 a3 p4.2).bind fun p5 => some (p5.1, p5.2)) else (some ((-1000000003 : Int32), p4.2))) else (some ((-1000000002 : Int32), p4.2)) else none))))
/-- Common.has(I)Z -/
def J11 (o : Nat) (a0 : Int32) (σ : Sg) : Option (Int32 × Sg) :=
  (J3 a0 (0 : Int32) ((σ o 7) - (1 : Int32)) σ).bind fun p1 => if p1.1 = 0 ∨ p1.1 = 1 then some (p1.1, p1.2) else none
/-- HayBoard.isText(I)Z -/
def J13 (a0 : Int32) (σ : Sg) : Option (Int32 × Sg) :=
  (J3 a0 (0 : Int32) (13 : Int32) σ).bind fun p1 => if p1.1 = 0 ∨ p1.1 = 1 then some (p1.1, p1.2) else none
/-- Law.workOut(III)I -/
def J15 (a0 : Int32) (a1 : Int32) (a2 : Int32) (σ : Sg) : Option (Int32 × Sg) :=
  hy_sw a0 [((38 : Int32), if a1 = 0 then (some ((0 : Int32), σ)) else (if a2 = 0 then (some ((0 : Int32), σ)) else (some ((1 : Int32), σ)))), ((42 : Int32), some ((a1 * a2), σ)), ((43 : Int32), some ((a1 + a2), σ)), ((45 : Int32), some ((a1 - a2), σ)), ((60 : Int32), if a2 ≤ a1 then (some ((0 : Int32), σ)) else (some ((1 : Int32), σ))), ((61 : Int32), if a1 = a2 then (some ((1 : Int32), σ)) else (some ((0 : Int32), σ))), ((62 : Int32), if a1 ≤ a2 then (some ((0 : Int32), σ)) else (some ((1 : Int32), σ))), ((124 : Int32), if a1 = 0 then (if a2 = 0 then (some ((0 : Int32), σ)) else (some ((1 : Int32), σ))) else (some ((1 : Int32), σ)))] (if a2 = 0 then (some ((0 : Int32), σ)) else (if a2 = 0 then none else some ((a1 / a2), σ)))
def J14_10 (k1 : Nat → Int32 → Int32 → Int32 → Int32 → Int32 → Sg → Option (Int32 × Sg))  (o : Nat) (x1 : Int32) (x2 : Int32) (x3 : Int32) (x4 : Int32) (x5 : Int32) (x6 : Int32) (σ : Sg) : Option (Int32 × Sg) :=
  k1 o x1 x2 x3 x4 (x5 + (1 : Int32)) σ
def J14_8 (k1 : Nat → Int32 → Int32 → Int32 → Int32 → Int32 → Sg → Option (Int32 × Sg)) (x100 : Int32) (x101 : Int32) (r102 : Nat) (o : Nat) (x1 : Int32) (x2 : Int32) (x3 : Int32) (x4 : Int32) (x5 : Int32) (x6 : Int32) (σ : Sg) : Option (Int32 × Sg) :=
  if hy_ib x101 96 then J14_10 (k1) o x1 x2 x3 x4 x5 x6 (hy_up σ r102 (hy_ix x101) x100) else none
def J14_5 (k1 : Nat → Int32 → Int32 → Int32 → Int32 → Int32 → Sg → Option (Int32 × Sg)) (x100 : Int32) (x101 : Int32) (r102 : Nat) (o : Nat) (x1 : Int32) (x2 : Int32) (x3 : Int32) (x4 : Int32) (x5 : Int32) (x6 : Int32) (σ : Sg) : Option (Int32 × Sg) :=
  if hy_ib x101 96 then J14_10 (k1) o x1 x2 x3 (x4 + (1 : Int32)) x5 x6 (hy_up σ r102 (hy_ix x101) x100) else none
def J14_1  : Nat → Nat → Int32 → Int32 → Int32 → Int32 → Int32 → Sg → Option (Int32 × Sg)
  | 0, _, _, _, _, _, _, _ => none
  | n + 1, o, x1, x2, x3, x4, x5, σ => if (σ o 2) ≤ x5 then (some ((σ (o + 2) 0), σ)) else (if hy_ib x5 96 then if (σ (o + 1) (hy_ix x5)) < (-3 : Int32) then (if (σ (o + 1) (hy_ix x5)) = (-33 : Int32) then (if x4 ≤ 0 then (J14_10 (J14_1  n) o x1 x2 x3 x4 x5 (σ (o + 1) (hy_ix x5)) σ) else (if hy_ib (x4 - (1 : Int32)) 96 then if (σ (o + 2) (hy_ix (x4 - (1 : Int32)))) = 0 then (J14_8 (J14_1  n) (1 : Int32) (x4 - (1 : Int32)) (o + 2) o x1 x2 x3 x4 x5 (σ (o + 1) (hy_ix x5)) σ) else (J14_8 (J14_1  n) (0 : Int32) (x4 - (1 : Int32)) (o + 2) o x1 x2 x3 x4 x5 (σ (o + 1) (hy_ix x5)) σ) else none)) else (if x4 ≤ (1 : Int32) then (J14_10 (J14_1  n) o x1 x2 x3 x4 x5 (σ (o + 1) (hy_ix x5)) σ) else (if hy_ib ((x4 + (-1 : Int32)) - (1 : Int32)) 96 then if hy_ib (x4 + (-1 : Int32)) 96 then (J15 ((-(σ (o + 1) (hy_ix x5)))) (σ (o + 2) (hy_ix ((x4 + (-1 : Int32)) - (1 : Int32)))) (σ (o + 2) (hy_ix (x4 + (-1 : Int32)))) σ).bind fun p1 => if hy_ib ((x4 + (-1 : Int32)) - (1 : Int32)) 96 then J14_10 (J14_1  n) o x1 x2 x3 (x4 + (-1 : Int32)) x5 (σ (o + 1) (hy_ix x5)) (hy_up p1.2 (o + 2) (hy_ix ((x4 + (-1 : Int32)) - (1 : Int32))) p1.1) else none else none else none))) else (if (σ (o + 1) (hy_ix x5)) < 0 then (if (σ (o + 1) (hy_ix x5)) = (-1 : Int32) then (J14_5 (J14_1  n) x1 x4 (o + 2) o x1 x2 x3 x4 x5 (σ (o + 1) (hy_ix x5)) σ) else (if (σ (o + 1) (hy_ix x5)) = (-2 : Int32) then (J14_5 (J14_1  n) x2 x4 (o + 2) o x1 x2 x3 x4 x5 (σ (o + 1) (hy_ix x5)) σ) else (J14_5 (J14_1  n) x3 x4 (o + 2) o x1 x2 x3 x4 x5 (σ (o + 1) (hy_ix x5)) σ))) else (J14_5 (J14_1  n) (σ (o + 1) (hy_ix x5)) x4 (o + 2) o x1 x2 x3 x4 x5 (σ (o + 1) (hy_ix x5)) σ)) else none)
/-- Law.gives(III)I -/
def J14 (o : Nat) (a0 : Int32) (a1 : Int32) (a2 : Int32) (σ : Sg) : Option (Int32 × Sg) :=
  J14_1  hy_fu o a0 a1 a2 (0 : Int32) (0 : Int32) σ
/-- HayBoard.held(III)I -/
def J16 (a0 : Int32) (a1 : Int32) (a2 : Int32) (σ : Sg) : Option (Int32 × Sg) :=
  some ((if a1 < (if a2 < a0 then a2 else a0) then (if a2 < a0 then a2 else a0) else a1), σ)
def J12_2  (x100 : Int32) (x1 : Int32) (σ : Sg) : Option (Int32 × Sg) :=
  hy_sw x1 [((1 : Int32), some ((x100 + (9 : Int32)), σ)), ((2 : Int32), some ((if (999 : Int32) < ((2 : Int32) * x100) then (999 : Int32) else ((2 : Int32) * x100)), σ)), ((3 : Int32), some ((((x100 + (9 : Int32)) + (20 : Int32)) / (2 : Int32)), σ)), ((4 : Int32), some ((if ((if (999 : Int32) < ((2 : Int32) * x100) then (999 : Int32) else ((2 : Int32) * x100)) - (5 : Int32)) < (0 : Int32) then (0 : Int32) else ((if (999 : Int32) < ((2 : Int32) * x100) then (999 : Int32) else ((2 : Int32) * x100)) - (5 : Int32))), σ)), ((5 : Int32), some ((1 : Int32), σ))] (some (x100, σ))
/-- Common.valueWith(IIII)I -/
def J12 (o : Nat) (a0 : Int32) (a1 : Int32) (a2 : Int32) (a3 : Int32) (σ : Sg) : Option (Int32 × Sg) :=
  (J13 (σ (o + 3) 0) σ).bind fun p1 => if p1.1 = 0 then (J12_2  a1 a0 p1.2) else (if hy_ib (σ (o + 3) 0) 14 then (J14 (11 + 3 * hy_ix (σ (o + 3) 0)) a1 a2 a3 p1.2).bind fun p2 => (J16 p2.1 (0 : Int32) (999 : Int32) p2.2).bind fun p3 => J12_2  p3.1 a0 p3.2 else none)
/-- Bale.eaten()I -/
def J17 (o : Nat) (σ : Sg) : Option (Int32 × Sg) :=
  hy_sw (σ o 0) [((2 : Int32), some ((3 : Int32), σ)), ((3 : Int32), some ((5 : Int32), σ)), ((4 : Int32), some ((4 : Int32), σ)), ((5 : Int32), some ((0 : Int32), σ))] (some ((5 : Int32), σ))
/-- Bale.worth()I -/
def J18 (o : Nat) (σ : Sg) : Option (Int32 × Sg) :=
  hy_sw (σ o 0) [((1 : Int32), some (((σ o 3) + (4 : Int32)), σ)), ((2 : Int32), some (((99 : Int32) - (σ o 3)), σ)), ((3 : Int32), some (((2 : Int32) * ((σ o 3) + (4 : Int32))), σ)), ((4 : Int32), some ((((99 : Int32) - (σ o 3)) - (7 : Int32)), σ)), ((5 : Int32), some ((2 : Int32), σ))] (some ((σ o 3), σ))
/-- HayBoard.told(II)I -/
def J10 (a0 : Int32) (a1 : Int32) (σ : Sg) : Option (Int32 × Sg) :=
  (J11 81 a0 σ).bind fun p1 => if p1.1 = 0 then (some ((-1000000001 : Int32), p1.2)) else (if hy_ib a0 12 then hy_sw a1 [((0 : Int32), some ((p1.2 (88 + hy_ix a0) 0), p1.2)), ((1 : Int32), some ((p1.2 (88 + hy_ix a0) 1), p1.2)), ((2 : Int32), some ((p1.2 (88 + hy_ix a0) 2), p1.2)), ((3 : Int32), some ((p1.2 (88 + hy_ix a0) 3), p1.2)), ((4 : Int32), some ((p1.2 (88 + hy_ix a0) 4), p1.2)), ((5 : Int32), some ((p1.2 (88 + hy_ix a0) 5), p1.2)), ((6 : Int32), (J12 81 (p1.2 (88 + hy_ix a0) 0) (p1.2 (88 + hy_ix a0) 3) (p1.2 (88 + hy_ix a0) 2) (p1.2 (88 + hy_ix a0) 4) p1.2).bind fun p2 => some (p2.1, p2.2)), ((7 : Int32), (J17 (88 + hy_ix a0) p1.2).bind fun p3 => some (p3.1, p3.2)), ((8 : Int32), (J18 (88 + hy_ix a0) p1.2).bind fun p4 => some (p4.1, p4.2))] (some ((-1000000001 : Int32), p1.2)) else none)
/-- HayBoard.at(I)I -/
def J19 (a0 : Int32) (σ : Sg) : Option (Int32 × Sg) :=
  (J5 a0 σ).bind fun p1 => if p1.1 = 0 then (some ((-1000000001 : Int32), p1.2)) else (if hy_ib a0 36 then some ((p1.2 83 (hy_ix a0)), p1.2) else none)
def J22_3  : Nat → Nat → Int32 → Int32 → Int32 → Int32 → Sg → Option (Int32 × Sg)
  | 0, _, _, _, _, _, _ => none
  | n + 1, o, x1, x3, x4, x5, σ => if x3 ≤ x5 then (some ((1 : Int32), σ)) else (if hy_ib (x1 + (x5 * x4)) 36 then if (σ (o + 2) (hy_ix (x1 + (x5 * x4)))) = (-1000000005 : Int32) then (J22_3  n o x1 x3 x4 (x5 + (1 : Int32)) σ) else (some ((0 : Int32), σ)) else none)
def J22_2  (x100 : Int32) (o : Nat) (x1 : Int32) (x3 : Int32) (σ : Sg) : Option (Int32 × Sg) :=
  J22_3  hy_fu o x1 x3 x100 (1 : Int32) σ
/-- Common.isClear(III)Z -/
def J22 (o : Nat) (a0 : Int32) (a1 : Int32) (a2 : Int32) (σ : Sg) : Option (Int32 × Sg) :=
  if a2 = 0 then (J22_2  (0 : Int32) o a0 a2 σ) else (if a2 = 0 then none else J22_2  ((a1 - a0) / a2) o a0 a2 σ)
def J21_6  (x100 : Int32) (o : Nat) (x2 : Int32) (r3 : Nat) (x4 : Int32) (x5 : Int32) (x6 : Int32) (σ : Sg) : Option (Int32 × Sg) :=
  hy_sw (σ r3 0) [((1 : Int32), if x100 = 0 then (some ((0 : Int32), σ)) else ((J22 o x4 x2 (x5 + x6) σ).bind fun p1 => if p1.1 = 0 then (some ((0 : Int32), p1.2)) else (some ((1 : Int32), p1.2)))), ((2 : Int32), if x5 = (1 : Int32) then (if x6 = (1 : Int32) then (some ((1 : Int32), σ)) else (some ((0 : Int32), σ))) else (some ((0 : Int32), σ))), ((3 : Int32), if x100 = 0 then (some ((0 : Int32), σ)) else (if (3 : Int32) < (x5 + x6) then (some ((0 : Int32), σ)) else ((J22 o x4 x2 (x5 + x6) σ).bind fun p2 => if p2.1 = 0 then (some ((0 : Int32), p2.2)) else (some ((1 : Int32), p2.2))))), ((4 : Int32), if (1 : Int32) < x5 then (some ((0 : Int32), σ)) else (if (1 : Int32) < x6 then (some ((0 : Int32), σ)) else (some ((1 : Int32), σ)))), ((5 : Int32), some ((0 : Int32), σ))] (if (x5 + x6) = (1 : Int32) then (some ((1 : Int32), σ)) else (some ((0 : Int32), σ)))
def J21_4   (o : Nat) (x2 : Int32) (r3 : Nat) (x4 : Int32) (x5 : Int32) (x6 : Int32) (σ : Sg) : Option (Int32 × Sg) :=
  J21_6  (1 : Int32) o x2 r3 x4 x5 x6 σ
def J21_3   (o : Nat) (x2 : Int32) (r3 : Nat) (x4 : Int32) (σ : Sg) : Option (Int32 × Sg) :=
  if (if 0 ≤ ((x2 / (6 : Int32)) - (x4 / (6 : Int32))) then ((x2 / (6 : Int32)) - (x4 / (6 : Int32))) else 0 - ((x2 / (6 : Int32)) - (x4 / (6 : Int32)))) = 0 then (J21_4  o x2 r3 x4 (if 0 ≤ ((x2 / (6 : Int32)) - (x4 / (6 : Int32))) then ((x2 / (6 : Int32)) - (x4 / (6 : Int32))) else 0 - ((x2 / (6 : Int32)) - (x4 / (6 : Int32)))) (if 0 ≤ ((hy_rem x2 (6 : Int32)) - (hy_rem x4 (6 : Int32))) then ((hy_rem x2 (6 : Int32)) - (hy_rem x4 (6 : Int32))) else 0 - ((hy_rem x2 (6 : Int32)) - (hy_rem x4 (6 : Int32)))) σ) else (if (if 0 ≤ ((hy_rem x2 (6 : Int32)) - (hy_rem x4 (6 : Int32))) then ((hy_rem x2 (6 : Int32)) - (hy_rem x4 (6 : Int32))) else 0 - ((hy_rem x2 (6 : Int32)) - (hy_rem x4 (6 : Int32)))) = 0 then (J21_4  o x2 r3 x4 (if 0 ≤ ((x2 / (6 : Int32)) - (x4 / (6 : Int32))) then ((x2 / (6 : Int32)) - (x4 / (6 : Int32))) else 0 - ((x2 / (6 : Int32)) - (x4 / (6 : Int32)))) (if 0 ≤ ((hy_rem x2 (6 : Int32)) - (hy_rem x4 (6 : Int32))) then ((hy_rem x2 (6 : Int32)) - (hy_rem x4 (6 : Int32))) else 0 - ((hy_rem x2 (6 : Int32)) - (hy_rem x4 (6 : Int32)))) σ) else (J21_6  (0 : Int32) o x2 r3 x4 (if 0 ≤ ((x2 / (6 : Int32)) - (x4 / (6 : Int32))) then ((x2 / (6 : Int32)) - (x4 / (6 : Int32))) else 0 - ((x2 / (6 : Int32)) - (x4 / (6 : Int32)))) (if 0 ≤ ((hy_rem x2 (6 : Int32)) - (hy_rem x4 (6 : Int32))) then ((hy_rem x2 (6 : Int32)) - (hy_rem x4 (6 : Int32))) else 0 - ((hy_rem x2 (6 : Int32)) - (hy_rem x4 (6 : Int32)))) σ))
/-- Common.mayGo(II)Z -/
def J21 (o : Nat) (a0 : Int32) (a1 : Int32) (σ : Sg) : Option (Int32 × Sg) :=
  if hy_ib a0 12 then (J5 (σ ((o + 7) + hy_ix a0) 2) σ).bind fun p3 => if p3.1 = 0 then (some ((0 : Int32), p3.2)) else (if (σ ((o + 7) + hy_ix a0) 2) = a1 then (some ((0 : Int32), p3.2)) else (if hy_ib a1 36 then if (p3.2 (o + 2) (hy_ix a1)) = (-1000000005 : Int32) then (J21_3  o a1 ((o + 7) + hy_ix a0) (σ ((o + 7) + hy_ix a0) 2) p3.2) else (if hy_ib a1 36 then if hy_ib (p3.2 (o + 2) (hy_ix a1)) 12 then if (p3.2 ((o + 7) + hy_ix (p3.2 (o + 2) (hy_ix a1))) 1) = (p3.2 ((o + 7) + hy_ix a0) 1) then (some ((0 : Int32), p3.2)) else (J21_3  o a1 ((o + 7) + hy_ix a0) (σ ((o + 7) + hy_ix a0) 2) p3.2) else none else none) else none)) else none
/-- HayBoard.goes(II)I -/
def J20 (a0 : Int32) (a1 : Int32) (σ : Sg) : Option (Int32 × Sg) :=
  (J11 81 a0 σ).bind fun p1 => if p1.1 = 0 then (some ((-1000000001 : Int32), p1.2)) else ((J5 a1 p1.2).bind fun p2 => if p2.1 = 0 then (some ((-1000000001 : Int32), p2.2)) else ((J21 81 a0 a1 p2.2).bind fun p3 => if p3.1 = 0 then (some ((0 : Int32), p3.2)) else (some ((1 : Int32), p3.2))))
def J24_1   (o : Nat) (x1 : Int32) (σ : Sg) : Option (Int32 × Sg) :=
  if x1 = (2 : Int32) then (if (σ o 0) = (4 : Int32) then (some ((1 : Int32), σ)) else (some ((0 : Int32), σ))) else (some ((0 : Int32), σ))
/-- Bale.isOf(I)Z -/
def J24 (o : Nat) (a0 : Int32) (σ : Sg) : Option (Int32 × Sg) :=
  if a0 = 0 then (some ((1 : Int32), σ)) else (if a0 = (σ o 0) then (some ((1 : Int32), σ)) else (if a0 = (1 : Int32) then (if (σ o 0) = (3 : Int32) then (some ((1 : Int32), σ)) else (J24_1  o a0 σ)) else (J24_1  o a0 σ)))
/-- HayBoard.as(II)I -/
def J23 (a0 : Int32) (a1 : Int32) (σ : Sg) : Option (Int32 × Sg) :=
  (J11 81 a0 σ).bind fun p1 => if p1.1 = 0 then (some ((-1000000001 : Int32), p1.2)) else ((J2 a1 p1.2).bind fun p2 => if p2.1 = 0 then (some ((-1000000001 : Int32), p2.2)) else (if hy_ib a0 12 then (J24 (88 + hy_ix a0) a1 p2.2).bind fun p3 => if p3.1 = 0 then (some ((-1000000012 : Int32), p3.2)) else (some ((p3.2 (88 + hy_ix a0) 3), p3.2)) else none))
/-- HayBoard.turns(II)I -/
def J25 (a0 : Int32) (a1 : Int32) (σ : Sg) : Option (Int32 × Sg) :=
  (J11 81 a0 σ).bind fun p1 => if p1.1 = 0 then (some ((-1000000001 : Int32), p1.2)) else ((J2 a1 p1.2).bind fun p2 => if p2.1 = 0 then (some ((-1000000001 : Int32), p2.2)) else (if hy_ib a0 12 then if hy_ib a0 12 then some ((p2.2 (88 + hy_ix a0) 0), (hy_up p2.2 (88 + hy_ix a0) 0 a1)) else none else none))
/-- HayBoard.setFarm(LHayBoard$Bale;I)I -/
def J27 (a0 : Nat) (a1 : Int32) (σ : Sg) : Option (Int32 × Sg) :=
  (J4 a1 σ).bind fun p1 => if p1.1 = 0 then (some ((-1000000001 : Int32), p1.2)) else (some ((p1.2 a0 1), (hy_up p1.2 a0 1 a1)))
def J28_2   (x1 : Int32) (x2 : Int32) (σ : Sg) : Option (Int32 × Sg) :=
  if hy_ib x1 12 then (J8 81 x1 x2 σ).bind fun σ1 => some ((σ (88 + hy_ix x1) 2), σ1) else none
def J28_1   (x1 : Int32) (x2 : Int32) (σ : Sg) : Option (Int32 × Sg) :=
  (J5 x2 σ).bind fun p2 => if p2.1 = 0 then (J28_2  x1 x2 p2.2) else (if hy_ib x2 36 then if (p2.2 83 (hy_ix x2)) = (-1000000005 : Int32) then (J28_2  x1 x2 p2.2) else (if hy_ib x2 36 then if (p2.2 83 (hy_ix x2)) = x1 then (J28_2  x1 x2 p2.2) else (some ((-1000000002 : Int32), p2.2)) else none) else none)
/-- HayBoard.setPlace(II)I -/
def J28 (a0 : Int32) (a1 : Int32) (σ : Sg) : Option (Int32 × Sg) :=
  (J5 a1 σ).bind fun p3 => if p3.1 = 0 then (if a1 = (36 : Int32) then (J28_1  a0 a1 p3.2) else (some ((-1000000001 : Int32), p3.2))) else (J28_1  a0 a1 p3.2)
/-- HayBoard.setHay(LHayBoard$Bale;I)I -/
def J29 (a0 : Nat) (a1 : Int32) (σ : Sg) : Option (Int32 × Sg) :=
  (J6 a1 σ).bind fun p1 => if p1.1 = 0 then (some ((-1000000001 : Int32), p1.2)) else (some ((p1.2 a0 3), (hy_up p1.2 a0 3 a1)))
/-- HayBoard.set(III)I -/
def J26 (a0 : Int32) (a1 : Int32) (a2 : Int32) (σ : Sg) : Option (Int32 × Sg) :=
  (J11 81 a0 σ).bind fun p1 => if p1.1 = 0 then (some ((-1000000001 : Int32), p1.2)) else (hy_sw a1 [((1 : Int32), if hy_ib a0 12 then (J27 (88 + hy_ix a0) a2 p1.2).bind fun p2 => some (p2.1, p2.2) else none), ((2 : Int32), (J28 a0 a2 p1.2).bind fun p3 => some (p3.1, p3.2)), ((3 : Int32), if hy_ib a0 12 then (J29 (88 + hy_ix a0) a2 p1.2).bind fun p4 => some (p4.1, p4.2) else none)] (some ((-1000000001 : Int32), p1.2)))
def J30_2  (x100 : Int32) (x101 : Int32) (x102 : Int32) (x1 : Int32) (x2 : Int32) (σ : Sg) : Option (Int32 × Sg) :=
  (J3 x102 x101 x100 σ).bind fun p1 => if p1.1 = 0 then (some ((-1000000001 : Int32), p1.2)) else (hy_sw x1 [((0 : Int32), some ((p1.2 81 8), (hy_up p1.2 81 8 x2))), ((1 : Int32), some ((p1.2 81 9), (hy_up p1.2 81 9 x2))), ((2 : Int32), some ((p1.2 81 10), (hy_up p1.2 81 10 x2)))] (some ((-1000000001 : Int32), p1.2)))
/-- HayBoard.rule(II)I -/
def J30 (a0 : Int32) (a1 : Int32) (σ : Sg) : Option (Int32 × Sg) :=
  if a0 = 0 then (J30_2  (1 : Int32) (0 : Int32) a1 a0 a1 σ) else (J30_2  (100 : Int32) (0 : Int32) a1 a0 a1 σ)
/-- Common.draw()I -/
def J33 (o : Nat) (σ : Sg) : Option (Int32 × Sg) :=
  some (((((hy_up σ o 12 (((σ o 12) * (1103515245 : Int32)) + (12345 : Int32))) o 12).toUInt32 >>> ((8 : Int32).toUInt32 &&& Int32.toUInt32 31)).toInt32), (hy_up σ o 12 (((σ o 12) * (1103515245 : Int32)) + (12345 : Int32))))
def J32_2   (o : Nat) (x1 : Int32) (x2 : Int32) (x3 : Int32) (σ : Sg) : Option (Sg) :=
  (J33 o σ).bind fun p1 => (J7 o x1 x2 x3 ((1 : Int32) + (hy_rem p1.1 (60 : Int32))) p1.2).bind fun p2 => some p2.2
def J32_1  : Nat → Nat → Int32 → Int32 → Int32 → Int32 → Sg → Option (Sg)
  | 0, _, _, _, _, _, _ => none
  | n + 1, o, x1, x2, x3, x4, σ => if (36 : Int32) ≤ x4 then (J32_2  o x1 x2 x3 σ) else (if hy_ib x3 36 then if (σ (o + 2) (hy_ix x3)) = (-1000000005 : Int32) then (J32_2  o x1 x2 x3 σ) else (J32_1  n o x1 x2 (hy_rem (x3 + (1 : Int32)) (36 : Int32)) (x4 + (1 : Int32)) σ) else none)
/-- Common.addsDrawn()V -/
def J32 (o : Nat) (σ : Sg) : Option (Sg) :=
  (J33 o σ).bind fun p4 => (J33 o p4.2).bind fun p5 => (J33 o p5.2).bind fun p6 => J32_1  hy_fu o (hy_rem p4.1 (6 : Int32)) (hy_rem p5.1 (2 : Int32)) (hy_rem p6.1 (36 : Int32)) (0 : Int32) p6.2
def J31_2  : Nat → Int32 → Int32 → Sg → Option (Int32 × Sg)
  | 0, _, _, _ => none
  | n + 1, x2, x3, σ => if x2 ≤ x3 then (some (x2, σ)) else ((J32 81 σ).bind fun σ1 => J31_2  n x2 (x3 + (1 : Int32)) σ1)
/-- HayBoard.deal(I)I -/
def J31 (a0 : Int32) (σ : Sg) : Option (Int32 × Sg) :=
  (J3 a0 (1 : Int32) (12 : Int32) σ).bind fun p2 => if p2.1 = 0 then (some ((-1000000001 : Int32), p2.2)) else (J31_2  hy_fu (if ((12 : Int32) - (p2.2 81 7)) < a0 then ((12 : Int32) - (p2.2 81 7)) else a0) (0 : Int32) p2.2)
/-- HayBoard.seed(I)I -/
def J34 (a0 : Int32) (σ : Sg) : Option (Int32 × Sg) :=
  some ((σ 81 12), (hy_up σ 81 12 a0))
/-- Bale.hayWith(LHayBoard$Bale;)I -/
def J37 (o : Nat) (a0 : Nat) (σ : Sg) : Option (Int32 × Sg) :=
  some ((if (99 : Int32) < ((σ o 3) + ((σ a0 3) / (2 : Int32))) then (99 : Int32) else ((σ o 3) + ((σ a0 3) / (2 : Int32)))), σ)
def J36_1   (o : Nat) (x1 : Int32) (x2 : Int32) (r3 : Nat) (x4 : Int32) (σ : Sg) : Option (Int32 × Sg) :=
  (J8 o x1 x2 σ).bind fun σ1 => some (x4, (hy_up σ1 r3 4 ((σ1 r3 4) + (1 : Int32))))
/-- Common.makes(II)I -/
def J36 (o : Nat) (a0 : Int32) (a1 : Int32) (σ : Sg) : Option (Int32 × Sg) :=
  if hy_ib a0 12 then if hy_ib a1 36 then if (σ (o + 2) (hy_ix a1)) = (-1000000005 : Int32) then (J36_1  o a0 a1 ((o + 7) + hy_ix a0) (σ (o + 2) (hy_ix a1)) σ) else (if hy_ib (σ (o + 2) (hy_ix a1)) 12 then (J37 ((o + 7) + hy_ix a0) ((o + 7) + hy_ix (σ (o + 2) (hy_ix a1))) σ).bind fun p2 => (J8 o (σ (o + 2) (hy_ix a1)) (36 : Int32) (hy_up (hy_up p2.2 ((o + 7) + hy_ix a0) 3 p2.1) ((o + 7) + hy_ix a0) 5 (((hy_up p2.2 ((o + 7) + hy_ix a0) 3 p2.1) ((o + 7) + hy_ix a0) 5) + (1 : Int32)))).bind fun σ3 => J36_1  o a0 a1 ((o + 7) + hy_ix a0) (σ (o + 2) (hy_ix a1)) σ3 else none) else none else none
/-- Common.turnGoesOn()V -/
def J38 (o : Nat) (σ : Sg) : Option (Sg) :=
  some (hy_up σ o 8 ((1 : Int32) - (σ o 8)))
/-- HayBoard.move(II)I -/
def J35 (a0 : Int32) (a1 : Int32) (σ : Sg) : Option (Int32 × Sg) :=
  (J11 81 a0 σ).bind fun p1 => if p1.1 = 0 then (some ((-1000000001 : Int32), p1.2)) else ((J5 a1 p1.2).bind fun p2 => if p2.1 = 0 then (some ((-1000000001 : Int32), p2.2)) else (if hy_ib a0 12 then if (p2.2 (88 + hy_ix a0) 1) = (p2.2 81 8) then ((J21 81 a0 a1 p2.2).bind fun p3 => if p3.1 = 0 then (some ((-1000000002 : Int32), p3.2)) else ((J36 81 a0 a1 p3.2).bind fun p4 => (J38 81 p4.2).bind fun σ5 => some (p4.1, σ5))) else (some ((-1000000002 : Int32), p2.2)) else none))
/-- Common.isOnOf(II)Z -/
def J41 (o : Nat) (a0 : Int32) (a1 : Int32) (σ : Sg) : Option (Int32 × Sg) :=
  (J9 o a0 σ).bind fun p1 => if p1.1 = 0 then (some ((0 : Int32), p1.2)) else (if hy_ib a0 12 then if (p1.2 ((o + 7) + hy_ix a0) 1) = a1 then (some ((1 : Int32), p1.2)) else (some ((0 : Int32), p1.2)) else none)
def J40_4 (k1 : Nat → Int32 → Int32 → Int32 → Sg → Option (Int32 × Sg))  (o : Nat) (x1 : Int32) (x2 : Int32) (x3 : Int32) (x4 : Int32) (σ : Sg) : Option (Int32 × Sg) :=
  k1 o x1 x2 (x3 + (1 : Int32)) σ
def J40_3 (k1 : Nat → Int32 → Int32 → Int32 → Sg → Option (Int32 × Sg)) (k2 : Nat → Int32 → Int32 → Int32 → Int32 → Sg → Option (Int32 × Sg))  (o : Nat) (x1 : Int32) (x2 : Int32) (x3 : Int32) (x4 : Int32) (σ : Sg) : Option (Int32 × Sg) :=
  k2 o x1 x2 x3 (x4 + (1 : Int32)) σ
def J40_2 (k1 : Nat → Int32 → Int32 → Int32 → Sg → Option (Int32 × Sg)) : Nat → Nat → Int32 → Int32 → Int32 → Int32 → Sg → Option (Int32 × Sg)
  | 0, _, _, _, _, _, _ => none
  | n + 1, o, x1, x2, x3, x4, σ => if (36 : Int32) ≤ x4 then (J40_4 (k1) o x1 x2 x3 x4 σ) else ((J41 o x3 x1 σ).bind fun p1 => if p1.1 = 0 then (J40_4 (k1) o x1 x2 x3 x4 p1.2) else ((J21 o x3 x4 p1.2).bind fun p2 => if p2.1 = 0 then (J40_3 (k1) (J40_2 k1 n) o x1 x2 x3 x4 p2.2) else (if hy_ib x2 432 then J40_3 (k1) (J40_2 k1 n) o x1 (x2 + (1 : Int32)) x3 x4 (hy_up p2.2 (o + 4) (hy_ix x2) (((100 : Int32) * x3) + x4)) else none)))
def J40_1  : Nat → Nat → Int32 → Int32 → Int32 → Sg → Option (Int32 × Sg)
  | 0, _, _, _, _, _ => none
  | n + 1, o, x1, x2, x3, σ => if (σ o 7) ≤ x3 then (some (x2, σ)) else (J40_2 (J40_1  n) hy_fu o x1 x2 x3 (0 : Int32) σ)
/-- Common.listMoves(I)I -/
def J40 (o : Nat) (a0 : Int32) (σ : Sg) : Option (Int32 × Sg) :=
  J40_1  hy_fu o a0 (0 : Int32) (0 : Int32) σ
/-- HayBoard.moves(I)I -/
def J39 (a0 : Int32) (σ : Sg) : Option (Int32 × Sg) :=
  (J4 a0 σ).bind fun p1 => if p1.1 = 0 then (some ((-1000000001 : Int32), p1.2)) else ((J40 81 a0 p1.2).bind fun p2 => some (p2.1, p2.2))
/-- Choice.clear()V -/
def J44 (o : Nat) (σ : Sg) : Option (Sg) :=
  some (hy_up σ o 0 (-1000000005 : Int32))
def J45_4 (k1 : Nat → Int32 → Int32 → Int32 → Sg → Option (Int32 × Sg))  (o : Nat) (x1 : Int32) (x2 : Int32) (x3 : Int32) (σ : Sg) : Option (Int32 × Sg) :=
  k1 o x1 x2 (x3 + (1 : Int32)) σ
def J45_3 (k1 : Nat → Int32 → Int32 → Int32 → Sg → Option (Int32 × Sg)) (x100 : Int32) (x101 : Int32) (o : Nat) (x1 : Int32) (x3 : Int32) (σ : Sg) : Option (Int32 × Sg) :=
  J45_4 (k1) o x1 (x101 + x100) x3 σ
def J45_1  : Nat → Nat → Int32 → Int32 → Int32 → Sg → Option (Int32 × Sg)
  | 0, _, _, _, _, _ => none
  | n + 1, o, x1, x2, x3, σ => if (σ o 7) ≤ x3 then (some (x2, σ)) else (if hy_ib x3 12 then (J9 o x3 σ).bind fun p1 => if p1.1 = 0 then (J45_4 (J45_1  n) o x1 x2 x3 p1.2) else ((J12 o (p1.2 ((o + 7) + hy_ix x3) 0) (p1.2 ((o + 7) + hy_ix x3) 3) (p1.2 ((o + 7) + hy_ix x3) 2) (p1.2 ((o + 7) + hy_ix x3) 4) p1.2).bind fun p2 => if hy_ib x3 12 then if ((hy_up p2.2 (o + 5) (hy_ix x3) p2.1) ((o + 7) + hy_ix x3) 1) = x1 then (if hy_ib x3 12 then J45_3 (J45_1  n) ((hy_up p2.2 (o + 5) (hy_ix x3) p2.1) (o + 5) (hy_ix x3)) x2 o x1 x3 (hy_up p2.2 (o + 5) (hy_ix x3) p2.1) else none) else (if hy_ib x3 12 then J45_3 (J45_1  n) ((-((hy_up p2.2 (o + 5) (hy_ix x3) p2.1) (o + 5) (hy_ix x3)))) x2 o x1 x3 (hy_up p2.2 (o + 5) (hy_ix x3) p2.1) else none) else none) else none)
/-- Common.leadOf(I)I -/
def J45 (o : Nat) (a0 : Int32) (σ : Sg) : Option (Int32 × Sg) :=
  J45_1  hy_fu o a0 (0 : Int32) (0 : Int32) σ
def J46_1   (o : Nat) (x1 : Int32) (x2 : Int32) (x3 : Int32) (σ : Sg) : Option (Sg) :=
  some (hy_up (hy_up (hy_up σ o 0 x1) o 1 x2) o 2 x3)
/-- Choice.offer(III)V -/
def J46 (o : Nat) (a0 : Int32) (a1 : Int32) (a2 : Int32) (σ : Sg) : Option (Sg) :=
  if (σ o 0) = (-1000000005 : Int32) then (J46_1  o a0 a1 a2 σ) else (if (σ o 1) ≤ a1 then (some σ) else (J46_1  o a0 a1 a2 σ))
def J43_4 (k1 : Nat → Int32 → Int32 → Int32 → Sg → Option (Sg))  (o : Nat) (x2 : Int32) (x3 : Int32) (x4 : Int32) (x5 : Int32) (x6 : Int32) (r7 : Nat) (x8 : Int32) (x10 : Int32) (σ : Sg) : Option (Sg) :=
  if hy_ib x4 432 then (J46 (o + 6) (σ (o + 4) (hy_ix x4)) ((-x10)) x10 σ).bind fun σ1 => k1 o x2 x3 (x4 + (1 : Int32)) σ1 else none
def J43_3 (k1 : Nat → Int32 → Int32 → Int32 → Sg → Option (Sg)) (x100 : Int32) (o : Nat) (x2 : Int32) (x3 : Int32) (x4 : Int32) (x5 : Int32) (x6 : Int32) (r7 : Nat) (x8 : Int32) (σ : Sg) : Option (Sg) :=
  if hy_ib x5 12 then (J12 o (σ r7 0) x100 x6 ((σ r7 4) + (1 : Int32)) σ).bind fun p2 => if x8 = (-1000000005 : Int32) then (J43_4 (k1) o x2 x3 x4 x5 x6 r7 x8 ((x2 - (σ (o + 5) (hy_ix x5))) + p2.1) p2.2) else (if hy_ib x8 12 then J43_4 (k1) o x2 x3 x4 x5 x6 r7 x8 (((x2 - (σ (o + 5) (hy_ix x5))) + p2.1) + (p2.2 (o + 5) (hy_ix x8))) p2.2 else none) else none
def J43_1  : Nat → Nat → Int32 → Int32 → Int32 → Sg → Option (Sg)
  | 0, _, _, _, _, _ => none
  | n + 1, o, x2, x3, x4, σ => if x3 ≤ x4 then (some σ) else (if hy_ib x4 432 then if hy_ib x4 432 then if hy_ib ((σ (o + 4) (hy_ix x4)) / (100 : Int32)) 12 then if hy_ib (hy_rem (σ (o + 4) (hy_ix x4)) (100 : Int32)) 36 then if (σ (o + 2) (hy_ix (hy_rem (σ (o + 4) (hy_ix x4)) (100 : Int32)))) = (-1000000005 : Int32) then (J43_3 (J43_1  n) (σ ((o + 7) + hy_ix ((σ (o + 4) (hy_ix x4)) / (100 : Int32))) 3) o x2 x3 x4 ((σ (o + 4) (hy_ix x4)) / (100 : Int32)) (hy_rem (σ (o + 4) (hy_ix x4)) (100 : Int32)) ((o + 7) + hy_ix ((σ (o + 4) (hy_ix x4)) / (100 : Int32))) (σ (o + 2) (hy_ix (hy_rem (σ (o + 4) (hy_ix x4)) (100 : Int32)))) σ) else (if hy_ib (σ (o + 2) (hy_ix (hy_rem (σ (o + 4) (hy_ix x4)) (100 : Int32)))) 12 then (J37 ((o + 7) + hy_ix ((σ (o + 4) (hy_ix x4)) / (100 : Int32))) ((o + 7) + hy_ix (σ (o + 2) (hy_ix (hy_rem (σ (o + 4) (hy_ix x4)) (100 : Int32))))) σ).bind fun p3 => J43_3 (J43_1  n) p3.1 o x2 x3 x4 ((σ (o + 4) (hy_ix x4)) / (100 : Int32)) (hy_rem (σ (o + 4) (hy_ix x4)) (100 : Int32)) ((o + 7) + hy_ix ((σ (o + 4) (hy_ix x4)) / (100 : Int32))) (σ (o + 2) (hy_ix (hy_rem (σ (o + 4) (hy_ix x4)) (100 : Int32)))) p3.2 else none) else none else none else none else none)
/-- Common.findBest(I)V -/
def J43 (o : Nat) (a0 : Int32) (σ : Sg) : Option (Sg) :=
  (J44 (o + 6) σ).bind fun σ4 => (J45 o a0 σ4).bind fun p5 => (J40 o a0 p5.2).bind fun p6 => J43_1  hy_fu o p5.1 p6.1 (0 : Int32) p6.2
/-- Choice.tells(I)I -/
def J47 (o : Nat) (a0 : Int32) (σ : Sg) : Option (Int32 × Sg) :=
  if (σ o 0) = (-1000000005 : Int32) then (some ((σ o 0), σ)) else (if a0 = 0 then (some ((σ o 0), σ)) else (some ((σ o 2), σ)))
/-- Bale.becomes(LHayBoard$Bale;)V -/
def J50 (o : Nat) (a0 : Nat) (σ : Sg) : Option (Sg) :=
  some (hy_up (hy_up (hy_up (hy_up (hy_up (hy_up σ o 0 (σ a0 0)) o 1 ((hy_up σ o 0 (σ a0 0)) a0 1)) o 2 ((hy_up (hy_up σ o 0 (σ a0 0)) o 1 ((hy_up σ o 0 (σ a0 0)) a0 1)) a0 2)) o 3 ((hy_up (hy_up (hy_up σ o 0 (σ a0 0)) o 1 ((hy_up σ o 0 (σ a0 0)) a0 1)) o 2 ((hy_up (hy_up σ o 0 (σ a0 0)) o 1 ((hy_up σ o 0 (σ a0 0)) a0 1)) a0 2)) a0 3)) o 4 ((hy_up (hy_up (hy_up (hy_up σ o 0 (σ a0 0)) o 1 ((hy_up σ o 0 (σ a0 0)) a0 1)) o 2 ((hy_up (hy_up σ o 0 (σ a0 0)) o 1 ((hy_up σ o 0 (σ a0 0)) a0 1)) a0 2)) o 3 ((hy_up (hy_up (hy_up σ o 0 (σ a0 0)) o 1 ((hy_up σ o 0 (σ a0 0)) a0 1)) o 2 ((hy_up (hy_up σ o 0 (σ a0 0)) o 1 ((hy_up σ o 0 (σ a0 0)) a0 1)) a0 2)) a0 3)) a0 4)) o 5 ((hy_up (hy_up (hy_up (hy_up (hy_up σ o 0 (σ a0 0)) o 1 ((hy_up σ o 0 (σ a0 0)) a0 1)) o 2 ((hy_up (hy_up σ o 0 (σ a0 0)) o 1 ((hy_up σ o 0 (σ a0 0)) a0 1)) a0 2)) o 3 ((hy_up (hy_up (hy_up σ o 0 (σ a0 0)) o 1 ((hy_up σ o 0 (σ a0 0)) a0 1)) o 2 ((hy_up (hy_up σ o 0 (σ a0 0)) o 1 ((hy_up σ o 0 (σ a0 0)) a0 1)) a0 2)) a0 3)) o 4 ((hy_up (hy_up (hy_up (hy_up σ o 0 (σ a0 0)) o 1 ((hy_up σ o 0 (σ a0 0)) a0 1)) o 2 ((hy_up (hy_up σ o 0 (σ a0 0)) o 1 ((hy_up σ o 0 (σ a0 0)) a0 1)) a0 2)) o 3 ((hy_up (hy_up (hy_up σ o 0 (σ a0 0)) o 1 ((hy_up σ o 0 (σ a0 0)) a0 1)) o 2 ((hy_up (hy_up σ o 0 (σ a0 0)) o 1 ((hy_up σ o 0 (σ a0 0)) a0 1)) a0 2)) a0 3)) a0 4)) a0 5))
def J49_1  : Nat → Nat → Nat → Int32 → Sg → Option (Sg)
  | 0, _, _, _, _ => none
  | n + 1, o, r1, x2, σ => if (σ r1 7) ≤ x2 then (if hy_cpOK (0 : Int32) (0 : Int32) (36 : Int32) 36 36 then (if hy_cpOK (0 : Int32) (0 : Int32) (3 : Int32) 3 3 then (some (hy_up (hy_up (hy_up (hy_up (hy_up (hy_up (hy_up (hy_cpS (hy_cpS σ (r1 + 2) (o + 2) (0 : Int32) (0 : Int32) (36 : Int32)) (r1 + 3) (o + 3) (0 : Int32) (0 : Int32) (3 : Int32)) o 7 ((hy_cpS (hy_cpS σ (r1 + 2) (o + 2) (0 : Int32) (0 : Int32) (36 : Int32)) (r1 + 3) (o + 3) (0 : Int32) (0 : Int32) (3 : Int32)) r1 7)) o 8 ((hy_up (hy_cpS (hy_cpS σ (r1 + 2) (o + 2) (0 : Int32) (0 : Int32) (36 : Int32)) (r1 + 3) (o + 3) (0 : Int32) (0 : Int32) (3 : Int32)) o 7 ((hy_cpS (hy_cpS σ (r1 + 2) (o + 2) (0 : Int32) (0 : Int32) (36 : Int32)) (r1 + 3) (o + 3) (0 : Int32) (0 : Int32) (3 : Int32)) r1 7)) r1 8)) o 9 ((hy_up (hy_up (hy_cpS (hy_cpS σ (r1 + 2) (o + 2) (0 : Int32) (0 : Int32) (36 : Int32)) (r1 + 3) (o + 3) (0 : Int32) (0 : Int32) (3 : Int32)) o 7 ((hy_cpS (hy_cpS σ (r1 + 2) (o + 2) (0 : Int32) (0 : Int32) (36 : Int32)) (r1 + 3) (o + 3) (0 : Int32) (0 : Int32) (3 : Int32)) r1 7)) o 8 ((hy_up (hy_cpS (hy_cpS σ (r1 + 2) (o + 2) (0 : Int32) (0 : Int32) (36 : Int32)) (r1 + 3) (o + 3) (0 : Int32) (0 : Int32) (3 : Int32)) o 7 ((hy_cpS (hy_cpS σ (r1 + 2) (o + 2) (0 : Int32) (0 : Int32) (36 : Int32)) (r1 + 3) (o + 3) (0 : Int32) (0 : Int32) (3 : Int32)) r1 7)) r1 8)) r1 9)) o 10 ((hy_up (hy_up (hy_up (hy_cpS (hy_cpS σ (r1 + 2) (o + 2) (0 : Int32) (0 : Int32) (36 : Int32)) (r1 + 3) (o + 3) (0 : Int32) (0 : Int32) (3 : Int32)) o 7 ((hy_cpS (hy_cpS σ (r1 + 2) (o + 2) (0 : Int32) (0 : Int32) (36 : Int32)) (r1 + 3) (o + 3) (0 : Int32) (0 : Int32) (3 : Int32)) r1 7)) o 8 ((hy_up (hy_cpS (hy_cpS σ (r1 + 2) (o + 2) (0 : Int32) (0 : Int32) (36 : Int32)) (r1 + 3) (o + 3) (0 : Int32) (0 : Int32) (3 : Int32)) o 7 ((hy_cpS (hy_cpS σ (r1 + 2) (o + 2) (0 : Int32) (0 : Int32) (36 : Int32)) (r1 + 3) (o + 3) (0 : Int32) (0 : Int32) (3 : Int32)) r1 7)) r1 8)) o 9 ((hy_up (hy_up (hy_cpS (hy_cpS σ (r1 + 2) (o + 2) (0 : Int32) (0 : Int32) (36 : Int32)) (r1 + 3) (o + 3) (0 : Int32) (0 : Int32) (3 : Int32)) o 7 ((hy_cpS (hy_cpS σ (r1 + 2) (o + 2) (0 : Int32) (0 : Int32) (36 : Int32)) (r1 + 3) (o + 3) (0 : Int32) (0 : Int32) (3 : Int32)) r1 7)) o 8 ((hy_up (hy_cpS (hy_cpS σ (r1 + 2) (o + 2) (0 : Int32) (0 : Int32) (36 : Int32)) (r1 + 3) (o + 3) (0 : Int32) (0 : Int32) (3 : Int32)) o 7 ((hy_cpS (hy_cpS σ (r1 + 2) (o + 2) (0 : Int32) (0 : Int32) (36 : Int32)) (r1 + 3) (o + 3) (0 : Int32) (0 : Int32) (3 : Int32)) r1 7)) r1 8)) r1 9)) r1 10)) o 11 ((hy_up (hy_up (hy_up (hy_up (hy_cpS (hy_cpS σ (r1 + 2) (o + 2) (0 : Int32) (0 : Int32) (36 : Int32)) (r1 + 3) (o + 3) (0 : Int32) (0 : Int32) (3 : Int32)) o 7 ((hy_cpS (hy_cpS σ (r1 + 2) (o + 2) (0 : Int32) (0 : Int32) (36 : Int32)) (r1 + 3) (o + 3) (0 : Int32) (0 : Int32) (3 : Int32)) r1 7)) o 8 ((hy_up (hy_cpS (hy_cpS σ (r1 + 2) (o + 2) (0 : Int32) (0 : Int32) (36 : Int32)) (r1 + 3) (o + 3) (0 : Int32) (0 : Int32) (3 : Int32)) o 7 ((hy_cpS (hy_cpS σ (r1 + 2) (o + 2) (0 : Int32) (0 : Int32) (36 : Int32)) (r1 + 3) (o + 3) (0 : Int32) (0 : Int32) (3 : Int32)) r1 7)) r1 8)) o 9 ((hy_up (hy_up (hy_cpS (hy_cpS σ (r1 + 2) (o + 2) (0 : Int32) (0 : Int32) (36 : Int32)) (r1 + 3) (o + 3) (0 : Int32) (0 : Int32) (3 : Int32)) o 7 ((hy_cpS (hy_cpS σ (r1 + 2) (o + 2) (0 : Int32) (0 : Int32) (36 : Int32)) (r1 + 3) (o + 3) (0 : Int32) (0 : Int32) (3 : Int32)) r1 7)) o 8 ((hy_up (hy_cpS (hy_cpS σ (r1 + 2) (o + 2) (0 : Int32) (0 : Int32) (36 : Int32)) (r1 + 3) (o + 3) (0 : Int32) (0 : Int32) (3 : Int32)) o 7 ((hy_cpS (hy_cpS σ (r1 + 2) (o + 2) (0 : Int32) (0 : Int32) (36 : Int32)) (r1 + 3) (o + 3) (0 : Int32) (0 : Int32) (3 : Int32)) r1 7)) r1 8)) r1 9)) o 10 ((hy_up (hy_up (hy_up (hy_cpS (hy_cpS σ (r1 + 2) (o + 2) (0 : Int32) (0 : Int32) (36 : Int32)) (r1 + 3) (o + 3) (0 : Int32) (0 : Int32) (3 : Int32)) o 7 ((hy_cpS (hy_cpS σ (r1 + 2) (o + 2) (0 : Int32) (0 : Int32) (36 : Int32)) (r1 + 3) (o + 3) (0 : Int32) (0 : Int32) (3 : Int32)) r1 7)) o 8 ((hy_up (hy_cpS (hy_cpS σ (r1 + 2) (o + 2) (0 : Int32) (0 : Int32) (36 : Int32)) (r1 + 3) (o + 3) (0 : Int32) (0 : Int32) (3 : Int32)) o 7 ((hy_cpS (hy_cpS σ (r1 + 2) (o + 2) (0 : Int32) (0 : Int32) (36 : Int32)) (r1 + 3) (o + 3) (0 : Int32) (0 : Int32) (3 : Int32)) r1 7)) r1 8)) o 9 ((hy_up (hy_up (hy_cpS (hy_cpS σ (r1 + 2) (o + 2) (0 : Int32) (0 : Int32) (36 : Int32)) (r1 + 3) (o + 3) (0 : Int32) (0 : Int32) (3 : Int32)) o 7 ((hy_cpS (hy_cpS σ (r1 + 2) (o + 2) (0 : Int32) (0 : Int32) (36 : Int32)) (r1 + 3) (o + 3) (0 : Int32) (0 : Int32) (3 : Int32)) r1 7)) o 8 ((hy_up (hy_cpS (hy_cpS σ (r1 + 2) (o + 2) (0 : Int32) (0 : Int32) (36 : Int32)) (r1 + 3) (o + 3) (0 : Int32) (0 : Int32) (3 : Int32)) o 7 ((hy_cpS (hy_cpS σ (r1 + 2) (o + 2) (0 : Int32) (0 : Int32) (36 : Int32)) (r1 + 3) (o + 3) (0 : Int32) (0 : Int32) (3 : Int32)) r1 7)) r1 8)) r1 9)) r1 10)) r1 11)) o 12 ((hy_up (hy_up (hy_up (hy_up (hy_up (hy_cpS (hy_cpS σ (r1 + 2) (o + 2) (0 : Int32) (0 : Int32) (36 : Int32)) (r1 + 3) (o + 3) (0 : Int32) (0 : Int32) (3 : Int32)) o 7 ((hy_cpS (hy_cpS σ (r1 + 2) (o + 2) (0 : Int32) (0 : Int32) (36 : Int32)) (r1 + 3) (o + 3) (0 : Int32) (0 : Int32) (3 : Int32)) r1 7)) o 8 ((hy_up (hy_cpS (hy_cpS σ (r1 + 2) (o + 2) (0 : Int32) (0 : Int32) (36 : Int32)) (r1 + 3) (o + 3) (0 : Int32) (0 : Int32) (3 : Int32)) o 7 ((hy_cpS (hy_cpS σ (r1 + 2) (o + 2) (0 : Int32) (0 : Int32) (36 : Int32)) (r1 + 3) (o + 3) (0 : Int32) (0 : Int32) (3 : Int32)) r1 7)) r1 8)) o 9 ((hy_up (hy_up (hy_cpS (hy_cpS σ (r1 + 2) (o + 2) (0 : Int32) (0 : Int32) (36 : Int32)) (r1 + 3) (o + 3) (0 : Int32) (0 : Int32) (3 : Int32)) o 7 ((hy_cpS (hy_cpS σ (r1 + 2) (o + 2) (0 : Int32) (0 : Int32) (36 : Int32)) (r1 + 3) (o + 3) (0 : Int32) (0 : Int32) (3 : Int32)) r1 7)) o 8 ((hy_up (hy_cpS (hy_cpS σ (r1 + 2) (o + 2) (0 : Int32) (0 : Int32) (36 : Int32)) (r1 + 3) (o + 3) (0 : Int32) (0 : Int32) (3 : Int32)) o 7 ((hy_cpS (hy_cpS σ (r1 + 2) (o + 2) (0 : Int32) (0 : Int32) (36 : Int32)) (r1 + 3) (o + 3) (0 : Int32) (0 : Int32) (3 : Int32)) r1 7)) r1 8)) r1 9)) o 10 ((hy_up (hy_up (hy_up (hy_cpS (hy_cpS σ (r1 + 2) (o + 2) (0 : Int32) (0 : Int32) (36 : Int32)) (r1 + 3) (o + 3) (0 : Int32) (0 : Int32) (3 : Int32)) o 7 ((hy_cpS (hy_cpS σ (r1 + 2) (o + 2) (0 : Int32) (0 : Int32) (36 : Int32)) (r1 + 3) (o + 3) (0 : Int32) (0 : Int32) (3 : Int32)) r1 7)) o 8 ((hy_up (hy_cpS (hy_cpS σ (r1 + 2) (o + 2) (0 : Int32) (0 : Int32) (36 : Int32)) (r1 + 3) (o + 3) (0 : Int32) (0 : Int32) (3 : Int32)) o 7 ((hy_cpS (hy_cpS σ (r1 + 2) (o + 2) (0 : Int32) (0 : Int32) (36 : Int32)) (r1 + 3) (o + 3) (0 : Int32) (0 : Int32) (3 : Int32)) r1 7)) r1 8)) o 9 ((hy_up (hy_up (hy_cpS (hy_cpS σ (r1 + 2) (o + 2) (0 : Int32) (0 : Int32) (36 : Int32)) (r1 + 3) (o + 3) (0 : Int32) (0 : Int32) (3 : Int32)) o 7 ((hy_cpS (hy_cpS σ (r1 + 2) (o + 2) (0 : Int32) (0 : Int32) (36 : Int32)) (r1 + 3) (o + 3) (0 : Int32) (0 : Int32) (3 : Int32)) r1 7)) o 8 ((hy_up (hy_cpS (hy_cpS σ (r1 + 2) (o + 2) (0 : Int32) (0 : Int32) (36 : Int32)) (r1 + 3) (o + 3) (0 : Int32) (0 : Int32) (3 : Int32)) o 7 ((hy_cpS (hy_cpS σ (r1 + 2) (o + 2) (0 : Int32) (0 : Int32) (36 : Int32)) (r1 + 3) (o + 3) (0 : Int32) (0 : Int32) (3 : Int32)) r1 7)) r1 8)) r1 9)) r1 10)) o 11 ((hy_up (hy_up (hy_up (hy_up (hy_cpS (hy_cpS σ (r1 + 2) (o + 2) (0 : Int32) (0 : Int32) (36 : Int32)) (r1 + 3) (o + 3) (0 : Int32) (0 : Int32) (3 : Int32)) o 7 ((hy_cpS (hy_cpS σ (r1 + 2) (o + 2) (0 : Int32) (0 : Int32) (36 : Int32)) (r1 + 3) (o + 3) (0 : Int32) (0 : Int32) (3 : Int32)) r1 7)) o 8 ((hy_up (hy_cpS (hy_cpS σ (r1 + 2) (o + 2) (0 : Int32) (0 : Int32) (36 : Int32)) (r1 + 3) (o + 3) (0 : Int32) (0 : Int32) (3 : Int32)) o 7 ((hy_cpS (hy_cpS σ (r1 + 2) (o + 2) (0 : Int32) (0 : Int32) (36 : Int32)) (r1 + 3) (o + 3) (0 : Int32) (0 : Int32) (3 : Int32)) r1 7)) r1 8)) o 9 ((hy_up (hy_up (hy_cpS (hy_cpS σ (r1 + 2) (o + 2) (0 : Int32) (0 : Int32) (36 : Int32)) (r1 + 3) (o + 3) (0 : Int32) (0 : Int32) (3 : Int32)) o 7 ((hy_cpS (hy_cpS σ (r1 + 2) (o + 2) (0 : Int32) (0 : Int32) (36 : Int32)) (r1 + 3) (o + 3) (0 : Int32) (0 : Int32) (3 : Int32)) r1 7)) o 8 ((hy_up (hy_cpS (hy_cpS σ (r1 + 2) (o + 2) (0 : Int32) (0 : Int32) (36 : Int32)) (r1 + 3) (o + 3) (0 : Int32) (0 : Int32) (3 : Int32)) o 7 ((hy_cpS (hy_cpS σ (r1 + 2) (o + 2) (0 : Int32) (0 : Int32) (36 : Int32)) (r1 + 3) (o + 3) (0 : Int32) (0 : Int32) (3 : Int32)) r1 7)) r1 8)) r1 9)) o 10 ((hy_up (hy_up (hy_up (hy_cpS (hy_cpS σ (r1 + 2) (o + 2) (0 : Int32) (0 : Int32) (36 : Int32)) (r1 + 3) (o + 3) (0 : Int32) (0 : Int32) (3 : Int32)) o 7 ((hy_cpS (hy_cpS σ (r1 + 2) (o + 2) (0 : Int32) (0 : Int32) (36 : Int32)) (r1 + 3) (o + 3) (0 : Int32) (0 : Int32) (3 : Int32)) r1 7)) o 8 ((hy_up (hy_cpS (hy_cpS σ (r1 + 2) (o + 2) (0 : Int32) (0 : Int32) (36 : Int32)) (r1 + 3) (o + 3) (0 : Int32) (0 : Int32) (3 : Int32)) o 7 ((hy_cpS (hy_cpS σ (r1 + 2) (o + 2) (0 : Int32) (0 : Int32) (36 : Int32)) (r1 + 3) (o + 3) (0 : Int32) (0 : Int32) (3 : Int32)) r1 7)) r1 8)) o 9 ((hy_up (hy_up (hy_cpS (hy_cpS σ (r1 + 2) (o + 2) (0 : Int32) (0 : Int32) (36 : Int32)) (r1 + 3) (o + 3) (0 : Int32) (0 : Int32) (3 : Int32)) o 7 ((hy_cpS (hy_cpS σ (r1 + 2) (o + 2) (0 : Int32) (0 : Int32) (36 : Int32)) (r1 + 3) (o + 3) (0 : Int32) (0 : Int32) (3 : Int32)) r1 7)) o 8 ((hy_up (hy_cpS (hy_cpS σ (r1 + 2) (o + 2) (0 : Int32) (0 : Int32) (36 : Int32)) (r1 + 3) (o + 3) (0 : Int32) (0 : Int32) (3 : Int32)) o 7 ((hy_cpS (hy_cpS σ (r1 + 2) (o + 2) (0 : Int32) (0 : Int32) (36 : Int32)) (r1 + 3) (o + 3) (0 : Int32) (0 : Int32) (3 : Int32)) r1 7)) r1 8)) r1 9)) r1 10)) r1 11)) r1 12)) o 13 ((hy_up (hy_up (hy_up (hy_up (hy_up (hy_up (hy_cpS (hy_cpS σ (r1 + 2) (o + 2) (0 : Int32) (0 : Int32) (36 : Int32)) (r1 + 3) (o + 3) (0 : Int32) (0 : Int32) (3 : Int32)) o 7 ((hy_cpS (hy_cpS σ (r1 + 2) (o + 2) (0 : Int32) (0 : Int32) (36 : Int32)) (r1 + 3) (o + 3) (0 : Int32) (0 : Int32) (3 : Int32)) r1 7)) o 8 ((hy_up (hy_cpS (hy_cpS σ (r1 + 2) (o + 2) (0 : Int32) (0 : Int32) (36 : Int32)) (r1 + 3) (o + 3) (0 : Int32) (0 : Int32) (3 : Int32)) o 7 ((hy_cpS (hy_cpS σ (r1 + 2) (o + 2) (0 : Int32) (0 : Int32) (36 : Int32)) (r1 + 3) (o + 3) (0 : Int32) (0 : Int32) (3 : Int32)) r1 7)) r1 8)) o 9 ((hy_up (hy_up (hy_cpS (hy_cpS σ (r1 + 2) (o + 2) (0 : Int32) (0 : Int32) (36 : Int32)) (r1 + 3) (o + 3) (0 : Int32) (0 : Int32) (3 : Int32)) o 7 ((hy_cpS (hy_cpS σ (r1 + 2) (o + 2) (0 : Int32) (0 : Int32) (36 : Int32)) (r1 + 3) (o + 3) (0 : Int32) (0 : Int32) (3 : Int32)) r1 7)) o 8 ((hy_up (hy_cpS (hy_cpS σ (r1 + 2) (o + 2) (0 : Int32) (0 : Int32) (36 : Int32)) (r1 + 3) (o + 3) (0 : Int32) (0 : Int32) (3 : Int32)) o 7 ((hy_cpS (hy_cpS σ (r1 + 2) (o + 2) (0 : Int32) (0 : Int32) (36 : Int32)) (r1 + 3) (o + 3) (0 : Int32) (0 : Int32) (3 : Int32)) r1 7)) r1 8)) r1 9)) o 10 ((hy_up (hy_up (hy_up (hy_cpS (hy_cpS σ (r1 + 2) (o + 2) (0 : Int32) (0 : Int32) (36 : Int32)) (r1 + 3) (o + 3) (0 : Int32) (0 : Int32) (3 : Int32)) o 7 ((hy_cpS (hy_cpS σ (r1 + 2) (o + 2) (0 : Int32) (0 : Int32) (36 : Int32)) (r1 + 3) (o + 3) (0 : Int32) (0 : Int32) (3 : Int32)) r1 7)) o 8 ((hy_up (hy_cpS (hy_cpS σ (r1 + 2) (o + 2) (0 : Int32) (0 : Int32) (36 : Int32)) (r1 + 3) (o + 3) (0 : Int32) (0 : Int32) (3 : Int32)) o 7 ((hy_cpS (hy_cpS σ (r1 + 2) (o + 2) (0 : Int32) (0 : Int32) (36 : Int32)) (r1 + 3) (o + 3) (0 : Int32) (0 : Int32) (3 : Int32)) r1 7)) r1 8)) o 9 ((hy_up (hy_up (hy_cpS (hy_cpS σ (r1 + 2) (o + 2) (0 : Int32) (0 : Int32) (36 : Int32)) (r1 + 3) (o + 3) (0 : Int32) (0 : Int32) (3 : Int32)) o 7 ((hy_cpS (hy_cpS σ (r1 + 2) (o + 2) (0 : Int32) (0 : Int32) (36 : Int32)) (r1 + 3) (o + 3) (0 : Int32) (0 : Int32) (3 : Int32)) r1 7)) o 8 ((hy_up (hy_cpS (hy_cpS σ (r1 + 2) (o + 2) (0 : Int32) (0 : Int32) (36 : Int32)) (r1 + 3) (o + 3) (0 : Int32) (0 : Int32) (3 : Int32)) o 7 ((hy_cpS (hy_cpS σ (r1 + 2) (o + 2) (0 : Int32) (0 : Int32) (36 : Int32)) (r1 + 3) (o + 3) (0 : Int32) (0 : Int32) (3 : Int32)) r1 7)) r1 8)) r1 9)) r1 10)) o 11 ((hy_up (hy_up (hy_up (hy_up (hy_cpS (hy_cpS σ (r1 + 2) (o + 2) (0 : Int32) (0 : Int32) (36 : Int32)) (r1 + 3) (o + 3) (0 : Int32) (0 : Int32) (3 : Int32)) o 7 ((hy_cpS (hy_cpS σ (r1 + 2) (o + 2) (0 : Int32) (0 : Int32) (36 : Int32)) (r1 + 3) (o + 3) (0 : Int32) (0 : Int32) (3 : Int32)) r1 7)) o 8 ((hy_up (hy_cpS (hy_cpS σ (r1 + 2) (o + 2) (0 : Int32) (0 : Int32) (36 : Int32)) (r1 + 3) (o + 3) (0 : Int32) (0 : Int32) (3 : Int32)) o 7 ((hy_cpS (hy_cpS σ (r1 + 2) (o + 2) (0 : Int32) (0 : Int32) (36 : Int32)) (r1 + 3) (o + 3) (0 : Int32) (0 : Int32) (3 : Int32)) r1 7)) r1 8)) o 9 ((hy_up (hy_up (hy_cpS (hy_cpS σ (r1 + 2) (o + 2) (0 : Int32) (0 : Int32) (36 : Int32)) (r1 + 3) (o + 3) (0 : Int32) (0 : Int32) (3 : Int32)) o 7 ((hy_cpS (hy_cpS σ (r1 + 2) (o + 2) (0 : Int32) (0 : Int32) (36 : Int32)) (r1 + 3) (o + 3) (0 : Int32) (0 : Int32) (3 : Int32)) r1 7)) o 8 ((hy_up (hy_cpS (hy_cpS σ (r1 + 2) (o + 2) (0 : Int32) (0 : Int32) (36 : Int32)) (r1 + 3) (o + 3) (0 : Int32) (0 : Int32) (3 : Int32)) o 7 ((hy_cpS (hy_cpS σ (r1 + 2) (o + 2) (0 : Int32) (0 : Int32) (36 : Int32)) (r1 + 3) (o + 3) (0 : Int32) (0 : Int32) (3 : Int32)) r1 7)) r1 8)) r1 9)) o 10 ((hy_up (hy_up (hy_up (hy_cpS (hy_cpS σ (r1 + 2) (o + 2) (0 : Int32) (0 : Int32) (36 : Int32)) (r1 + 3) (o + 3) (0 : Int32) (0 : Int32) (3 : Int32)) o 7 ((hy_cpS (hy_cpS σ (r1 + 2) (o + 2) (0 : Int32) (0 : Int32) (36 : Int32)) (r1 + 3) (o + 3) (0 : Int32) (0 : Int32) (3 : Int32)) r1 7)) o 8 ((hy_up (hy_cpS (hy_cpS σ (r1 + 2) (o + 2) (0 : Int32) (0 : Int32) (36 : Int32)) (r1 + 3) (o + 3) (0 : Int32) (0 : Int32) (3 : Int32)) o 7 ((hy_cpS (hy_cpS σ (r1 + 2) (o + 2) (0 : Int32) (0 : Int32) (36 : Int32)) (r1 + 3) (o + 3) (0 : Int32) (0 : Int32) (3 : Int32)) r1 7)) r1 8)) o 9 ((hy_up (hy_up (hy_cpS (hy_cpS σ (r1 + 2) (o + 2) (0 : Int32) (0 : Int32) (36 : Int32)) (r1 + 3) (o + 3) (0 : Int32) (0 : Int32) (3 : Int32)) o 7 ((hy_cpS (hy_cpS σ (r1 + 2) (o + 2) (0 : Int32) (0 : Int32) (36 : Int32)) (r1 + 3) (o + 3) (0 : Int32) (0 : Int32) (3 : Int32)) r1 7)) o 8 ((hy_up (hy_cpS (hy_cpS σ (r1 + 2) (o + 2) (0 : Int32) (0 : Int32) (36 : Int32)) (r1 + 3) (o + 3) (0 : Int32) (0 : Int32) (3 : Int32)) o 7 ((hy_cpS (hy_cpS σ (r1 + 2) (o + 2) (0 : Int32) (0 : Int32) (36 : Int32)) (r1 + 3) (o + 3) (0 : Int32) (0 : Int32) (3 : Int32)) r1 7)) r1 8)) r1 9)) r1 10)) r1 11)) o 12 ((hy_up (hy_up (hy_up (hy_up (hy_up (hy_cpS (hy_cpS σ (r1 + 2) (o + 2) (0 : Int32) (0 : Int32) (36 : Int32)) (r1 + 3) (o + 3) (0 : Int32) (0 : Int32) (3 : Int32)) o 7 ((hy_cpS (hy_cpS σ (r1 + 2) (o + 2) (0 : Int32) (0 : Int32) (36 : Int32)) (r1 + 3) (o + 3) (0 : Int32) (0 : Int32) (3 : Int32)) r1 7)) o 8 ((hy_up (hy_cpS (hy_cpS σ (r1 + 2) (o + 2) (0 : Int32) (0 : Int32) (36 : Int32)) (r1 + 3) (o + 3) (0 : Int32) (0 : Int32) (3 : Int32)) o 7 ((hy_cpS (hy_cpS σ (r1 + 2) (o + 2) (0 : Int32) (0 : Int32) (36 : Int32)) (r1 + 3) (o + 3) (0 : Int32) (0 : Int32) (3 : Int32)) r1 7)) r1 8)) o 9 ((hy_up (hy_up (hy_cpS (hy_cpS σ (r1 + 2) (o + 2) (0 : Int32) (0 : Int32) (36 : Int32)) (r1 + 3) (o + 3) (0 : Int32) (0 : Int32) (3 : Int32)) o 7 ((hy_cpS (hy_cpS σ (r1 + 2) (o + 2) (0 : Int32) (0 : Int32) (36 : Int32)) (r1 + 3) (o + 3) (0 : Int32) (0 : Int32) (3 : Int32)) r1 7)) o 8 ((hy_up (hy_cpS (hy_cpS σ (r1 + 2) (o + 2) (0 : Int32) (0 : Int32) (36 : Int32)) (r1 + 3) (o + 3) (0 : Int32) (0 : Int32) (3 : Int32)) o 7 ((hy_cpS (hy_cpS σ (r1 + 2) (o + 2) (0 : Int32) (0 : Int32) (36 : Int32)) (r1 + 3) (o + 3) (0 : Int32) (0 : Int32) (3 : Int32)) r1 7)) r1 8)) r1 9)) o 10 ((hy_up (hy_up (hy_up (hy_cpS (hy_cpS σ (r1 + 2) (o + 2) (0 : Int32) (0 : Int32) (36 : Int32)) (r1 + 3) (o + 3) (0 : Int32) (0 : Int32) (3 : Int32)) o 7 ((hy_cpS (hy_cpS σ (r1 + 2) (o + 2) (0 : Int32) (0 : Int32) (36 : Int32)) (r1 + 3) (o + 3) (0 : Int32) (0 : Int32) (3 : Int32)) r1 7)) o 8 ((hy_up (hy_cpS (hy_cpS σ (r1 + 2) (o + 2) (0 : Int32) (0 : Int32) (36 : Int32)) (r1 + 3) (o + 3) (0 : Int32) (0 : Int32) (3 : Int32)) o 7 ((hy_cpS (hy_cpS σ (r1 + 2) (o + 2) (0 : Int32) (0 : Int32) (36 : Int32)) (r1 + 3) (o + 3) (0 : Int32) (0 : Int32) (3 : Int32)) r1 7)) r1 8)) o 9 ((hy_up (hy_up (hy_cpS (hy_cpS σ (r1 + 2) (o + 2) (0 : Int32) (0 : Int32) (36 : Int32)) (r1 + 3) (o + 3) (0 : Int32) (0 : Int32) (3 : Int32)) o 7 ((hy_cpS (hy_cpS σ (r1 + 2) (o + 2) (0 : Int32) (0 : Int32) (36 : Int32)) (r1 + 3) (o + 3) (0 : Int32) (0 : Int32) (3 : Int32)) r1 7)) o 8 ((hy_up (hy_cpS (hy_cpS σ (r1 + 2) (o + 2) (0 : Int32) (0 : Int32) (36 : Int32)) (r1 + 3) (o + 3) (0 : Int32) (0 : Int32) (3 : Int32)) o 7 ((hy_cpS (hy_cpS σ (r1 + 2) (o + 2) (0 : Int32) (0 : Int32) (36 : Int32)) (r1 + 3) (o + 3) (0 : Int32) (0 : Int32) (3 : Int32)) r1 7)) r1 8)) r1 9)) r1 10)) o 11 ((hy_up (hy_up (hy_up (hy_up (hy_cpS (hy_cpS σ (r1 + 2) (o + 2) (0 : Int32) (0 : Int32) (36 : Int32)) (r1 + 3) (o + 3) (0 : Int32) (0 : Int32) (3 : Int32)) o 7 ((hy_cpS (hy_cpS σ (r1 + 2) (o + 2) (0 : Int32) (0 : Int32) (36 : Int32)) (r1 + 3) (o + 3) (0 : Int32) (0 : Int32) (3 : Int32)) r1 7)) o 8 ((hy_up (hy_cpS (hy_cpS σ (r1 + 2) (o + 2) (0 : Int32) (0 : Int32) (36 : Int32)) (r1 + 3) (o + 3) (0 : Int32) (0 : Int32) (3 : Int32)) o 7 ((hy_cpS (hy_cpS σ (r1 + 2) (o + 2) (0 : Int32) (0 : Int32) (36 : Int32)) (r1 + 3) (o + 3) (0 : Int32) (0 : Int32) (3 : Int32)) r1 7)) r1 8)) o 9 ((hy_up (hy_up (hy_cpS (hy_cpS σ (r1 + 2) (o + 2) (0 : Int32) (0 : Int32) (36 : Int32)) (r1 + 3) (o + 3) (0 : Int32) (0 : Int32) (3 : Int32)) o 7 ((hy_cpS (hy_cpS σ (r1 + 2) (o + 2) (0 : Int32) (0 : Int32) (36 : Int32)) (r1 + 3) (o + 3) (0 : Int32) (0 : Int32) (3 : Int32)) r1 7)) o 8 ((hy_up (hy_cpS (hy_cpS σ (r1 + 2) (o + 2) (0 : Int32) (0 : Int32) (36 : Int32)) (r1 + 3) (o + 3) (0 : Int32) (0 : Int32) (3 : Int32)) o 7 ((hy_cpS (hy_cpS σ (r1 + 2) (o + 2) (0 : Int32) (0 : Int32) (36 : Int32)) (r1 + 3) (o + 3) (0 : Int32) (0 : Int32) (3 : Int32)) r1 7)) r1 8)) r1 9)) o 10 ((hy_up (hy_up (hy_up (hy_cpS (hy_cpS σ (r1 + 2) (o + 2) (0 : Int32) (0 : Int32) (36 : Int32)) (r1 + 3) (o + 3) (0 : Int32) (0 : Int32) (3 : Int32)) o 7 ((hy_cpS (hy_cpS σ (r1 + 2) (o + 2) (0 : Int32) (0 : Int32) (36 : Int32)) (r1 + 3) (o + 3) (0 : Int32) (0 : Int32) (3 : Int32)) r1 7)) o 8 ((hy_up (hy_cpS (hy_cpS σ (r1 + 2) (o + 2) (0 : Int32) (0 : Int32) (36 : Int32)) (r1 + 3) (o + 3) (0 : Int32) (0 : Int32) (3 : Int32)) o 7 ((hy_cpS (hy_cpS σ (r1 + 2) (o + 2) (0 : Int32) (0 : Int32) (36 : Int32)) (r1 + 3) (o + 3) (0 : Int32) (0 : Int32) (3 : Int32)) r1 7)) r1 8)) o 9 ((hy_up (hy_up (hy_cpS (hy_cpS σ (r1 + 2) (o + 2) (0 : Int32) (0 : Int32) (36 : Int32)) (r1 + 3) (o + 3) (0 : Int32) (0 : Int32) (3 : Int32)) o 7 ((hy_cpS (hy_cpS σ (r1 + 2) (o + 2) (0 : Int32) (0 : Int32) (36 : Int32)) (r1 + 3) (o + 3) (0 : Int32) (0 : Int32) (3 : Int32)) r1 7)) o 8 ((hy_up (hy_cpS (hy_cpS σ (r1 + 2) (o + 2) (0 : Int32) (0 : Int32) (36 : Int32)) (r1 + 3) (o + 3) (0 : Int32) (0 : Int32) (3 : Int32)) o 7 ((hy_cpS (hy_cpS σ (r1 + 2) (o + 2) (0 : Int32) (0 : Int32) (36 : Int32)) (r1 + 3) (o + 3) (0 : Int32) (0 : Int32) (3 : Int32)) r1 7)) r1 8)) r1 9)) r1 10)) r1 11)) r1 12)) r1 13))) else none) else none) else (if hy_ib x2 12 then if hy_ib x2 12 then (J50 ((o + 7) + hy_ix x2) ((r1 + 7) + hy_ix x2) σ).bind fun σ1 => J49_1  n o r1 (x2 + (1 : Int32)) σ1 else none else none)
/-- Common.becomes(LHayBoard$Common;)V -/
def J49 (o : Nat) (a0 : Nat) (σ : Sg) : Option (Sg) :=
  J49_1  hy_fu o a0 (0 : Int32) σ
/-- Common.makesBest(I)V -/
def J51 (o : Nat) (a0 : Int32) (σ : Sg) : Option (Sg) :=
  (J43 o a0 σ).bind fun σ1 => if (σ1 (o + 6) 0) = (-1000000005 : Int32) then (some σ1) else ((J36 o ((σ1 (o + 6) 0) / (100 : Int32)) (hy_rem (σ1 (o + 6) 0) (100 : Int32)) σ1).bind fun p2 => some p2.2)
def J48_1  : Nat → Int32 → Int32 → Int32 → Sg → Option (Sg)
  | 0, _, _, _, _ => none
  | n + 1, x1, x2, x3, σ => if x2 ≤ x3 then (some σ) else (if hy_ib x3 432 then (J49 100 81 σ).bind fun σ1 => (J36 100 ((σ 85 (hy_ix x3)) / (100 : Int32)) (hy_rem (σ 85 (hy_ix x3)) (100 : Int32)) σ1).bind fun p2 => (J51 100 ((1 : Int32) - x1) p2.2).bind fun σ3 => (J45 100 x1 σ3).bind fun p4 => (J46 7 (σ 85 (hy_ix x3)) ((-p4.1)) p4.1 p4.2).bind fun σ5 => J48_1  n x1 x2 (x3 + (1 : Int32)) σ5 else none)
/-- HayBoard.lookTwoAhead(I)V -/
def J48 (a0 : Int32) (σ : Sg) : Option (Sg) :=
  (J44 7 σ).bind fun σ11 => (J40 81 a0 σ11).bind fun p12 => J48_1  hy_fu a0 p12.1 (0 : Int32) p12.2
/-- HayBoard.best(III)I -/
def J42 (a0 : Int32) (a1 : Int32) (a2 : Int32) (σ : Sg) : Option (Int32 × Sg) :=
  (J4 a0 σ).bind fun p1 => if p1.1 = 0 then (some ((-1000000001 : Int32), p1.2)) else ((J3 a1 (1 : Int32) (2 : Int32) p1.2).bind fun p2 => if p2.1 = 0 then (some ((-1000000001 : Int32), p2.2)) else ((J3 a2 (0 : Int32) (1 : Int32) p2.2).bind fun p3 => if p3.1 = 0 then (some ((-1000000001 : Int32), p3.2)) else (if a1 = (1 : Int32) then ((J43 81 a0 p3.2).bind fun σ6 => (J47 87 a2 σ6).bind fun p7 => some (p7.1, p7.2)) else ((J48 a0 p3.2).bind fun σ4 => (J47 7 a2 σ4).bind fun p5 => some (p5.1, p5.2)))))
def J53_1  : Nat → Nat → Int32 → Int32 → Sg → Option (Int32 × Sg)
  | 0, _, _, _, _ => none
  | n + 1, o, x1, x2, σ => if (σ o 7) ≤ x2 then (some ((0 : Int32), σ)) else (if hy_ib x1 12 then (J21 o x2 (σ ((o + 7) + hy_ix x1) 2) σ).bind fun p1 => if p1.1 = 0 then (J53_1  n o x1 (x2 + (1 : Int32)) p1.2) else (some ((1 : Int32), p1.2)) else none)
/-- Common.isThreatened(I)Z -/
def J53 (o : Nat) (a0 : Int32) (σ : Sg) : Option (Int32 × Sg) :=
  J53_1  hy_fu o a0 (0 : Int32) σ
def J52_3 (k2 : Int32 → Int32 → Int32 → Sg → Option (Int32 × Sg))  (x1 : Int32) (x2 : Int32) (x3 : Int32) (σ : Sg) : Option (Int32 × Sg) :=
  k2 x1 x2 (x3 + (1 : Int32)) σ
def J52_2  : Nat → Int32 → Int32 → Int32 → Sg → Option (Int32 × Sg)
  | 0, _, _, _, _ => none
  | n + 1, x1, x2, x3, σ => if (σ 81 7) ≤ x3 then (some (x2, σ)) else ((J41 81 x3 x1 σ).bind fun p1 => if p1.1 = 0 then (J52_3 (J52_2  n) x1 x2 x3 p1.2) else ((J53 81 x3 p1.2).bind fun p2 => if p2.1 = 0 then (J52_3 (J52_2  n) x1 x2 x3 p2.2) else (J52_3 (J52_2  n) x1 (x2 ||| ((1 : Int32) <<< (x3 &&& 31))) x3 p2.2)))
/-- HayBoard.threats(I)I -/
def J52 (a0 : Int32) (σ : Sg) : Option (Int32 × Sg) :=
  (J4 a0 σ).bind fun p4 => if p4.1 = 0 then (some ((-1000000001 : Int32), p4.2)) else (J52_2  hy_fu a0 (0 : Int32) (0 : Int32) p4.2)
/-- HayBoard.lead(I)I -/
def J54 (a0 : Int32) (σ : Sg) : Option (Int32 × Sg) :=
  (J4 a0 σ).bind fun p1 => if p1.1 = 0 then (some ((-1000000001 : Int32), p1.2)) else ((J45 81 a0 p1.2).bind fun p2 => some (p2.1, p2.2))
def J57_2 (k1 : Nat → Int32 → Int32 → Int32 → Sg → Option (Int32 × Sg))  (o : Nat) (x1 : Int32) (x2 : Int32) (x3 : Int32) (σ : Sg) : Option (Int32 × Sg) :=
  k1 o x1 x2 (x3 + (1 : Int32)) σ
def J57_1  : Nat → Nat → Int32 → Int32 → Int32 → Sg → Option (Int32 × Sg)
  | 0, _, _, _, _, _ => none
  | n + 1, o, x1, x2, x3, σ => if (σ o 7) ≤ x3 then (some (x2, σ)) else ((J41 o x3 x1 σ).bind fun p1 => if p1.1 = 0 then (J57_2 (J57_1  n) o x1 x2 x3 p1.2) else (J57_2 (J57_1  n) o x1 (x2 + (1 : Int32)) x3 p1.2))
/-- Common.manyOnOf(I)I -/
def J57 (o : Nat) (a0 : Int32) (σ : Sg) : Option (Int32 × Sg) :=
  J57_1  hy_fu o a0 (0 : Int32) (0 : Int32) σ
/-- Common.manyOn()I -/
def J56 (o : Nat) (σ : Sg) : Option (Int32 × Sg) :=
  (J57 o (0 : Int32) σ).bind fun p1 => (J57 o (1 : Int32) p1.2).bind fun p2 => some ((p1.1 + p2.1), p2.2)
/-- Common.graze()V -/
def J59 (o : Nat) (σ : Sg) : Option (Sg) :=
  (J33 o σ).bind fun p1 => if (hy_rem p1.1 (100 : Int32)) < (p1.2 o 10) then ((J33 o p1.2).bind fun p2 => if hy_ib (hy_rem p2.1 (36 : Int32)) 36 then if (p2.2 (o + 2) (hy_ix (hy_rem p2.1 (36 : Int32)))) = (-1000000005 : Int32) then (some p2.2) else (if hy_ib (p2.2 (o + 2) (hy_ix (hy_rem p2.1 (36 : Int32)))) 12 then (J17 ((o + 7) + hy_ix (p2.2 (o + 2) (hy_ix (hy_rem p2.1 (36 : Int32))))) p2.2).bind fun p3 => if (1 : Int32) ≤ ((hy_up p3.2 ((o + 7) + hy_ix (p2.2 (o + 2) (hy_ix (hy_rem p2.1 (36 : Int32))))) 3 ((p2.2 ((o + 7) + hy_ix (p2.2 (o + 2) (hy_ix (hy_rem p2.1 (36 : Int32))))) 3) - p3.1)) ((o + 7) + hy_ix (p2.2 (o + 2) (hy_ix (hy_rem p2.1 (36 : Int32))))) 3) then (some (hy_up p3.2 ((o + 7) + hy_ix (p2.2 (o + 2) (hy_ix (hy_rem p2.1 (36 : Int32))))) 3 ((p2.2 ((o + 7) + hy_ix (p2.2 (o + 2) (hy_ix (hy_rem p2.1 (36 : Int32))))) 3) - p3.1))) else ((J8 o (p2.2 (o + 2) (hy_ix (hy_rem p2.1 (36 : Int32)))) (36 : Int32) (hy_up (hy_up p3.2 ((o + 7) + hy_ix (p2.2 (o + 2) (hy_ix (hy_rem p2.1 (36 : Int32))))) 3 ((p2.2 ((o + 7) + hy_ix (p2.2 (o + 2) (hy_ix (hy_rem p2.1 (36 : Int32))))) 3) - p3.1)) ((o + 7) + hy_ix (p2.2 (o + 2) (hy_ix (hy_rem p2.1 (36 : Int32))))) 3 (1 : Int32))).bind fun σ4 => some σ4) else none) else none) else (some p1.2)
/-- Bale.getsWet()V -/
def J61 (o : Nat) (σ : Sg) : Option (Sg) :=
  if (1 : Int32) ≤ ((hy_up σ o 3 ((σ o 3) - (1 : Int32))) o 3) then (some (hy_up σ o 3 ((σ o 3) - (1 : Int32)))) else (some (hy_up (hy_up (hy_up σ o 3 ((σ o 3) - (1 : Int32))) o 3 (1 : Int32)) o 0 (5 : Int32)))
def J60_3 (k2 : Nat → Int32 → Sg → Option (Sg))  (o : Nat) (x1 : Int32) (σ : Sg) : Option (Sg) :=
  k2 o (x1 + (1 : Int32)) σ
def J60_2  : Nat → Nat → Int32 → Sg → Option (Sg)
  | 0, _, _, _ => none
  | n + 1, o, x1, σ => if (σ o 7) ≤ x1 then (some σ) else ((J9 o x1 σ).bind fun p1 => if p1.1 = 0 then (J60_3 (J60_2  n) o x1 p1.2) else (if hy_ib x1 12 then (J61 ((o + 7) + hy_ix x1) p1.2).bind fun σ2 => J60_3 (J60_2  n) o x1 σ2 else none))
/-- Common.rainFalls()V -/
def J60 (o : Nat) (σ : Sg) : Option (Sg) :=
  (J33 o σ).bind fun p4 => if (hy_rem p4.1 (100 : Int32)) < (p4.2 o 9) then (J60_2  hy_fu o (0 : Int32) p4.2) else (some p4.2)
def J58_1  : Nat → Nat → Int32 → Int32 → Sg → Option (Sg)
  | 0, _, _, _, _ => none
  | n + 1, o, x1, x2, σ => if x1 ≤ x2 then (some σ) else ((J51 o (σ o 8) σ).bind fun σ1 => (J38 o σ1).bind fun σ2 => (J59 o σ2).bind fun σ3 => (J60 o σ3).bind fun σ4 => J58_1  n o x1 (x2 + (1 : Int32)) (hy_up σ4 o 11 ((σ4 o 11) + (1 : Int32))))
/-- Common.passDays(I)V -/
def J58 (o : Nat) (a0 : Int32) (σ : Sg) : Option (Sg) :=
  J58_1  hy_fu o a0 (0 : Int32) σ
/-- HayBoard.days(I)I -/
def J55 (a0 : Int32) (σ : Sg) : Option (Int32 × Sg) :=
  (J3 a0 (1 : Int32) (40 : Int32) σ).bind fun p1 => if p1.1 = 0 then (some ((-1000000001 : Int32), p1.2)) else ((J56 81 p1.2).bind fun p2 => (J58 81 (if ((9999 : Int32) - (p2.2 81 11)) < a0 then ((9999 : Int32) - (p2.2 81 11)) else a0) p2.2).bind fun σ3 => (J56 81 σ3).bind fun p4 => some ((p2.1 - p4.1), p4.2))
def J63_2 (k1 : Nat → Int32 → Int32 → Sg → Option (Int32 × Sg))  (o : Nat) (x1 : Int32) (x2 : Int32) (σ : Sg) : Option (Int32 × Sg) :=
  k1 o x1 (x2 + (1 : Int32)) σ
def J63_1  : Nat → Nat → Int32 → Int32 → Sg → Option (Int32 × Sg)
  | 0, _, _, _, _ => none
  | n + 1, o, x1, x2, σ => if (σ o 7) ≤ x2 then (some (x1, σ)) else ((J9 o x2 σ).bind fun p1 => if p1.1 = 0 then (J63_2 (J63_1  n) o x1 x2 p1.2) else (if hy_ib x2 12 then J63_2 (J63_1  n) o (x1 + (p1.2 ((o + 7) + hy_ix x2) 3)) x2 p1.2 else none))
/-- Common.hayOn()I -/
def J63 (o : Nat) (σ : Sg) : Option (Int32 × Sg) :=
  J63_1  hy_fu o (0 : Int32) (0 : Int32) σ
/-- HayBoard.behind(II)I -/
def J62 (a0 : Int32) (a1 : Int32) (σ : Sg) : Option (Int32 × Sg) :=
  (J3 a0 (0 : Int32) (40 : Int32) σ).bind fun p1 => if p1.1 = 0 then (some ((-1000000001 : Int32), p1.2)) else ((J3 a1 (0 : Int32) (((3 : Int32) + (p1.2 81 7)) - (1 : Int32)) p1.2).bind fun p2 => if p2.1 = 0 then (some ((-1000000001 : Int32), p2.2)) else ((J49 100 81 p2.2).bind fun σ3 => (J58 100 a0 σ3).bind fun σ4 => hy_sw a1 [((0 : Int32), (J45 100 (0 : Int32) σ4).bind fun p5 => some (p5.1, p5.2)), ((1 : Int32), (J56 100 σ4).bind fun p6 => some (p6.1, p6.2)), ((2 : Int32), (J63 100 σ4).bind fun p7 => some (p7.1, p7.2))] (if hy_ib (a1 - (3 : Int32)) 12 then some ((σ4 (107 + hy_ix (a1 - (3 : Int32))) 2), σ4) else none)))
def J64_1  : Nat → Int32 → Sg → Option (Int32 × Sg)
  | 0, _, _ => none
  | n + 1, x1, σ => if (100 : Int32) < x1 then (some ((-1000000005 : Int32), σ)) else ((J57 100 (0 : Int32) σ).bind fun p1 => if p1.1 = 0 then (some (x1, p1.2)) else ((J57 100 (1 : Int32) p1.2).bind fun p2 => if p2.1 = 0 then (some (x1, p2.2)) else ((J58 100 (1 : Int32) p2.2).bind fun σ3 => J64_1  n (x1 + (1 : Int32)) σ3)))
/-- HayBoard.ends()I -/
def J64  (σ : Sg) : Option (Int32 × Sg) :=
  (J49 100 81 σ).bind fun σ8 => J64_1  hy_fu (0 : Int32) σ8
/-- HayBoard.thinkGone(I)V -/
def J66 (a0 : Int32) (σ : Sg) : Option (Sg) :=
  (J49 100 81 σ).bind fun σ1 => (J8 100 a0 (36 : Int32) σ1).bind fun σ2 => some σ2
def J65_4 (k3 : Int32 → Int32 → Int32 → Sg → Option (Int32 × Sg))  (x1 : Int32) (x2 : Int32) (x3 : Int32) (σ : Sg) : Option (Int32 × Sg) :=
  k3 x1 x2 (x3 + (1 : Int32)) σ
def J65_3  : Nat → Int32 → Int32 → Int32 → Sg → Option (Int32 × Sg)
  | 0, _, _, _, _ => none
  | n + 1, x1, x2, x3, σ => if (σ 81 7) ≤ x3 then ((J47 7 x2 σ).bind fun p1 => some (p1.1, p1.2)) else ((J9 81 x3 σ).bind fun p2 => if p2.1 = 0 then (J65_4 (J65_3  n) x1 x2 x3 p2.2) else ((J66 x3 p2.2).bind fun σ3 => (J58 100 x1 σ3).bind fun σ4 => if hy_ib x3 12 then (J45 100 (σ4 (88 + hy_ix x3) 1) σ4).bind fun p5 => (J46 7 x3 p5.1 p5.1 p5.2).bind fun σ6 => J65_4 (J65_3  n) x1 x2 x3 σ6 else none))
/-- HayBoard.spared(II)I -/
def J65 (a0 : Int32) (a1 : Int32) (σ : Sg) : Option (Int32 × Sg) :=
  (J3 a0 (1 : Int32) (12 : Int32) σ).bind fun p13 => if p13.1 = 0 then (some ((-1000000001 : Int32), p13.2)) else ((J3 a1 (0 : Int32) (1 : Int32) p13.2).bind fun p14 => if p14.1 = 0 then (some ((-1000000001 : Int32), p14.2)) else ((J44 7 p14.2).bind fun σ15 => J65_3  hy_fu a0 a1 (0 : Int32) σ15))
def J67_4 (k3 : Int32 → Int32 → Int32 → Sg → Option (Int32 × Sg))  (x1 : Int32) (x2 : Int32) (x3 : Int32) (σ : Sg) : Option (Int32 × Sg) :=
  k3 x1 x2 (x3 + (1 : Int32)) σ
def J67_3  : Nat → Int32 → Int32 → Int32 → Sg → Option (Int32 × Sg)
  | 0, _, _, _, _ => none
  | n + 1, x1, x2, x3, σ => if (σ 81 7) ≤ x3 then ((J47 7 x2 σ).bind fun p1 => some (p1.1, p1.2)) else ((J41 81 x3 (0 : Int32) σ).bind fun p2 => if p2.1 = 0 then (J67_4 (J67_3  n) x1 x2 x3 p2.2) else ((J49 100 81 p2.2).bind fun σ3 => if hy_ib x3 12 then (J58 100 x1 (hy_up σ3 (107 + hy_ix x3) 1 (1 : Int32))).bind fun σ4 => (J45 100 (0 : Int32) σ4).bind fun p5 => (J46 7 x3 (if 0 ≤ p5.1 then p5.1 else 0 - p5.1) p5.1 p5.2).bind fun σ6 => J67_4 (J67_3  n) x1 x2 x3 σ6 else none))
/-- HayBoard.given(II)I -/
def J67 (a0 : Int32) (a1 : Int32) (σ : Sg) : Option (Int32 × Sg) :=
  (J3 a0 (1 : Int32) (12 : Int32) σ).bind fun p13 => if p13.1 = 0 then (some ((-1000000001 : Int32), p13.2)) else ((J3 a1 (0 : Int32) (1 : Int32) p13.2).bind fun p14 => if p14.1 = 0 then (some ((-1000000001 : Int32), p14.2)) else ((J44 7 p14.2).bind fun σ15 => J67_3  hy_fu a0 a1 (0 : Int32) σ15))
/-- HayBoard.isSheet(I)Z -/
def J69 (a0 : Int32) (σ : Sg) : Option (Int32 × Sg) :=
  (J3 a0 (0 : Int32) (3 : Int32) σ).bind fun p1 => if p1.1 = 0 ∨ p1.1 = 1 then some (p1.1, p1.2) else none
/-- Sheet.isMissing()Z -/
def J70 (o : Nat) (σ : Sg) : Option (Int32 × Sg) :=
  if (σ o 1) = (-1 : Int32) then (some ((1 : Int32), σ)) else (some ((0 : Int32), σ))
/-- Sheet.has(I)Z -/
def J73 (o : Nat) (a0 : Int32) (σ : Sg) : Option (Int32 × Sg) :=
  (J3 a0 (0 : Int32) ((σ o 2) - (1 : Int32)) σ).bind fun p1 => if p1.1 = 0 ∨ p1.1 = 1 then some (p1.1, p1.2) else none
/-- Sheet.isNumber(I)Z -/
def J72 (o : Nat) (a0 : Int32) (σ : Sg) : Option (Int32 × Sg) :=
  (J73 o a0 σ).bind fun p1 => if p1.1 = 0 then (some ((0 : Int32), p1.2)) else (if hy_ib a0 24 then if (p1.2 (o + 1) (hy_ix a0)) = (-1000000005 : Int32) then (some ((0 : Int32), p1.2)) else (some ((1 : Int32), p1.2)) else none)
def J71_4 (k1 : Nat → Nat → Int32 → Int32 → Sg → Option (Int32 × Sg))  (o : Nat) (r1 : Nat) (x2 : Int32) (x3 : Int32) (σ : Sg) : Option (Int32 × Sg) :=
  k1 o r1 x2 (x3 + (1 : Int32)) σ
def J71_3 (k1 : Nat → Nat → Int32 → Int32 → Sg → Option (Int32 × Sg)) (x100 : Int32) (o : Nat) (r1 : Nat) (x2 : Int32) (x3 : Int32) (σ : Sg) : Option (Int32 × Sg) :=
  if hy_ib x3 24 then J71_4 (k1) o r1 (x2 + (if 0 ≤ (x100 - (σ (r1 + 1) (hy_ix x3))) then (x100 - (σ (r1 + 1) (hy_ix x3))) else 0 - (x100 - (σ (r1 + 1) (hy_ix x3))))) x3 σ else none
def J71_1  : Nat → Nat → Nat → Int32 → Int32 → Sg → Option (Int32 × Sg)
  | 0, _, _, _, _, _ => none
  | n + 1, o, r1, x2, x3, σ => if (σ r1 2) ≤ x3 then (some (x2, σ)) else ((J72 r1 x3 σ).bind fun p1 => if p1.1 = 0 then (J71_4 (J71_1  n) o r1 x2 x3 p1.2) else ((J11 o x3 p1.2).bind fun p2 => if p2.1 = 0 then (J71_3 (J71_1  n) (0 : Int32) o r1 x2 x3 p2.2) else (if hy_ib x3 12 then J71_3 (J71_1  n) (p2.2 ((o + 7) + hy_ix x3) 2) o r1 x2 x3 p2.2 else none)))
/-- Common.differencesFrom(LHayBoard$Sheet;)I -/
def J71 (o : Nat) (a0 : Nat) (σ : Sg) : Option (Int32 × Sg) :=
  J71_1  hy_fu o a0 (0 : Int32) (0 : Int32) σ
def J68_5 (k4 : Int32 → Int32 → Int32 → Int32 → Sg → Option (Int32 × Sg))  (x1 : Int32) (x2 : Int32) (x3 : Int32) (x4 : Int32) (σ : Sg) : Option (Int32 × Sg) :=
  k4 x1 x2 x3 (x4 + (1 : Int32)) σ
def J68_4  : Nat → Int32 → Int32 → Int32 → Int32 → Sg → Option (Int32 × Sg)
  | 0, _, _, _, _, _ => none
  | n + 1, x1, x2, x3, x4, σ => if (σ 81 7) ≤ x4 then ((J47 7 x3 σ).bind fun p1 => some (p1.1, p1.2)) else ((J9 81 x4 σ).bind fun p2 => if p2.1 = 0 then (J68_5 (J68_4  n) x1 x2 x3 x4 p2.2) else ((J66 x4 p2.2).bind fun σ3 => (J58 100 x2 σ3).bind fun σ4 => if hy_ib x1 4 then (J71 100 (53 + 2 * hy_ix x1) σ4).bind fun p5 => (J46 7 x4 p5.1 p5.1 p5.2).bind fun σ6 => J68_5 (J68_4  n) x1 x2 x3 x4 σ6 else none))
/-- HayBoard.storm(III)I -/
def J68 (a0 : Int32) (a1 : Int32) (a2 : Int32) (σ : Sg) : Option (Int32 × Sg) :=
  (J69 a0 σ).bind fun p13 => if p13.1 = 0 then (some ((-1000000001 : Int32), p13.2)) else ((J3 a1 (0 : Int32) (12 : Int32) p13.2).bind fun p14 => if p14.1 = 0 then (some ((-1000000001 : Int32), p14.2)) else ((J3 a2 (0 : Int32) (1 : Int32) p14.2).bind fun p15 => if p15.1 = 0 then (some ((-1000000001 : Int32), p15.2)) else (if hy_ib a0 4 then (J70 (53 + 2 * hy_ix a0) p15.2).bind fun p16 => if p16.1 = 0 then ((J44 7 p16.2).bind fun σ17 => J68_4  hy_fu a0 a1 a2 (0 : Int32) σ17) else (some ((-1000000011 : Int32), p16.2)) else none)))
/-- HayBoard.fee()I -/
def J74  (σ : Sg) : Option (Int32 × Sg) :=
  (J13 (σ 84 1) σ).bind fun p1 => if p1.1 = 0 then (some ((p1.2 81 11), p1.2)) else (if hy_ib (σ 84 1) 14 then (J14 (11 + 3 * hy_ix (σ 84 1)) (p1.2 81 11) (p1.2 81 8) (0 : Int32) p1.2).bind fun p2 => some (p2.1, p2.2) else none)
/-- HayBoard.fine(I)I -/
def J75 (a0 : Int32) (σ : Sg) : Option (Int32 × Sg) :=
  (J11 81 a0 σ).bind fun p1 => if p1.1 = 0 then (some ((-1000000001 : Int32), p1.2)) else (if hy_ib a0 12 then (J13 (p1.2 84 2) p1.2).bind fun p2 => if p2.1 = 0 then (some ((p2.2 (88 + hy_ix a0) 4), p2.2)) else (if hy_ib (p1.2 84 2) 14 then (J14 (11 + 3 * hy_ix (p1.2 84 2)) (p2.2 (88 + hy_ix a0) 4) (p2.2 (88 + hy_ix a0) 3) (0 : Int32) p2.2).bind fun p3 => some (p3.1, p3.2) else none) else none)
def J77_1  : Nat → Int32 → Int32 → Sg → Option (Sg)
  | 0, _, _, _ => none
  | n + 1, x1, x2, σ => if x2 < 0 then (some σ) else (if hy_ib (σ 2 2) 96 then J77_1  n x1 (x2 + (-8 : Int32)) (hy_up (hy_up σ 3 (hy_ix (σ 2 2)) (((x1.toUInt32 >>> (x2.toUInt32 &&& Int32.toUInt32 31)).toInt32) &&& (255 : Int32))) 2 2 (((hy_up σ 3 (hy_ix (σ 2 2)) (((x1.toUInt32 >>> (x2.toUInt32 &&& Int32.toUInt32 31)).toInt32) &&& (255 : Int32))) 2 2) + (1 : Int32))) else none)
/-- Tape.adds(I)V -/
def J77 (a0 : Int32) (σ : Sg) : Option (Sg) :=
  J77_1  hy_fu a0 (24 : Int32) σ
/-- HayBoard.feed(III)I -/
def J76 (a0 : Int32) (a1 : Int32) (a2 : Int32) (σ : Sg) : Option (Int32 × Sg) :=
  if ((σ 2 2) + (12 : Int32)) ≤ (96 : Int32) then ((J77 a0 σ).bind fun σ1 => (J77 a1 σ1).bind fun σ2 => (J77 a2 σ2).bind fun σ3 => some ((σ3 2 2), σ3)) else (some ((-1000000003 : Int32), σ))
/-- HayBoard.trim(I)I -/
def J78 (a0 : Int32) (σ : Sg) : Option (Int32 × Sg) :=
  (J3 a0 (0 : Int32) (σ 2 2) σ).bind fun p1 => if p1.1 = 0 then (some ((-1000000001 : Int32), p1.2)) else (some (a0, (hy_up p1.2 2 2 a0)))
/-- Law.clear()V -/
def J81 (o : Nat) (σ : Sg) : Option (Sg) :=
  some (hy_up (hy_up σ o 4 (0 : Int32)) o 2 (0 : Int32))
/-- Tape.byteAt(I)I -/
def J83 (a0 : Int32) (σ : Sg) : Option (Int32 × Sg) :=
  if a0 < 0 then (some ((-1000000005 : Int32), σ)) else (if (σ 2 2) ≤ a0 then (some ((-1000000005 : Int32), σ)) else (if hy_ib a0 96 then some ((σ 3 (hy_ix a0)), σ) else none))
def J82_1  : Nat → Sg → Option (Sg)
  | 0, _ => none
  | n + 1, σ => if (σ 2 2) ≤ (σ 2 3) then (some σ) else ((J83 (σ 2 3) σ).bind fun p1 => if p1.1 = (32 : Int32) then (J82_1  n (hy_up p1.2 2 3 ((p1.2 2 3) + (1 : Int32)))) else (some p1.2))
/-- Tape.passTo(I)V -/
def J82 (a0 : Int32) (σ : Sg) : Option (Sg) :=
  J82_1  hy_fu  (hy_up σ 2 3 a0)
/-- Tape.isLetter(I)Z -/
def J87 (a0 : Int32) (σ : Sg) : Option (Int32 × Sg) :=
  if a0 < (97 : Int32) then (some ((0 : Int32), σ)) else (if (122 : Int32) < a0 then (some ((0 : Int32), σ)) else (some ((1 : Int32), σ)))
/-- Tape.isDigit(I)Z -/
def J88 (a0 : Int32) (σ : Sg) : Option (Int32 × Sg) :=
  if a0 < (48 : Int32) then (some ((0 : Int32), σ)) else (if (57 : Int32) < a0 then (some ((0 : Int32), σ)) else (some ((1 : Int32), σ)))
def J86_3 (k1 : Int32 → Int32 → Sg → Option (Int32 × Sg))  (x1 : Int32) (x2 : Int32) (σ : Sg) : Option (Int32 × Sg) :=
  k1 x1 (x2 + (1 : Int32)) σ
def J86_1  : Nat → Int32 → Int32 → Sg → Option (Int32 × Sg)
  | 0, _, _, _ => none
  | n + 1, x1, x2, σ => if (σ 2 2) ≤ x2 then (some (x2, σ)) else (if x1 = 0 then ((J83 x2 σ).bind fun p1 => (J88 p1.1 p1.2).bind fun p2 => if p2.1 = 0 then (some (x2, p2.2)) else (J86_3 (J86_1  n) x1 x2 p2.2)) else ((J83 x2 σ).bind fun p4 => (J87 p4.1 p4.2).bind fun p5 => if p5.1 = 0 then (some (x2, p5.2)) else (J86_3 (J86_1  n) x1 x2 p5.2)))
/-- Tape.wordEnd()I -/
def J86  (σ : Sg) : Option (Int32 × Sg) :=
  (J83 (σ 2 3) σ).bind fun p7 => (J87 p7.1 p7.2).bind fun p8 => J86_1  hy_fu p8.1 (p8.2 2 3) p8.2
/-- java/lang/String.coder()B -/
def J219 (o : Nat) (σ : Sg) : Option (Int32 × Sg) :=
  if (1 : Int32) = 0 then (if ((1 : Int32)).toInt8.toInt32 = (1 : Int32) then some ((1 : Int32), σ) else none) else (if ((σ o 1)).toInt8.toInt32 = (σ o 1) then some ((σ o 1), σ) else none)
/-- java/lang/String.length()I -/
def J218 (o : Nat) (σ : Sg) : Option (Int32 × Sg) :=
  (J219 o σ).bind fun p1 => some (((hy_dl σ (o + 10)) >>> (p1.1 &&& 31)), p1.2)
/-- java/lang/String.isLatin1()Z -/
def J221 (o : Nat) (σ : Sg) : Option (Int32 × Sg) :=
  if (1 : Int32) = 0 then (some ((0 : Int32), σ)) else (if (σ o 1) = 0 then (some ((1 : Int32), σ)) else (some ((0 : Int32), σ)))
/-- jdk/internal/util/Preconditions.checkIndex(IILjava/util/function/BiFunction;)I -/
def J224 (a0 : Int32) (a1 : Int32) (σ : Sg) : Option (Int32 × Sg) :=
  if a0 < 0 then (none) else (if a0 < a1 then (some (a0, σ)) else (none))
/-- java/lang/String.checkIndex(II)V -/
def J223 (a0 : Int32) (a1 : Int32) (σ : Sg) : Option (Sg) :=
  (J224 a0 a1 σ).bind fun p1 => some p1.2
/-- java/lang/StringLatin1.charAt([BI)C -/
def J222 (a0 : Nat) (a1 : Int32) (σ : Sg) : Option (Int32 × Sg) :=
  (J223 a1 (hy_dl σ a0) σ).bind fun σ1 => if hy_ib a1 (hy_dl σ1 a0).toInt then if (((((((σ1 a0 (hy_ix a1)) &&& (255 : Int32))).toUInt32 % 65536).toInt32)).toUInt32 % 65536).toInt32 = (((((σ1 a0 (hy_ix a1)) &&& (255 : Int32))).toUInt32 % 65536).toInt32) then some ((((((σ1 a0 (hy_ix a1)) &&& (255 : Int32))).toUInt32 % 65536).toInt32), σ1) else none else none
/-- java/lang/String.charAt(I)C -/
def J220 (o : Nat) (a0 : Int32) (σ : Sg) : Option (Int32 × Sg) :=
  (J221 o σ).bind fun p1 => if p1.1 = 0 then (none) else ((J222 (o + 10) a0 p1.2).bind fun p2 => if ((p2.1).toUInt32 % 65536).toInt32 = p2.1 then some (p2.1, p2.2) else none)
def J85_2  : Nat → Nat → Int32 → Sg → Option (Int32 × Sg)
  | 0, _, _, _ => none
  | n + 1, r1, x2, σ => (J218 r1 σ).bind fun p1 => if p1.1 ≤ x2 then (some ((1 : Int32), p1.2)) else ((J83 ((p1.2 2 3) + x2) p1.2).bind fun p2 => (J220 r1 x2 p2.2).bind fun p3 => if p2.1 = p3.1 then (J85_2  n r1 (x2 + (1 : Int32)) p3.2) else (some ((0 : Int32), p3.2)))
/-- Tape.isWord(Ljava/lang/String;)Z -/
def J85 (a0 : Nat) (σ : Sg) : Option (Int32 × Sg) :=
  (J86  σ).bind fun p8 => (J218 a0 p8.2).bind fun p9 => if (p8.1 - (p8.2 2 3)) = p9.1 then (J85_2  hy_fu a0 (0 : Int32) p9.2) else (some ((0 : Int32), p9.2))
def J84_4  (x100 : Int32)  (σ : Sg) : Option (Int32 × Sg) :=
  if x100 = (-1000000005 : Int32) then (some ((0 : Int32), σ)) else ((J86  (hy_up σ 4 3 x100)).bind fun p1 => (J82 p1.1 p1.2).bind fun σ2 => some ((1 : Int32), σ2))
/-- Tape.readKey()Z -/
def J84  (σ : Sg) : Option (Int32 × Sg) :=
  (J85 1000 σ).bind fun p4 => if p4.1 = 0 then ((J85 1001 p4.2).bind fun p5 => if p5.1 = 0 then ((J85 1002 p5.2).bind fun p6 => if p6.1 = 0 then (J84_4  (-1000000005 : Int32) p6.2) else (J84_4  (2 : Int32) p6.2)) else (J84_4  (1 : Int32) p5.2)) else (J84_4  (0 : Int32) p4.2)
/-- Law.addStep(I)V -/
def J93 (o : Nat) (a0 : Int32) (σ : Sg) : Option (Sg) :=
  if (96 : Int32) ≤ (σ o 2) then (some σ) else (if hy_ib (σ o 2) 96 then some (hy_up (hy_up σ (o + 1) (hy_ix (σ o 2)) a0) o 2 (((hy_up σ (o + 1) (hy_ix (σ o 2)) a0) o 2) + (1 : Int32))) else none)
/-- Law.addSign(I)V -/
def J92 (o : Nat) (a0 : Int32) (σ : Sg) : Option (Sg) :=
  (J93 o ((-a0)) σ).bind fun σ1 => some σ1
/-- Tape.levelOf(I)I -/
def J100 (a0 : Int32) (σ : Sg) : Option (Int32 × Sg) :=
  hy_sw a0 [((38 : Int32), some ((1 : Int32), σ)), ((42 : Int32), some ((4 : Int32), σ)), ((43 : Int32), some ((3 : Int32), σ)), ((45 : Int32), some ((3 : Int32), σ)), ((47 : Int32), some ((4 : Int32), σ)), ((60 : Int32), some ((2 : Int32), σ)), ((61 : Int32), some ((2 : Int32), σ)), ((62 : Int32), some ((2 : Int32), σ)), ((124 : Int32), some ((0 : Int32), σ))] (some ((-1 : Int32), σ))
/-- Tape.isWordByte(I)Z -/
def J95 (a0 : Int32) (σ : Sg) : Option (Int32 × Sg) :=
  (J87 a0 σ).bind fun p1 => if p1.1 = 0 then ((J88 a0 p1.2).bind fun p2 => if p2.1 = 0 then (some ((0 : Int32), p2.2)) else (some ((1 : Int32), p2.2))) else (some ((1 : Int32), p1.2))
/-- Law.addNumber(I)V -/
def J97 (o : Nat) (a0 : Int32) (σ : Sg) : Option (Sg) :=
  (J93 o a0 σ).bind fun σ1 => some (hy_up σ1 o 4 ((σ1 o 4) + (1 : Int32)))
def J96_2  : Nat → Int32 → Int32 → Int32 → Sg → Option (Int32 × Sg)
  | 0, _, _, _, _ => none
  | n + 1, x1, x2, x3, σ => if x1 ≤ x3 then ((J97 4 x2 σ).bind fun σ1 => (J82 x1 σ1).bind fun σ2 => some ((1 : Int32), σ2)) else ((J83 x3 σ).bind fun p3 => J96_2  n x1 ((((10 : Int32) * x2) + p3.1) - (48 : Int32)) (x3 + (1 : Int32)) p3.2)
/-- Tape.readNumber()Z -/
def J96  (σ : Sg) : Option (Int32 × Sg) :=
  (J86  σ).bind fun p4 => if (p4.1 - (p4.2 2 3)) ≤ (4 : Int32) then (J96_2  hy_fu p4.1 (0 : Int32) (p4.2 2 3) p4.2) else (some ((0 : Int32), p4.2))
/-- Law.addName(I)V -/
def J99 (o : Nat) (a0 : Int32) (σ : Sg) : Option (Sg) :=
  (J93 o ((-1 : Int32) - a0) σ).bind fun σ1 => some (hy_up σ1 o 4 ((σ1 o 4) + (1 : Int32)))
/-- java/lang/StringLatin1.canEncode(I)Z -/
def J228 (a0 : Int32) (σ : Sg) : Option (Int32 × Sg) :=
  if a0 < 0 then (some ((0 : Int32), σ)) else (if (255 : Int32) < a0 then (some ((0 : Int32), σ)) else (some ((1 : Int32), σ)))
def J229_1  : Nat → Nat → Int32 → Int32 → Int32 → Sg → Option (Int32 × Sg)
  | 0, _, _, _, _, _ => none
  | n + 1, r0, x3, x4, x5, σ => if x3 ≤ x5 then (some ((-1 : Int32), σ)) else (if hy_ib x5 (hy_dl σ r0).toInt then if (σ r0 (hy_ix x5)) = x4 then (some (x5, σ)) else (J229_1  n r0 x3 x4 (x5 + (1 : Int32)) σ) else none)
/-- java/lang/StringLatin1.indexOfChar([BIII)I -/
def J229 (a0 : Nat) (a1 : Int32) (a2 : Int32) (a3 : Int32) (σ : Sg) : Option (Int32 × Sg) :=
  J229_1  hy_fu a0 a3 ((a1).toInt8.toInt32) a2 σ
/-- java/lang/StringLatin1.indexOf([BIII)I -/
def J227 (a0 : Nat) (a1 : Int32) (a2 : Int32) (a3 : Int32) (σ : Sg) : Option (Int32 × Sg) :=
  (J228 a1 σ).bind fun p1 => if p1.1 = 0 then (some ((-1 : Int32), p1.2)) else (if (if a2 < (0 : Int32) then (0 : Int32) else a2) < (if (hy_dl p1.2 a0) < a3 then (hy_dl p1.2 a0) else a3) then ((J229 a0 a1 (if a2 < (0 : Int32) then (0 : Int32) else a2) (if (hy_dl p1.2 a0) < a3 then (hy_dl p1.2 a0) else a3) p1.2).bind fun p2 => some (p2.1, p2.2)) else (some ((-1 : Int32), p1.2)))
/-- java/lang/String.indexOf(II)I -/
def J226 (o : Nat) (a0 : Int32) (a1 : Int32) (σ : Sg) : Option (Int32 × Sg) :=
  (J221 o σ).bind fun p1 => if p1.1 = 0 then ((J218 o p1.2).bind fun p2 => none) else ((J218 o p1.2).bind fun p3 => (J227 (o + 10) a0 a1 p3.1 p3.2).bind fun p4 => some (p4.1, p4.2))
/-- java/lang/String.indexOf(I)I -/
def J225 (o : Nat) (a0 : Int32) (σ : Sg) : Option (Int32 × Sg) :=
  (J226 o a0 (0 : Int32) σ).bind fun p1 => some (p1.1, p1.2)
def J98_3  (r100 : Nat) (x1 : Int32) (σ : Sg) : Option (Int32 × Sg) :=
  (J83 (σ 2 3) σ).bind fun p1 => (J225 r100 (((p1.1).toUInt32 % 65536).toInt32) p1.2).bind fun p2 => if (x1 - (p2.2 2 3)) = (1 : Int32) then (if 0 ≤ p2.1 then ((J99 4 p2.1 p2.2).bind fun σ3 => (J82 x1 σ3).bind fun σ4 => some ((1 : Int32), σ4)) else (some ((0 : Int32), p2.2))) else (some ((0 : Int32), p2.2))
/-- Tape.readName()Z -/
def J98  (σ : Sg) : Option (Int32 × Sg) :=
  (J86  σ).bind fun p12 => if (p12.2 4 3) = 0 then (J98_3  1003 p12.1 p12.2) else (if (p12.2 4 3) = (1 : Int32) then (J98_3  1004 p12.1 p12.2) else (J98_3  1005 p12.1 p12.2))
def J89_5 (rc : Nat → Int32 → Int32 → Int32 → Sg → Option (Int32 × Sg))  : Nat → Int32 → Int32 → Int32 → Int32 → Int32 → Sg → Option (Int32 × Sg)
  | 0, _, _, _, _, _, _ => none
  | n + 1, x1, x2, x3, x4, x5, σ => if x4 ≤ x5 then (some ((1 : Int32), σ)) else ((J83 (σ 2 3) σ).bind fun p1 => (J100 p1.1 p1.2).bind fun p2 => if p2.1 = x1 then ((J83 (p2.2 2 3) p2.2).bind fun p3 => (J82 ((p3.2 2 3) + (1 : Int32)) p3.2).bind fun σ4 => (rc 0 (x1 + (1 : Int32)) x2 x3 σ4).bind fun p5 => if p5.1 = 0 then (some ((0 : Int32), p5.2)) else ((J92 4 p3.1 p5.2).bind fun σ6 => J89_5 rc  n x1 x2 x3 x4 (x5 + (1 : Int32)) σ6)) else (some ((1 : Int32), p2.2)))
def J89_4 (rc : Nat → Int32 → Int32 → Int32 → Sg → Option (Int32 × Sg))  (x100 : Int32) (x1 : Int32) (x2 : Int32) (x3 : Int32) (σ : Sg) : Option (Int32 × Sg) :=
  J89_5 rc  hy_fu x1 x2 x3 x100 (0 : Int32) σ
/-- Tape.readLevel(III)Z -/
def J89 (rc : Nat → Int32 → Int32 → Int32 → Sg → Option (Int32 × Sg)) (a0 : Int32) (a1 : Int32) (a2 : Int32) (σ : Sg) : Option (Int32 × Sg) :=
  if a0 < (5 : Int32) then ((rc 0 (a0 + (1 : Int32)) a1 a2 σ).bind fun p40 => if p40.1 = 0 then (some ((0 : Int32), p40.2)) else (if a0 = (2 : Int32) then (J89_4 rc  (1 : Int32) a0 a1 a2 p40.2) else (J89_4 rc  (96 : Int32) a0 a1 a2 p40.2))) else ((rc 1 a1 a2 0 σ).bind fun p41 => if p41.1 = 0 ∨ p41.1 = 1 then some (p41.1, p41.2) else none)
/-- Tape.readPiece(II)Z -/
def J90 (rc : Nat → Int32 → Int32 → Int32 → Sg → Option (Int32 × Sg)) (a0 : Int32) (a1 : Int32) (σ : Sg) : Option (Int32 × Sg) :=
  (J83 (σ 2 3) σ).bind fun p1 => if p1.1 = (33 : Int32) then (if (8 : Int32) ≤ a1 then (some ((0 : Int32), p1.2)) else ((rc 2 a0 (a1 + (1 : Int32)) 0 p1.2).bind fun p42 => if p42.1 = 0 then (some ((0 : Int32), p42.2)) else (some ((1 : Int32), p42.2)))) else (if p1.1 = (40 : Int32) then (if (8 : Int32) ≤ a0 then (some ((0 : Int32), p1.2)) else ((rc 3 (a0 + (1 : Int32)) a1 0 p1.2).bind fun p41 => if p41.1 = 0 then (some ((0 : Int32), p41.2)) else (some ((1 : Int32), p41.2)))) else ((J83 ((p1.2 2 3) - (1 : Int32)) p1.2).bind fun p2 => (J95 p2.1 p2.2).bind fun p3 => if p3.1 = 0 then ((J88 p1.1 p3.2).bind fun p4 => if p4.1 = 0 then ((J87 p1.1 p4.2).bind fun p5 => if p5.1 = 0 then (some ((0 : Int32), p5.2)) else ((J98  p5.2).bind fun p6 => if p6.1 = 0 then (some ((0 : Int32), p6.2)) else (some ((1 : Int32), p6.2)))) else ((J96  p4.2).bind fun p8 => if p8.1 = 0 ∨ p8.1 = 1 then some (p8.1, p8.2) else none)) else (some ((0 : Int32), p3.2))))
/-- Tape.readNot(II)Z -/
def J91 (rc : Nat → Int32 → Int32 → Int32 → Sg → Option (Int32 × Sg)) (a0 : Int32) (a1 : Int32) (σ : Sg) : Option (Int32 × Sg) :=
  (J82 ((σ 2 3) + (1 : Int32)) σ).bind fun σ1 => (rc 1 a0 a1 0 σ1).bind fun p2 => if p2.1 = 0 then (some ((0 : Int32), p2.2)) else ((J92 4 (33 : Int32) p2.2).bind fun σ3 => some ((1 : Int32), σ3))
/-- Tape.readInner(II)Z -/
def J94 (rc : Nat → Int32 → Int32 → Int32 → Sg → Option (Int32 × Sg)) (a0 : Int32) (a1 : Int32) (σ : Sg) : Option (Int32 × Sg) :=
  (J82 ((σ 2 3) + (1 : Int32)) σ).bind fun σ1 => (rc 0 (0 : Int32) a0 a1 σ1).bind fun p2 => if p2.1 = 0 then (some ((0 : Int32), p2.2)) else ((J83 (p2.2 2 3) p2.2).bind fun p3 => if p3.1 = (41 : Int32) then ((J82 ((p3.2 2 3) + (1 : Int32)) p3.2).bind fun σ4 => some ((1 : Int32), σ4)) else (some ((0 : Int32), p3.2)))
def JR : Nat → Nat → Int32 → Int32 → Int32 → Sg → Option (Int32 × Sg)
  | 0, _, _, _, _, _ => none
  | n + 1, s, a, b, c, σ => match s with
    | 0 => J89 (JR n) a b c σ
    | 1 => J90 (JR n) a b σ
    | 2 => J91 (JR n) a b σ
    | _ => J94 (JR n) a b σ
def J80_2  (x100 : Int32)  (σ : Sg) : Option (Int32 × Sg) :=
  if x100 = 0 then (some (((hy_up σ 2 2 (0 : Int32)) 2 3), (hy_up σ 2 2 (0 : Int32)))) else (some ((-1000000005 : Int32), (hy_up σ 2 2 (0 : Int32))))
def J80_1    (σ : Sg) : Option (Int32 × Sg) :=
  J80_2  (0 : Int32) σ
/-- Tape.read()I -/
def J80  (σ : Sg) : Option (Int32 × Sg) :=
  (J81 4 σ).bind fun σ1 => (J82 (0 : Int32) σ1).bind fun σ2 => (J84  σ2).bind fun p3 => if p3.1 = 0 then (J80_1   p3.2) else ((JR 200 0 (0 : Int32) (0 : Int32) (0 : Int32) p3.2).bind fun p4 => if p4.1 = 0 then (J80_1   p4.2) else (if (p4.2 2 3) = (p4.2 2 2) then (J80_2  (1 : Int32) p4.2) else (J80_1   p4.2)))
/-- Law.becomes(LHayBoard$Law;)V -/
def J101 (o : Nat) (a0 : Nat) (σ : Sg) : Option (Sg) :=
  if hy_cpOK (0 : Int32) (0 : Int32) (96 : Int32) 96 96 then (some (hy_up (hy_up (hy_up (hy_cpS σ (a0 + 1) (o + 1) (0 : Int32) (0 : Int32) (96 : Int32)) o 3 ((hy_cpS σ (a0 + 1) (o + 1) (0 : Int32) (0 : Int32) (96 : Int32)) a0 3)) o 4 ((hy_up (hy_cpS σ (a0 + 1) (o + 1) (0 : Int32) (0 : Int32) (96 : Int32)) o 3 ((hy_cpS σ (a0 + 1) (o + 1) (0 : Int32) (0 : Int32) (96 : Int32)) a0 3)) a0 4)) o 2 ((hy_up (hy_up (hy_cpS σ (a0 + 1) (o + 1) (0 : Int32) (0 : Int32) (96 : Int32)) o 3 ((hy_cpS σ (a0 + 1) (o + 1) (0 : Int32) (0 : Int32) (96 : Int32)) a0 3)) o 4 ((hy_up (hy_cpS σ (a0 + 1) (o + 1) (0 : Int32) (0 : Int32) (96 : Int32)) o 3 ((hy_cpS σ (a0 + 1) (o + 1) (0 : Int32) (0 : Int32) (96 : Int32)) a0 3)) a0 4)) a0 2))) else none
/-- HayBoard.text()I -/
def J79  (σ : Sg) : Option (Int32 × Sg) :=
  (J80  σ).bind fun p1 => if p1.1 = (-1000000005 : Int32) then ((J13 (p1.2 81 13) p1.2).bind fun p2 => if p2.1 = 0 then (some ((-1000000003 : Int32), p2.2)) else (if hy_ib (p1.2 81 13) 14 then (J101 (11 + 3 * hy_ix (p1.2 81 13)) 4 p2.2).bind fun σ3 => if hy_ib (σ3 4 3) 3 then some ((p1.2 81 13), (hy_up (hy_up σ3 84 (hy_ix (σ3 4 3)) (p1.2 81 13)) 81 13 (((hy_up σ3 84 (hy_ix (σ3 4 3)) (p1.2 81 13)) 81 13) + (1 : Int32)))) else none else none)) else (some (((-100 : Int32) - p1.1), p1.2))
/-- HayBoard.textTold(II)I -/
def J102 (a0 : Int32) (a1 : Int32) (σ : Sg) : Option (Int32 × Sg) :=
  (J3 a0 (0 : Int32) ((σ 81 13) - (1 : Int32)) σ).bind fun p1 => if p1.1 = 0 then (some ((-1000000001 : Int32), p1.2)) else ((J3 a1 (0 : Int32) (1 : Int32) p1.2).bind fun p2 => if p2.1 = 0 then (some ((-1000000001 : Int32), p2.2)) else (if a1 = 0 then (if hy_ib a0 14 then some ((p2.2 (11 + 3 * hy_ix a0) 3), p2.2) else none) else (if hy_ib a0 14 then some ((p2.2 (11 + 3 * hy_ix a0) 4), p2.2) else none)))
/-- HayBoard.why(I)I -/
def J103 (a0 : Int32) (σ : Sg) : Option (Int32 × Sg) :=
  (J3 a0 (0 : Int32) (2 : Int32) σ).bind fun p1 => if p1.1 = 0 then (some ((-1000000001 : Int32), p1.2)) else (if hy_ib a0 3 then some ((p1.2 84 (hy_ix a0)), p1.2) else none)
def J105_1  : Nat → Nat → Int32 → Sg → Option (Sg)
  | 0, _, _, _ => none
  | n + 1, o, x3, σ => if (24 : Int32) ≤ x3 then (some σ) else (if hy_ib x3 24 then J105_1  n o (x3 + (1 : Int32)) (hy_up σ (o + 1) (hy_ix x3) (0 : Int32)) else none)
/-- Sheet.clear(II)V -/
def J105 (o : Nat) (a0 : Int32) (a1 : Int32) (σ : Sg) : Option (Sg) :=
  J105_1  hy_fu o (0 : Int32) (hy_up (hy_up σ o 1 a0) o 2 a1)
/-- HayBoard.sheet(III)I -/
def J104 (a0 : Int32) (a1 : Int32) (a2 : Int32) (σ : Sg) : Option (Int32 × Sg) :=
  (J69 a0 σ).bind fun p1 => if p1.1 = 0 then (some ((-1000000001 : Int32), p1.2)) else ((J3 a1 (-1 : Int32) (1 : Int32) p1.2).bind fun p2 => if p2.1 = 0 then (some ((-1000000001 : Int32), p2.2)) else (if a1 = (-1 : Int32) then (if hy_ib a0 4 then (J105 (53 + 2 * hy_ix a0) (-1 : Int32) (0 : Int32) p2.2).bind fun σ4 => some ((0 : Int32), σ4) else none) else (if a2 ≤ (24 : Int32) then (if 0 ≤ a2 then (if hy_ib a0 4 then (J105 (53 + 2 * hy_ix a0) a1 a2 p2.2).bind fun σ3 => some (a2, σ3) else none) else (some ((-1000000014 : Int32), p2.2))) else (some ((-1000000001 : Int32), p2.2)))))
def J106_6   (x2 : Int32) (x3 : Int32) (r4 : Nat) (σ : Sg) : Option (Int32 × Sg) :=
  if hy_ib x2 24 then some ((1 : Int32), (hy_up σ (r4 + 1) (hy_ix x2) x3)) else none
/-- HayBoard.mark(III)I -/
def J106 (a0 : Int32) (a1 : Int32) (a2 : Int32) (σ : Sg) : Option (Int32 × Sg) :=
  (J69 a0 σ).bind fun p1 => if p1.1 = 0 then (some ((-1000000001 : Int32), p1.2)) else (if hy_ib a0 4 then (J70 (53 + 2 * hy_ix a0) p1.2).bind fun p2 => if p2.1 = 0 then ((J73 (53 + 2 * hy_ix a0) a1 p2.2).bind fun p3 => if p3.1 = 0 then (some ((-1000000013 : Int32), p3.2)) else (if (p3.2 (53 + 2 * hy_ix a0) 1) = 0 then (if a2 = (-1000000005 : Int32) then (some ((-1000000012 : Int32), p3.2)) else (if hy_ib a1 24 then some ((1 : Int32), (hy_up p3.2 ((53 + 2 * hy_ix a0) + 1) (hy_ix a1) ((a2).toInt16.toInt32))) else none)) else (if a2 = (-1000000005 : Int32) then (J106_6  a1 a2 (53 + 2 * hy_ix a0) p3.2) else ((J3 a2 (-99999 : Int32) (99999 : Int32) p3.2).bind fun p4 => if p4.1 = 0 then (some ((-1000000001 : Int32), p4.2)) else (J106_6  a1 a2 (53 + 2 * hy_ix a0) p4.2))))) else (some ((-1000000011 : Int32), p2.2)) else none)
def J107_5 (k3 : Nat → Int32 → Int32 → Sg → Option (Int32 × Sg))  (r2 : Nat) (x3 : Int32) (x4 : Int32) (x5 : Int32) (σ : Sg) : Option (Int32 × Sg) :=
  k3 r2 x3 (x4 + (1 : Int32)) σ
def J107_4 (k3 : Nat → Int32 → Int32 → Sg → Option (Int32 × Sg))  (r2 : Nat) (x3 : Int32) (x4 : Int32) (x5 : Int32) (σ : Sg) : Option (Int32 × Sg) :=
  if hy_ib x4 12 then if (σ (88 + hy_ix x4) 3) = x5 then (J107_5 (k3) r2 x3 x4 x5 σ) else (J107_5 (k3) r2 (x3 + (1 : Int32)) x4 x5 σ) else none
def J107_3  : Nat → Nat → Int32 → Int32 → Sg → Option (Int32 × Sg)
  | 0, _, _, _, _ => none
  | n + 1, r2, x3, x4, σ => if (σ 81 7) ≤ x4 then (some (x3, σ)) else (if hy_ib x4 12 then (J72 r2 x4 σ).bind fun p1 => if p1.1 = 0 then (J107_4 (J107_3  n) r2 x3 x4 (σ (88 + hy_ix x4) 3) p1.2) else (if hy_ib x4 12 then if hy_ib x4 24 then (J16 (p1.2 (r2 + 1) (hy_ix x4)) (1 : Int32) (99 : Int32) p1.2).bind fun p2 => J107_4 (J107_3  n) r2 x3 x4 (σ (88 + hy_ix x4) 3) (hy_up p2.2 (88 + hy_ix x4) 3 p2.1) else none else none) else none)
/-- HayBoard.pour(I)I -/
def J107 (a0 : Int32) (σ : Sg) : Option (Int32 × Sg) :=
  (J69 a0 σ).bind fun p4 => if p4.1 = 0 then (some ((-1000000001 : Int32), p4.2)) else (if hy_ib a0 4 then (J70 (53 + 2 * hy_ix a0) p4.2).bind fun p5 => if p5.1 = 0 then (J107_3  hy_fu (53 + 2 * hy_ix a0) (0 : Int32) (0 : Int32) p5.2) else (some ((-1000000011 : Int32), p5.2)) else none)
def J108_5 (k3 : Nat → Int32 → Sg → Option (Int32 × Sg))  (r2 : Nat) (x3 : Int32) (σ : Sg) : Option (Int32 × Sg) :=
  k3 r2 (x3 + (1 : Int32)) σ
def J108_3  : Nat → Nat → Int32 → Sg → Option (Int32 × Sg)
  | 0, _, _, _ => none
  | n + 1, r2, x3, σ => if (σ r2 2) ≤ x3 then (some ((-1000000005 : Int32), σ)) else ((J72 r2 x3 σ).bind fun p1 => if p1.1 = 0 then (J108_5 (J108_3  n) r2 x3 p1.2) else ((J11 81 x3 p1.2).bind fun p2 => if p2.1 = 0 then (some (x3, p2.2)) else (if hy_ib x3 12 then if hy_ib x3 24 then if (p2.2 (88 + hy_ix x3) 2) = (p2.2 (r2 + 1) (hy_ix x3)) then (J108_5 (J108_3  n) r2 x3 p2.2) else (some (x3, p2.2)) else none else none)))
/-- HayBoard.reads(I)I -/
def J108 (a0 : Int32) (σ : Sg) : Option (Int32 × Sg) :=
  (J69 a0 σ).bind fun p4 => if p4.1 = 0 then (some ((-1000000001 : Int32), p4.2)) else (if hy_ib a0 4 then (J70 (53 + 2 * hy_ix a0) p4.2).bind fun p5 => if p5.1 = 0 then (J108_3  hy_fu (53 + 2 * hy_ix a0) (0 : Int32) p5.2) else (some ((-1000000011 : Int32), p5.2)) else none)
/-- Sheet.hasMany(II)Z -/
def J110 (o : Nat) (a0 : Int32) (a1 : Int32) (σ : Sg) : Option (Int32 × Sg) :=
  if a0 < 0 then (some ((0 : Int32), σ)) else (if a1 < 0 then (some ((0 : Int32), σ)) else (if ((σ o 2) - a1) < a0 then (some ((0 : Int32), σ)) else (some ((1 : Int32), σ))))
/-- HayBoard.copy(IIIII)I -/
def J109 (a0 : Int32) (a1 : Int32) (a2 : Int32) (a3 : Int32) (a4 : Int32) (σ : Sg) : Option (Int32 × Sg) :=
  (J69 a0 σ).bind fun p1 => if p1.1 = 0 then (some ((-1000000001 : Int32), p1.2)) else ((J69 a2 p1.2).bind fun p2 => if p2.1 = 0 then (some ((-1000000001 : Int32), p2.2)) else (if hy_ib a0 4 then if hy_ib a2 4 then (J70 (53 + 2 * hy_ix a0) p2.2).bind fun p3 => if p3.1 = 0 then ((J70 (53 + 2 * hy_ix a2) p3.2).bind fun p4 => if p4.1 = 0 then (if (p4.2 (53 + 2 * hy_ix a0) 1) = (p4.2 (53 + 2 * hy_ix a2) 1) then ((J110 (53 + 2 * hy_ix a0) a1 a4 p4.2).bind fun p5 => if p5.1 = 0 then (some ((-1000000013 : Int32), p5.2)) else ((J110 (53 + 2 * hy_ix a2) a3 a4 p5.2).bind fun p6 => if p6.1 = 0 then (some ((-1000000013 : Int32), p6.2)) else (if hy_cpOK a1 a3 a4 24 24 then (some (a4, (hy_cpS p6.2 ((53 + 2 * hy_ix a0) + 1) ((53 + 2 * hy_ix a2) + 1) a1 a3 a4))) else none))) else (some ((-1000000012 : Int32), p4.2))) else (some ((-1000000011 : Int32), p4.2))) else (some ((-1000000011 : Int32), p3.2)) else none else none))
/-- HayBoard.isSlot(I)Z -/
def J112 (a0 : Int32) (σ : Sg) : Option (Int32 × Sg) :=
  (J3 a0 (0 : Int32) (4 : Int32) σ).bind fun p1 => if p1.1 = 0 ∨ p1.1 = 1 then some (p1.1, p1.2) else none
/-- Sheet.becomes(LHayBoard$Sheet;)V -/
def J113 (o : Nat) (a0 : Nat) (σ : Sg) : Option (Sg) :=
  if hy_cpOK (0 : Int32) (0 : Int32) (24 : Int32) 24 24 then (some (hy_up (hy_up (hy_cpS σ (a0 + 1) (o + 1) (0 : Int32) (0 : Int32) (24 : Int32)) o 1 ((hy_cpS σ (a0 + 1) (o + 1) (0 : Int32) (0 : Int32) (24 : Int32)) a0 1)) o 2 ((hy_up (hy_cpS σ (a0 + 1) (o + 1) (0 : Int32) (0 : Int32) (24 : Int32)) o 1 ((hy_cpS σ (a0 + 1) (o + 1) (0 : Int32) (0 : Int32) (24 : Int32)) a0 1)) a0 2))) else none
def J111_8   (x2 : Int32) (r4 : Nat) (σ : Sg) : Option (Int32 × Sg) :=
  some ((σ r4 2), (hy_up σ r4 2 x2))
def J111_7   (x2 : Int32) (x3 : Int32) (r4 : Nat) (σ : Sg) : Option (Int32 × Sg) :=
  if x2 = (3 : Int32) then (J111_8  x2 r4 (hy_up σ r4 3 x3)) else (J111_8  x2 r4 σ)
def J111_4   (x2 : Int32) (x3 : Int32) (r4 : Nat) (σ : Sg) : Option (Int32 × Sg) :=
  if x2 = (2 : Int32) then ((J69 x3 σ).bind fun p1 => if p1.1 = 0 then (some ((-1000000001 : Int32), p1.2)) else (if hy_ib x3 4 then (J70 (53 + 2 * hy_ix x3) p1.2).bind fun p2 => if p2.1 = 0 then (if hy_ib x3 4 then (J113 (r4 + 2) (53 + 2 * hy_ix x3) p2.2).bind fun σ3 => J111_7  x2 x3 r4 σ3 else none) else (some ((-1000000011 : Int32), p2.2)) else none)) else (J111_7  x2 x3 r4 σ)
/-- HayBoard.lay(III)I -/
def J111 (a0 : Int32) (a1 : Int32) (a2 : Int32) (σ : Sg) : Option (Int32 × Sg) :=
  (J112 a0 σ).bind fun p8 => if p8.1 = 0 then (some ((-1000000001 : Int32), p8.2)) else ((J3 a1 (0 : Int32) (3 : Int32) p8.2).bind fun p9 => if p9.1 = 0 then (some ((-1000000001 : Int32), p9.2)) else (if hy_ib a0 5 then if a1 = (1 : Int32) then ((J11 81 a2 p9.2).bind fun p10 => if p10.1 = 0 then (some ((-1000000001 : Int32), p10.2)) else (if hy_ib a2 12 then (J50 ((61 + 4 * hy_ix a0) + 1) (88 + hy_ix a2) p10.2).bind fun σ11 => J111_4  a1 a2 (61 + 4 * hy_ix a0) σ11 else none)) else (J111_4  a1 a2 (61 + 4 * hy_ix a0) p9.2) else none))
/-- HayBoard.findingOf(LHayBoard$Slot;I)I -/
def J115 (a0 : Nat) (a1 : Int32) (σ : Sg) : Option (Int32 × Sg) :=
  if (σ a0 2) = 0 then (some ((-1000000011 : Int32), σ)) else (if (σ a0 2) = a1 then (some ((-1000000005 : Int32), σ)) else (some ((-1000000012 : Int32), σ)))
/-- HayBoard.ask(II)I -/
def J114 (a0 : Int32) (a1 : Int32) (σ : Sg) : Option (Int32 × Sg) :=
  (J112 a0 σ).bind fun p1 => if p1.1 = 0 then (some ((-1000000001 : Int32), p1.2)) else ((J2 a1 p1.2).bind fun p2 => if p2.1 = 0 then (some ((-1000000001 : Int32), p2.2)) else (if hy_ib a0 5 then (J115 (61 + 4 * hy_ix a0) (1 : Int32) p2.2).bind fun p3 => if p3.1 = (-1000000005 : Int32) then (if hy_ib a0 5 then (J24 ((61 + 4 * hy_ix a0) + 1) a1 p3.2).bind fun p4 => if p4.1 = 0 then (some ((-1000000012 : Int32), p4.2)) else ((J18 ((61 + 4 * hy_ix a0) + 1) p4.2).bind fun p5 => some (p5.1, p5.2)) else none) else (some (p3.1, p3.2)) else none))
/-- HayBoard.item(II)I -/
def J116 (a0 : Int32) (a1 : Int32) (σ : Sg) : Option (Int32 × Sg) :=
  (J112 a0 σ).bind fun p1 => if p1.1 = 0 then (some ((-1000000001 : Int32), p1.2)) else (if hy_ib a0 5 then (J115 (61 + 4 * hy_ix a0) (2 : Int32) p1.2).bind fun p2 => if p2.1 = (-1000000005 : Int32) then (if hy_ib a0 5 then (J73 ((61 + 4 * hy_ix a0) + 2) a1 p2.2).bind fun p3 => if p3.1 = 0 then (some ((-1000000013 : Int32), p3.2)) else ((J72 ((61 + 4 * hy_ix a0) + 2) a1 p3.2).bind fun p4 => if p4.1 = 0 then (some ((-1000000012 : Int32), p4.2)) else (if hy_ib a1 24 then some ((p4.2 (((61 + 4 * hy_ix a0) + 2) + 1) (hy_ix a1)), p4.2) else none)) else none) else (some (p2.1, p2.2)) else none)
/-- HayBoard.rest(II)I -/
def J117 (a0 : Int32) (a1 : Int32) (σ : Sg) : Option (Int32 × Sg) :=
  (J112 a0 σ).bind fun p1 => if p1.1 = 0 then (some ((-1000000001 : Int32), p1.2)) else (if hy_ib a0 5 then (J115 (61 + 4 * hy_ix a0) (3 : Int32) p1.2).bind fun p2 => if p2.1 = (-1000000005 : Int32) then (if a1 = 0 then (some ((-1000000002 : Int32), p2.2)) else (if hy_ib a0 5 then if a1 = 0 then none else some ((hy_rem (p2.2 (61 + 4 * hy_ix a0) 3) a1), p2.2) else none)) else (some (p2.1, p2.2)) else none)
/-- HayBoard.tell(I)I -/
def J118 (a0 : Int32) (σ : Sg) : Option (Int32 × Sg) :=
  if (σ 0 10) < (60 : Int32) then (if hy_ib (σ 0 10) 60 then some (((hy_up (hy_up σ 10 (hy_ix (σ 0 10)) a0) 0 10 (((hy_up σ 10 (hy_ix (σ 0 10)) a0) 0 10) + (1 : Int32))) 0 10), (hy_up (hy_up σ 10 (hy_ix (σ 0 10)) a0) 0 10 (((hy_up σ 10 (hy_ix (σ 0 10)) a0) 0 10) + (1 : Int32)))) else none) else (some ((-1000000003 : Int32), σ))
/-- HayBoard.isWaiting(III)Z -/
def J120 (a0 : Int32) (a1 : Int32) (a2 : Int32) (σ : Sg) : Option (Int32 × Sg) :=
  if a1 ≤ a0 then (some ((0 : Int32), σ)) else (if hy_ib a0 60 then if (σ 10 (hy_ix a0)) = a2 then (some ((1 : Int32), σ)) else (some ((0 : Int32), σ)) else none)
def J119_3  : Nat → Int32 → Int32 → Int32 → Int32 → Sg → Option (Int32 × Sg)
  | 0, _, _, _, _, _ => none
  | n + 1, x2, x3, x4, x5, σ => if x3 ≤ x5 then (if x4 = x2 then (some ((0 : Int32), σ)) else (some (((1 : Int32) + x4), σ))) else ((J58 100 (1 : Int32) σ).bind fun σ1 => (J45 100 (0 : Int32) σ1).bind fun p2 => (J120 x4 x2 p2.1 p2.2).bind fun p3 => if p3.1 = 0 then (some (((1 : Int32) + x4), p3.2)) else ((J63 100 p3.2).bind fun p4 => (J120 (x4 + (1 : Int32)) x2 p4.1 p4.2).bind fun p5 => if p5.1 = 0 then (some (((1 : Int32) + (x4 + (1 : Int32))), p5.2)) else (J119_3  n x2 x3 ((x4 + (1 : Int32)) + (1 : Int32)) (x5 + (1 : Int32)) p5.2)))
/-- HayBoard.check(I)I -/
def J119 (a0 : Int32) (σ : Sg) : Option (Int32 × Sg) :=
  (J3 a0 (1 : Int32) (30 : Int32) (hy_up σ 0 10 (0 : Int32))).bind fun p17 => if p17.1 = 0 then (some ((-1000000001 : Int32), p17.2)) else (if (p17.2 0 5) = 0 then (some ((-1000000002 : Int32), p17.2)) else ((J49 100 119 p17.2).bind fun σ18 => J119_3  hy_fu (σ 0 10) (if ((9999 : Int32) - (σ18 119 11)) < a0 then ((9999 : Int32) - (σ18 119 11)) else a0) (0 : Int32) (0 : Int32) σ18))
/-- HayBoard.keep()I -/
def J121  (σ : Sg) : Option (Int32 × Sg) :=
  (J49 119 81 σ).bind fun σ1 => some (((hy_up σ1 0 5 (1 : Int32)) 119 7), (hy_up σ1 0 5 (1 : Int32)))
/-- HayBoard.back()I -/
def J122  (σ : Sg) : Option (Int32 × Sg) :=
  if (σ 0 5) = 0 then (some ((-1000000002 : Int32), σ)) else ((J49 81 119 σ).bind fun σ1 => some ((σ1 81 7), σ1))
/-- HayBoard.count(I)I -/
def J123 (a0 : Int32) (σ : Sg) : Option (Int32 × Sg) :=
  hy_sw a0 [((0 : Int32), some ((σ 81 7), σ)), ((1 : Int32), some ((σ 81 11), σ)), ((2 : Int32), some ((σ 81 8), σ)), ((3 : Int32), some ((σ 81 9), σ)), ((4 : Int32), some ((σ 81 10), σ)), ((5 : Int32), (J56 81 σ).bind fun p1 => some (p1.1, p1.2)), ((6 : Int32), some ((σ 81 13), σ)), ((7 : Int32), some ((σ 0 10), σ)), ((8 : Int32), some ((σ 2 2), σ)), ((9 : Int32), some ((σ 81 12), σ))] (some ((-1000000001 : Int32), σ))
/-- HayBoardModel.in(III)Z -/
def J125 (a0 : Int32) (a1 : Int32) (a2 : Int32) (σ : Sg) : Option (Int32 × Sg) :=
  if a0 < a1 then (some ((0 : Int32), σ)) else (if a2 < a0 then (some ((0 : Int32), σ)) else (some ((1 : Int32), σ)))
/-- HayBoardModel.isPlace(I)Z -/
def J126 (a0 : Int32) (σ : Sg) : Option (Int32 × Sg) :=
  (J125 a0 (0 : Int32) (35 : Int32) σ).bind fun p1 => if p1.1 = 0 ∨ p1.1 = 1 then some (p1.1, p1.2) else none
/-- HayBoardModel.of(II)I -/
def J128 (a0 : Int32) (a1 : Int32) (σ : Sg) : Option (Int32 × Sg) :=
  if hy_ib (((7 : Int32) + ((6 : Int32) * a0)) + a1) 1451 then some ((σ 139 (hy_ix (((7 : Int32) + ((6 : Int32) * a0)) + a1))), σ) else none
def J127_3 (k1 : Int32 → Int32 → Int32 → Sg → Option (Int32 × Sg)) (x100 : Int32) (x1 : Int32) (x3 : Int32) (σ : Sg) : Option (Int32 × Sg) :=
  k1 x1 x100 (x3 + (1 : Int32)) σ
def J127_1  : Nat → Int32 → Int32 → Int32 → Sg → Option (Int32 × Sg)
  | 0, _, _, _, _ => none
  | n + 1, x1, x2, x3, σ => if (σ 139 1) ≤ x3 then (some (x2, σ)) else ((J128 x3 (2 : Int32) σ).bind fun p1 => if p1.1 = x1 then (J127_3 (J127_1  n) x3 x1 x3 p1.2) else (J127_3 (J127_1  n) x2 x1 x3 p1.2))
/-- HayBoardModel.holder(I)I -/
def J127 (a0 : Int32) (σ : Sg) : Option (Int32 × Sg) :=
  J127_1  hy_fu a0 (-1 : Int32) (0 : Int32) σ
/-- HayBoardModel.put(III)V -/
def J130 (a0 : Int32) (a1 : Int32) (a2 : Int32) (σ : Sg) : Option (Sg) :=
  if hy_ib (((7 : Int32) + ((6 : Int32) * a0)) + a1) 1451 then some (hy_up σ 139 (hy_ix (((7 : Int32) + ((6 : Int32) * a0)) + a1)) a2) else none
/-- HayBoardModel.comes(IIII)I -/
def J129 (a0 : Int32) (a1 : Int32) (a2 : Int32) (a3 : Int32) (σ : Sg) : Option (Int32 × Sg) :=
  (J130 (σ 139 1) (0 : Int32) a0 (hy_up σ 139 1 ((σ 139 1) + (1 : Int32)))).bind fun σ1 => (J130 (σ 139 1) (1 : Int32) a1 σ1).bind fun σ2 => (J130 (σ 139 1) (2 : Int32) a2 σ2).bind fun σ3 => (J130 (σ 139 1) (3 : Int32) a3 σ3).bind fun σ4 => (J130 (σ 139 1) (4 : Int32) (0 : Int32) σ4).bind fun σ5 => (J130 (σ 139 1) (5 : Int32) (0 : Int32) σ5).bind fun σ6 => some ((σ 139 1), σ6)
/-- HayBoardModel.bale(IIII)I -/
def J124 (a0 : Int32) (a1 : Int32) (a2 : Int32) (a3 : Int32) (σ : Sg) : Option (Int32 × Sg) :=
  (J125 a0 (0 : Int32) (5 : Int32) σ).bind fun p1 => if p1.1 = 0 then (some ((-1000000001 : Int32), p1.2)) else ((J125 a1 (0 : Int32) (1 : Int32) p1.2).bind fun p2 => if p2.1 = 0 then (some ((-1000000001 : Int32), p2.2)) else ((J126 a2 p2.2).bind fun p3 => if p3.1 = 0 then (some ((-1000000001 : Int32), p3.2)) else ((J125 a3 (1 : Int32) (99 : Int32) p3.2).bind fun p4 => if p4.1 = 0 then (some ((-1000000001 : Int32), p4.2)) else ((J127 a2 p4.2).bind fun p5 => if p5.1 < 0 then (if (p5.2 139 1) = (12 : Int32) then (some ((-1000000003 : Int32), p5.2)) else ((J129 a0 a1 a2 a3 p5.2).bind fun p6 => some (p6.1, p6.2))) else (some ((-1000000002 : Int32), p5.2))))))
/-- HayBoardModel.isBale(I)Z -/
def J132 (a0 : Int32) (σ : Sg) : Option (Int32 × Sg) :=
  (J125 a0 (0 : Int32) ((σ 139 1) - (1 : Int32)) σ).bind fun p1 => if p1.1 = 0 ∨ p1.1 = 1 then some (p1.1, p1.2) else none
def J134_1  : Nat → Int32 → Int32 → Sg → Option (Int32 × Sg)
  | 0, _, _, _ => none
  | n + 1, x1, x2, σ => if x2 < 0 then (some ((-1 : Int32), σ)) else (if hy_ib ((79 : Int32) + ((2 : Int32) * x2)) 1451 then if ((σ 139 (hy_ix ((79 : Int32) + ((2 : Int32) * x2)))) / (1000 : Int32)) = x1 then (some (x2, σ)) else (J134_1  n x1 (x2 + (-1 : Int32)) σ) else none)
/-- HayBoardModel.counts(I)I -/
def J134 (a0 : Int32) (σ : Sg) : Option (Int32 × Sg) :=
  J134_1  hy_fu a0 ((σ 139 6) - (1 : Int32)) σ
/-- HayBoardModel.two(III)I -/
def J136 (a0 : Int32) (a1 : Int32) (a2 : Int32) (σ : Sg) : Option (Int32 × Sg) :=
  hy_sw a0 [((-8 : Int32), some ((a1 * a2), σ)), ((-7 : Int32), some ((a1 - a2), σ)), ((-6 : Int32), some ((a1 + a2), σ)), ((-5 : Int32), if a1 ≤ a2 then (some ((0 : Int32), σ)) else (some ((1 : Int32), σ))), ((-4 : Int32), if a1 = a2 then (some ((1 : Int32), σ)) else (some ((0 : Int32), σ))), ((-3 : Int32), if a2 ≤ a1 then (some ((0 : Int32), σ)) else (some ((1 : Int32), σ))), ((-2 : Int32), if a1 = 0 then (some ((0 : Int32), σ)) else (if a2 = 0 then (some ((0 : Int32), σ)) else (some ((1 : Int32), σ)))), ((-1 : Int32), if a1 = 0 then (if a2 = 0 then (some ((0 : Int32), σ)) else (some ((1 : Int32), σ))) else (some ((1 : Int32), σ)))] (if a2 = 0 then (some ((0 : Int32), σ)) else (if a2 = 0 then none else some ((a1 / a2), σ)))
def J135_8 (k1 : Int32 → Int32 → Int32 → Int32 → Sg → Option (Int32 × Sg))  (x1 : Int32) (x2 : Int32) (x3 : Int32) (x4 : Int32) (x5 : Int32) (σ : Sg) : Option (Int32 × Sg) :=
  k1 x1 x2 x3 (x4 + (1 : Int32)) σ
def J135_6 (k1 : Int32 → Int32 → Int32 → Int32 → Sg → Option (Int32 × Sg)) (x100 : Int32) (x101 : Int32) (x1 : Int32) (x2 : Int32) (x3 : Int32) (x4 : Int32) (x5 : Int32) (σ : Sg) : Option (Int32 × Sg) :=
  if hy_ib x101 96 then J135_8 (k1) x1 x2 x3 x4 x5 (hy_up σ 151 (hy_ix x101) x100) else none
def J135_3 (k1 : Int32 → Int32 → Int32 → Int32 → Sg → Option (Int32 × Sg)) (x100 : Int32) (x101 : Int32) (x1 : Int32) (x2 : Int32) (x3 : Int32) (x4 : Int32) (x5 : Int32) (σ : Sg) : Option (Int32 × Sg) :=
  if hy_ib x101 96 then J135_8 (k1) x1 (x2 + (1 : Int32)) x3 x4 x5 (hy_up σ 151 (hy_ix x101) x100) else none
def J135_1  : Nat → Int32 → Int32 → Int32 → Int32 → Sg → Option (Int32 × Sg)
  | 0, _, _, _, _, _ => none
  | n + 1, x1, x2, x3, x4, σ => if x3 ≤ x4 then (some ((σ 151 0), σ)) else (if hy_ib (((107 : Int32) + ((96 : Int32) * x1)) + x4) 1451 then if (σ 139 (hy_ix (((107 : Int32) + ((96 : Int32) * x1)) + x4))) < 0 then (if (σ 139 (hy_ix (((107 : Int32) + ((96 : Int32) * x1)) + x4))) = (-10 : Int32) then (if hy_ib (x2 - (1 : Int32)) 96 then if (σ 151 (hy_ix (x2 - (1 : Int32)))) = 0 then (J135_6 (J135_1  n) (1 : Int32) (x2 - (1 : Int32)) x1 x2 x3 x4 (σ 139 (hy_ix (((107 : Int32) + ((96 : Int32) * x1)) + x4))) σ) else (J135_6 (J135_1  n) (0 : Int32) (x2 - (1 : Int32)) x1 x2 x3 x4 (σ 139 (hy_ix (((107 : Int32) + ((96 : Int32) * x1)) + x4))) σ) else none) else (if hy_ib ((x2 + (-1 : Int32)) - (1 : Int32)) 96 then if hy_ib (x2 + (-1 : Int32)) 96 then (J136 (σ 139 (hy_ix (((107 : Int32) + ((96 : Int32) * x1)) + x4))) (σ 151 (hy_ix ((x2 + (-1 : Int32)) - (1 : Int32)))) (σ 151 (hy_ix (x2 + (-1 : Int32)))) σ).bind fun p1 => if hy_ib ((x2 + (-1 : Int32)) - (1 : Int32)) 96 then J135_8 (J135_1  n) x1 (x2 + (-1 : Int32)) x3 x4 (σ 139 (hy_ix (((107 : Int32) + ((96 : Int32) * x1)) + x4))) (hy_up p1.2 151 (hy_ix ((x2 + (-1 : Int32)) - (1 : Int32))) p1.1) else none else none else none)) else (if (10000 : Int32) ≤ (σ 139 (hy_ix (((107 : Int32) + ((96 : Int32) * x1)) + x4))) then (if hy_ib ((σ 139 (hy_ix (((107 : Int32) + ((96 : Int32) * x1)) + x4))) - (10000 : Int32)) 4 then J135_3 (J135_1  n) (σ 152 (hy_ix ((σ 139 (hy_ix (((107 : Int32) + ((96 : Int32) * x1)) + x4))) - (10000 : Int32)))) x2 x1 x2 x3 x4 (σ 139 (hy_ix (((107 : Int32) + ((96 : Int32) * x1)) + x4))) σ else none) else (J135_3 (J135_1  n) (σ 139 (hy_ix (((107 : Int32) + ((96 : Int32) * x1)) + x4))) x2 x1 x2 x3 x4 (σ 139 (hy_ix (((107 : Int32) + ((96 : Int32) * x1)) + x4))) σ)) else none)
/-- HayBoardModel.worksOut(I)I -/
def J135 (a0 : Int32) (σ : Sg) : Option (Int32 × Sg) :=
  if hy_ib ((79 : Int32) + ((2 : Int32) * a0)) 1451 then J135_1  hy_fu a0 (0 : Int32) (hy_rem (σ 139 (hy_ix ((79 : Int32) + ((2 : Int32) * a0)))) (1000 : Int32)) (0 : Int32) σ else none
/-- HayBoardModel.within(III)I -/
def J137 (a0 : Int32) (a1 : Int32) (a2 : Int32) (σ : Sg) : Option (Int32 × Sg) :=
  if a1 ≤ a0 then (if a0 ≤ a2 then (some (a0, σ)) else (some (a2, σ))) else (some (a1, σ))
def J133_2  (x100 : Int32) (x1 : Int32) (σ : Sg) : Option (Int32 × Sg) :=
  (J128 x1 (0 : Int32) σ).bind fun p1 => hy_sw p1.1 [((1 : Int32), some ((x100 + (9 : Int32)), p1.2)), ((2 : Int32), (J137 ((2 : Int32) * x100) (0 : Int32) (999 : Int32) p1.2).bind fun p2 => some (p2.1, p2.2)), ((3 : Int32), some (((x100 + (29 : Int32)) / (2 : Int32)), p1.2)), ((4 : Int32), (J137 ((2 : Int32) * x100) (0 : Int32) (999 : Int32) p1.2).bind fun p3 => (J137 (p3.1 - (5 : Int32)) (0 : Int32) (999 : Int32) p3.2).bind fun p4 => some (p4.1, p4.2)), ((5 : Int32), some ((1 : Int32), p1.2))] (some (x100, p1.2))
/-- HayBoardModel.valueOf(I)I -/
def J133 (a0 : Int32) (σ : Sg) : Option (Int32 × Sg) :=
  (J134 (0 : Int32) σ).bind fun p10 => (J128 a0 (3 : Int32) p10.2).bind fun p11 => (J128 a0 (2 : Int32) (hy_up p11.2 152 0 p11.1)).bind fun p12 => (J128 a0 (4 : Int32) (hy_up p12.2 152 1 p12.1)).bind fun p13 => if 0 ≤ p10.1 then ((J135 p10.1 (hy_up p13.2 152 2 p13.1)).bind fun p14 => (J137 p14.1 (0 : Int32) (999 : Int32) p14.2).bind fun p15 => J133_2  p15.1 a0 p15.2) else ((J128 a0 (3 : Int32) (hy_up p13.2 152 2 p13.1)).bind fun p17 => J133_2  p17.1 a0 p17.2)
/-- HayBoardModel.eatenOf(I)I -/
def J138 (a0 : Int32) (σ : Sg) : Option (Int32 × Sg) :=
  (J128 a0 (0 : Int32) σ).bind fun p1 => hy_sw p1.1 [((2 : Int32), some ((3 : Int32), p1.2)), ((3 : Int32), some ((5 : Int32), p1.2)), ((4 : Int32), some ((4 : Int32), p1.2)), ((5 : Int32), some ((0 : Int32), p1.2))] (some ((5 : Int32), p1.2))
/-- HayBoardModel.worthOf(I)I -/
def J139 (a0 : Int32) (σ : Sg) : Option (Int32 × Sg) :=
  (J128 a0 (3 : Int32) σ).bind fun p1 => (J128 a0 (0 : Int32) p1.2).bind fun p2 => hy_sw p2.1 [((1 : Int32), some ((p1.1 + (4 : Int32)), p2.2)), ((2 : Int32), some (((99 : Int32) - p1.1), p2.2)), ((3 : Int32), some (((2 : Int32) * (p1.1 + (4 : Int32))), p2.2)), ((4 : Int32), some (((92 : Int32) - p1.1), p2.2)), ((5 : Int32), some ((2 : Int32), p2.2))] (some (p1.1, p2.2))
/-- HayBoardModel.told(II)I -/
def J131 (a0 : Int32) (a1 : Int32) (σ : Sg) : Option (Int32 × Sg) :=
  (J132 a0 σ).bind fun p1 => if p1.1 = 0 then (some ((-1000000001 : Int32), p1.2)) else ((J125 a1 (0 : Int32) (8 : Int32) p1.2).bind fun p2 => if p2.1 = 0 then (some ((-1000000001 : Int32), p2.2)) else (if (6 : Int32) ≤ a1 then (if a1 = (6 : Int32) then ((J133 a0 p2.2).bind fun p5 => some (p5.1, p5.2)) else (if a1 = (7 : Int32) then ((J138 a0 p2.2).bind fun p4 => some (p4.1, p4.2)) else ((J139 a0 p2.2).bind fun p3 => some (p3.1, p3.2)))) else ((J128 a0 a1 p2.2).bind fun p6 => some (p6.1, p6.2))))
/-- HayBoardModel.told0(I)I -/
def J141 (a0 : Int32) (σ : Sg) : Option (Int32 × Sg) :=
  if 0 ≤ a0 then (some (a0, σ)) else (some ((-1000000005 : Int32), σ))
/-- HayBoardModel.at(I)I -/
def J140 (a0 : Int32) (σ : Sg) : Option (Int32 × Sg) :=
  (J126 a0 σ).bind fun p1 => if p1.1 = 0 then (some ((-1000000001 : Int32), p1.2)) else ((J127 a0 p1.2).bind fun p2 => (J141 p2.1 p2.2).bind fun p3 => some (p3.1, p3.2))
/-- HayBoardModel.apart(II)I -/
def J144 (a0 : Int32) (a1 : Int32) (σ : Sg) : Option (Int32 × Sg) :=
  if a1 ≤ a0 then (some ((a0 - a1), σ)) else (some ((a1 - a0), σ))
def J145_7 (k5 : Int32 → Int32 → Int32 → Int32 → Sg → Option (Int32 × Sg)) (x100 : Int32) (x2 : Int32) (x3 : Int32) (x5 : Int32) (σ : Sg) : Option (Int32 × Sg) :=
  k5 x2 x3 x100 (x5 + x3) σ
def J145_6 (k5 : Int32 → Int32 → Int32 → Int32 → Sg → Option (Int32 × Sg))  (x2 : Int32) (x3 : Int32) (x5 : Int32) (σ : Sg) : Option (Int32 × Sg) :=
  J145_7 (k5) (0 : Int32) x2 x3 x5 σ
def J145_5  : Nat → Int32 → Int32 → Int32 → Int32 → Sg → Option (Int32 × Sg)
  | 0, _, _, _, _, _ => none
  | n + 1, x2, x3, x4, x5, σ => if x5 = x2 then (if x4 = 0 ∨ x4 = 1 then some (x4, σ) else none) else (if x4 = 0 then (J145_6 (J145_5  n) x2 x3 x5 σ) else ((J127 x5 σ).bind fun p1 => if 0 ≤ p1.1 then (J145_6 (J145_5  n) x2 x3 x5 p1.2) else (J145_7 (J145_5  n) (1 : Int32) x2 x3 x5 p1.2)))
def J145_4  (x100 : Int32) (x1 : Int32) (x2 : Int32) (σ : Sg) : Option (Int32 × Sg) :=
  J145_5  hy_fu x2 x100 (1 : Int32) (x1 + x100) σ
/-- HayBoardModel.isClear(II)Z -/
def J145 (a0 : Int32) (a1 : Int32) (σ : Sg) : Option (Int32 × Sg) :=
  if (a0 / (6 : Int32)) = (a1 / (6 : Int32)) then (if a1 ≤ a0 then (J145_4  (-1 : Int32) a0 a1 σ) else (J145_4  (1 : Int32) a0 a1 σ)) else (if a1 ≤ a0 then (J145_4  (-6 : Int32) a0 a1 σ) else (J145_4  (6 : Int32) a0 a1 σ))
def J143_9  (x100 : Int32) (x1 : Int32) (x2 : Int32) (x3 : Int32) (x5 : Int32) (x6 : Int32) (x7 : Int32) (x8 : Int32) (σ : Sg) : Option (Int32 × Sg) :=
  (J128 x1 (0 : Int32) σ).bind fun p1 => hy_sw p1.1 [((1 : Int32), if x7 = 0 then (some ((0 : Int32), p1.2)) else ((J145 x3 x2 p1.2).bind fun p2 => if p2.1 = 0 then (some ((0 : Int32), p2.2)) else (some ((1 : Int32), p2.2)))), ((2 : Int32), if x100 = 0 ∨ x100 = 1 then some (x100, p1.2) else none), ((3 : Int32), if x7 = 0 then (some ((0 : Int32), p1.2)) else (if (4 : Int32) ≤ (x5 + x6) then (some ((0 : Int32), p1.2)) else ((J145 x3 x2 p1.2).bind fun p3 => if p3.1 = 0 then (some ((0 : Int32), p3.2)) else (some ((1 : Int32), p3.2))))), ((4 : Int32), if x100 = 0 then (if x8 = 0 then (some ((0 : Int32), p1.2)) else (some ((1 : Int32), p1.2))) else (some ((1 : Int32), p1.2))), ((5 : Int32), some ((0 : Int32), p1.2))] (if x8 = 0 ∨ x8 = 1 then some (x8, p1.2) else none)
def J143_8   (x1 : Int32) (x2 : Int32) (x3 : Int32) (x5 : Int32) (x6 : Int32) (x7 : Int32) (x8 : Int32) (σ : Sg) : Option (Int32 × Sg) :=
  J143_9  (0 : Int32) x1 x2 x3 x5 x6 x7 x8 σ
def J143_7  (x100 : Int32) (x1 : Int32) (x2 : Int32) (x3 : Int32) (x5 : Int32) (x6 : Int32) (x7 : Int32) (σ : Sg) : Option (Int32 × Sg) :=
  if x5 = (1 : Int32) then (if x6 = (1 : Int32) then (J143_9  (1 : Int32) x1 x2 x3 x5 x6 x7 x100 σ) else (J143_8  x1 x2 x3 x5 x6 x7 x100 σ)) else (J143_8  x1 x2 x3 x5 x6 x7 x100 σ)
def J143_5  (x100 : Int32) (x1 : Int32) (x2 : Int32) (x3 : Int32) (x5 : Int32) (x6 : Int32) (σ : Sg) : Option (Int32 × Sg) :=
  if (x5 + x6) = (1 : Int32) then (J143_7  (1 : Int32) x1 x2 x3 x5 x6 x100 σ) else (J143_7  (0 : Int32) x1 x2 x3 x5 x6 x100 σ)
def J143_3   (x1 : Int32) (x2 : Int32) (x3 : Int32) (x5 : Int32) (x6 : Int32) (σ : Sg) : Option (Int32 × Sg) :=
  J143_5  (1 : Int32) x1 x2 x3 x5 x6 σ
def J143_2   (x1 : Int32) (x2 : Int32) (x3 : Int32) (σ : Sg) : Option (Int32 × Sg) :=
  (J144 (x3 / (6 : Int32)) (x2 / (6 : Int32)) σ).bind fun p6 => (J144 (hy_rem x3 (6 : Int32)) (hy_rem x2 (6 : Int32)) p6.2).bind fun p7 => if p6.1 = 0 then (J143_3  x1 x2 x3 p6.1 p7.1 p7.2) else (if p7.1 = 0 then (J143_3  x1 x2 x3 p6.1 p7.1 p7.2) else (J143_5  (0 : Int32) x1 x2 x3 p6.1 p7.1 p7.2))
/-- HayBoardModel.does(II)Z -/
def J143 (a0 : Int32) (a1 : Int32) (σ : Sg) : Option (Int32 × Sg) :=
  (J128 a0 (2 : Int32) σ).bind fun p9 => (J127 a1 p9.2).bind fun p10 => if p9.1 = (36 : Int32) then (some ((0 : Int32), p10.2)) else (if p9.1 = a1 then (some ((0 : Int32), p10.2)) else (if p10.1 < 0 then (J143_2  a0 a1 p9.1 p10.2) else ((J128 p10.1 (1 : Int32) p10.2).bind fun p11 => (J128 a0 (1 : Int32) p11.2).bind fun p12 => if p11.1 = p12.1 then (some ((0 : Int32), p12.2)) else (J143_2  a0 a1 p9.1 p12.2))))
/-- HayBoardModel.goes(II)I -/
def J142 (a0 : Int32) (a1 : Int32) (σ : Sg) : Option (Int32 × Sg) :=
  (J132 a0 σ).bind fun p1 => if p1.1 = 0 then (some ((-1000000001 : Int32), p1.2)) else ((J126 a1 p1.2).bind fun p2 => if p2.1 = 0 then (some ((-1000000001 : Int32), p2.2)) else ((J143 a0 a1 p2.2).bind fun p3 => if p3.1 = 0 then (some ((0 : Int32), p3.2)) else (some ((1 : Int32), p3.2))))
def J147_1   (x0 : Int32) (x1 : Int32) (σ : Sg) : Option (Int32 × Sg) :=
  if x1 = (2 : Int32) then (if x0 = (4 : Int32) then (some ((1 : Int32), σ)) else (some ((0 : Int32), σ))) else (some ((0 : Int32), σ))
/-- HayBoardModel.isUnder(II)Z -/
def J147 (a0 : Int32) (a1 : Int32) (σ : Sg) : Option (Int32 × Sg) :=
  if a1 = 0 then (some ((1 : Int32), σ)) else (if a0 = a1 then (some ((1 : Int32), σ)) else (if a1 = (1 : Int32) then (if a0 = (3 : Int32) then (some ((1 : Int32), σ)) else (J147_1  a0 a1 σ)) else (J147_1  a0 a1 σ)))
/-- HayBoardModel.as(II)I -/
def J146 (a0 : Int32) (a1 : Int32) (σ : Sg) : Option (Int32 × Sg) :=
  (J132 a0 σ).bind fun p1 => if p1.1 = 0 then (some ((-1000000001 : Int32), p1.2)) else ((J125 a1 (0 : Int32) (5 : Int32) p1.2).bind fun p2 => if p2.1 = 0 then (some ((-1000000001 : Int32), p2.2)) else ((J128 a0 (0 : Int32) p2.2).bind fun p3 => (J147 p3.1 a1 p3.2).bind fun p4 => if p4.1 = 0 then (some ((-1000000012 : Int32), p4.2)) else ((J128 a0 (3 : Int32) p4.2).bind fun p5 => some (p5.1, p5.2))))
/-- HayBoardModel.becomes(II)I -/
def J149 (a0 : Int32) (a1 : Int32) (σ : Sg) : Option (Int32 × Sg) :=
  if hy_ib a0 1451 then if hy_ib a0 1451 then some ((σ 139 (hy_ix a0)), (hy_up σ 139 (hy_ix a0) a1)) else none else none
/-- HayBoardModel.turns(II)I -/
def J148 (a0 : Int32) (a1 : Int32) (σ : Sg) : Option (Int32 × Sg) :=
  (J132 a0 σ).bind fun p1 => if p1.1 = 0 then (some ((-1000000001 : Int32), p1.2)) else ((J125 a1 (0 : Int32) (5 : Int32) p1.2).bind fun p2 => if p2.1 = 0 then (some ((-1000000001 : Int32), p2.2)) else ((J149 ((7 : Int32) + ((6 : Int32) * a0)) a1 p2.2).bind fun p3 => some (p3.1, p3.2)))
def J150_8   (x1 : Int32) (x2 : Int32) (x3 : Int32) (σ : Sg) : Option (Int32 × Sg) :=
  (J149 (((7 : Int32) + ((6 : Int32) * x1)) + x2) x3 σ).bind fun p1 => some (p1.1, p1.2)
def J150_5  (x100 : Int32) (x101 : Int32) (x102 : Int32) (x1 : Int32) (x2 : Int32) (x3 : Int32) (σ : Sg) : Option (Int32 × Sg) :=
  (J125 x102 x101 x100 σ).bind fun p2 => if p2.1 = 0 then (some ((-1000000001 : Int32), p2.2)) else (if x2 = (2 : Int32) then (if (36 : Int32) ≤ x3 then (J150_8  x1 x2 x3 p2.2) else ((J127 x3 p2.2).bind fun p3 => if p3.1 < 0 then (J150_8  x1 x2 x3 p3.2) else ((J127 x3 p3.2).bind fun p4 => if p4.1 = x1 then (J150_8  x1 x2 x3 p4.2) else (some ((-1000000002 : Int32), p4.2))))) else (J150_8  x1 x2 x3 p2.2))
def J150_2  (x100 : Int32) (x101 : Int32) (x1 : Int32) (x2 : Int32) (x3 : Int32) (σ : Sg) : Option (Int32 × Sg) :=
  if x2 = (1 : Int32) then (J150_5  (1 : Int32) x100 x101 x1 x2 x3 σ) else (if x2 = (2 : Int32) then (J150_5  (36 : Int32) x100 x101 x1 x2 x3 σ) else (J150_5  (99 : Int32) x100 x101 x1 x2 x3 σ))
/-- HayBoardModel.set(III)I -/
def J150 (a0 : Int32) (a1 : Int32) (a2 : Int32) (σ : Sg) : Option (Int32 × Sg) :=
  (J132 a0 σ).bind fun p9 => if p9.1 = 0 then (some ((-1000000001 : Int32), p9.2)) else ((J125 a1 (1 : Int32) (3 : Int32) p9.2).bind fun p10 => if p10.1 = 0 then (some ((-1000000001 : Int32), p10.2)) else (if a1 = (3 : Int32) then (J150_2  (1 : Int32) a2 a0 a1 a2 p10.2) else (J150_2  (0 : Int32) a2 a0 a1 a2 p10.2)))
def J151_2  (x100 : Int32) (x101 : Int32) (x102 : Int32) (x1 : Int32) (x2 : Int32) (σ : Sg) : Option (Int32 × Sg) :=
  (J125 x102 x101 x100 σ).bind fun p1 => if p1.1 = 0 then (some ((-1000000001 : Int32), p1.2)) else ((J149 ((3 : Int32) + x1) x2 p1.2).bind fun p2 => some (p2.1, p2.2))
/-- HayBoardModel.rule(II)I -/
def J151 (a0 : Int32) (a1 : Int32) (σ : Sg) : Option (Int32 × Sg) :=
  (J125 a0 (0 : Int32) (2 : Int32) σ).bind fun p4 => if p4.1 = 0 then (some ((-1000000001 : Int32), p4.2)) else (if a0 = 0 then (J151_2  (1 : Int32) (0 : Int32) a1 a0 a1 p4.2) else (J151_2  (100 : Int32) (0 : Int32) a1 a0 a1 p4.2))
/-- HayBoardModel.draw()I -/
def J153  (σ : Sg) : Option (Int32 × Sg) :=
  some (((((hy_up σ 139 0 (((σ 139 0) * (1103515245 : Int32)) + (12345 : Int32))) 139 0).toUInt32 >>> ((8 : Int32).toUInt32 &&& Int32.toUInt32 31)).toInt32), (hy_up σ 139 0 (((σ 139 0) * (1103515245 : Int32)) + (12345 : Int32))))
def J152_3 (k2 : Int32 → Int32 → Sg → Option (Int32 × Sg)) : Nat → Int32 → Int32 → Int32 → Int32 → Int32 → Sg → Option (Int32 × Sg)
  | 0, _, _, _, _, _, _ => none
  | n + 1, x1, x2, x3, x4, x5, σ => (J127 x5 σ).bind fun p1 => if p1.1 < 0 then ((J153  p1.2).bind fun p2 => (J129 x3 x4 x5 ((1 : Int32) + (hy_rem p2.1 (60 : Int32))) p2.2).bind fun p3 => k2 x1 (x2 + (1 : Int32)) p3.2) else (J152_3 k2 n x1 x2 x3 x4 (hy_rem (x5 + (1 : Int32)) (36 : Int32)) p1.2)
def J152_2  : Nat → Int32 → Int32 → Sg → Option (Int32 × Sg)
  | 0, _, _, _ => none
  | n + 1, x1, x2, σ => if x1 ≤ x2 then (some (x2, σ)) else (if (12 : Int32) ≤ (σ 139 1) then (some (x2, σ)) else ((J153  σ).bind fun p8 => (J153  p8.2).bind fun p9 => (J153  p9.2).bind fun p10 => J152_3 (J152_2  n) hy_fu x1 x2 (hy_rem p8.1 (6 : Int32)) (hy_rem p9.1 (2 : Int32)) (hy_rem p10.1 (36 : Int32)) p10.2))
/-- HayBoardModel.deal(I)I -/
def J152 (a0 : Int32) (σ : Sg) : Option (Int32 × Sg) :=
  (J125 a0 (1 : Int32) (12 : Int32) σ).bind fun p15 => if p15.1 = 0 then (some ((-1000000001 : Int32), p15.2)) else (J152_2  hy_fu a0 (0 : Int32) p15.2)
/-- HayBoardModel.seed(I)I -/
def J154 (a0 : Int32) (σ : Sg) : Option (Int32 × Sg) :=
  (J149 (0 : Int32) a0 σ).bind fun p1 => some (p1.1, p1.2)
/-- HayBoardModel.makes(II)I -/
def J156 (a0 : Int32) (a1 : Int32) (σ : Sg) : Option (Int32 × Sg) :=
  (J127 a1 σ).bind fun p1 => (J130 a0 (2 : Int32) a1 p1.2).bind fun σ2 => (J128 a0 (4 : Int32) σ2).bind fun p3 => (J130 a0 (4 : Int32) (p3.1 + (1 : Int32)) p3.2).bind fun σ4 => if p1.1 < 0 then (some (p1.1, σ4)) else ((J130 p1.1 (2 : Int32) (36 : Int32) σ4).bind fun σ5 => (J128 a0 (5 : Int32) σ5).bind fun p6 => (J130 a0 (5 : Int32) (p6.1 + (1 : Int32)) p6.2).bind fun σ7 => (J128 a0 (3 : Int32) σ7).bind fun p8 => (J128 p1.1 (3 : Int32) p8.2).bind fun p9 => (J137 (p8.1 + (p9.1 / (2 : Int32))) (1 : Int32) (99 : Int32) p9.2).bind fun p10 => (J130 a0 (3 : Int32) p10.1 p10.2).bind fun σ11 => some (p1.1, σ11))
/-- HayBoardModel.move(II)I -/
def J155 (a0 : Int32) (a1 : Int32) (σ : Sg) : Option (Int32 × Sg) :=
  (J132 a0 σ).bind fun p1 => if p1.1 = 0 then (some ((-1000000001 : Int32), p1.2)) else ((J126 a1 p1.2).bind fun p2 => if p2.1 = 0 then (some ((-1000000001 : Int32), p2.2)) else ((J128 a0 (1 : Int32) p2.2).bind fun p3 => if p3.1 = (p3.2 139 3) then ((J143 a0 a1 p3.2).bind fun p4 => if p4.1 = 0 then (some ((-1000000002 : Int32), p4.2)) else ((J156 a0 a1 (hy_up p4.2 139 3 ((1 : Int32) - (p4.2 139 3)))).bind fun p5 => (J141 p5.1 p5.2).bind fun p6 => some (p6.1, p6.2))) else (some ((-1000000002 : Int32), p3.2))))
def J157_4 (k2 : Int32 → Int32 → Int32 → Sg → Option (Int32 × Sg)) (x100 : Int32) (x101 : Int32) (x1 : Int32) (x3 : Int32) (σ : Sg) : Option (Int32 × Sg) :=
  k2 x1 (x101 + x100) (x3 + (1 : Int32)) σ
def J157_3 (k2 : Int32 → Int32 → Int32 → Sg → Option (Int32 × Sg)) (x100 : Int32) (x1 : Int32) (x3 : Int32) (σ : Sg) : Option (Int32 × Sg) :=
  J157_4 (k2) (0 : Int32) x100 x1 x3 σ
def J157_2  : Nat → Int32 → Int32 → Int32 → Sg → Option (Int32 × Sg)
  | 0, _, _, _, _ => none
  | n + 1, x1, x2, x3, σ => if ((36 : Int32) * (σ 139 1)) ≤ x3 then (some (x2, σ)) else ((J128 (x3 / (36 : Int32)) (1 : Int32) σ).bind fun p1 => if p1.1 = x1 then ((J143 (x3 / (36 : Int32)) (hy_rem x3 (36 : Int32)) p1.2).bind fun p2 => if p2.1 = 0 then (J157_3 (J157_2  n) x2 x1 x3 p2.2) else (J157_4 (J157_2  n) (1 : Int32) x2 x1 x3 p2.2)) else (J157_3 (J157_2  n) x2 x1 x3 p1.2))
/-- HayBoardModel.moves(I)I -/
def J157 (a0 : Int32) (σ : Sg) : Option (Int32 × Sg) :=
  (J125 a0 (0 : Int32) (1 : Int32) σ).bind fun p4 => if p4.1 = 0 then (some ((-1000000001 : Int32), p4.2)) else (J157_2  hy_fu a0 (0 : Int32) (0 : Int32) p4.2)
def J160_1  : Nat → Nat → Int32 → Sg → Option (Sg)
  | 0, _, _, _ => none
  | n + 1, r1, x2, σ => if (72 : Int32) ≤ x2 then (some σ) else (if hy_ib ((7 : Int32) + x2) 1451 then if hy_ib x2 72 then J160_1  n r1 (x2 + (1 : Int32)) (hy_up σ r1 (hy_ix x2) (σ 139 (hy_ix ((7 : Int32) + x2)))) else none else none)
/-- HayBoardModel.saves([I)V -/
def J160 (a0 : Nat) (σ : Sg) : Option (Sg) :=
  J160_1  hy_fu a0 (0 : Int32) σ
/-- HayBoardModel.isOn(I)Z -/
def J162 (a0 : Int32) (σ : Sg) : Option (Int32 × Sg) :=
  (J128 a0 (2 : Int32) σ).bind fun p1 => if (36 : Int32) ≤ p1.1 then (some ((0 : Int32), p1.2)) else (some ((1 : Int32), p1.2))
def J161_5 (k1 : Int32 → Int32 → Int32 → Sg → Option (Int32 × Sg)) (x100 : Int32) (x101 : Int32) (x1 : Int32) (x3 : Int32) (σ : Sg) : Option (Int32 × Sg) :=
  k1 x1 (x101 + x100) (x3 + (1 : Int32)) σ
def J161_3 (k1 : Int32 → Int32 → Int32 → Sg → Option (Int32 × Sg)) (x100 : Int32) (x1 : Int32) (x2 : Int32) (x3 : Int32) (σ : Sg) : Option (Int32 × Sg) :=
  (J128 x3 (1 : Int32) σ).bind fun p1 => if p1.1 = x1 then (J161_5 (k1) x100 x2 x1 x3 p1.2) else (J161_5 (k1) ((-x100)) x2 x1 x3 p1.2)
def J161_1  : Nat → Int32 → Int32 → Int32 → Sg → Option (Int32 × Sg)
  | 0, _, _, _, _ => none
  | n + 1, x1, x2, x3, σ => if (σ 139 1) ≤ x3 then (some (x2, σ)) else ((J162 x3 σ).bind fun p2 => if p2.1 = 0 then (J161_3 (J161_1  n) (0 : Int32) x1 x2 x3 p2.2) else ((J133 x3 p2.2).bind fun p3 => J161_3 (J161_1  n) p3.1 x1 x2 x3 p3.2))
/-- HayBoardModel.leadOf(I)I -/
def J161 (a0 : Int32) (σ : Sg) : Option (Int32 × Sg) :=
  J161_1  hy_fu a0 (0 : Int32) (0 : Int32) σ
def J163_1  : Nat → Nat → Int32 → Sg → Option (Sg)
  | 0, _, _, _ => none
  | n + 1, r1, x2, σ => if (72 : Int32) ≤ x2 then (some σ) else (if hy_ib x2 72 then if hy_ib ((7 : Int32) + x2) 1451 then J163_1  n r1 (x2 + (1 : Int32)) (hy_up σ 139 (hy_ix ((7 : Int32) + x2)) (σ r1 (hy_ix x2))) else none else none)
/-- HayBoardModel.loads([I)V -/
def J163 (a0 : Nat) (σ : Sg) : Option (Sg) :=
  J163_1  hy_fu a0 (0 : Int32) σ
def J159_3 (k1 : Int32 → Nat → Int32 → Int32 → Sg → Option (Int32 × Sg))  (x1 : Int32) (r2 : Nat) (x3 : Int32) (x4 : Int32) (x5 : Int32) (σ : Sg) : Option (Int32 × Sg) :=
  k1 x1 r2 x3 (x4 + (1 : Int32)) σ
def J159_2 (k1 : Int32 → Nat → Int32 → Int32 → Sg → Option (Int32 × Sg))  (x1 : Int32) (r2 : Nat) (x4 : Int32) (x5 : Int32) (x7 : Int32) (σ : Sg) : Option (Int32 × Sg) :=
  J159_3 (k1) x1 r2 (((100 : Int32) * x5) + (hy_rem x4 (36 : Int32))) x4 x5 (hy_up σ 138 6 x7)
def J159_1  : Nat → Int32 → Nat → Int32 → Int32 → Sg → Option (Int32 × Sg)
  | 0, _, _, _, _, _ => none
  | n + 1, x1, r2, x3, x4, σ => if ((36 : Int32) * (σ 139 1)) ≤ x4 then (some (x3, σ)) else ((J128 (x4 / (36 : Int32)) (1 : Int32) σ).bind fun p1 => if p1.1 = x1 then ((J143 (x4 / (36 : Int32)) (hy_rem x4 (36 : Int32)) p1.2).bind fun p2 => if p2.1 = 0 then (J159_3 (J159_1  n) x1 r2 x3 x4 (x4 / (36 : Int32)) p2.2) else ((J156 (x4 / (36 : Int32)) (hy_rem x4 (36 : Int32)) p2.2).bind fun p3 => (J161 x1 p3.2).bind fun p4 => (J163 r2 p4.2).bind fun σ5 => if x3 < 0 then (J159_2 (J159_1  n) x1 r2 x4 (x4 / (36 : Int32)) p4.1 σ5) else (if p4.1 ≤ (σ5 138 6) then (J159_3 (J159_1  n) x1 r2 x3 x4 (x4 / (36 : Int32)) σ5) else (J159_2 (J159_1  n) x1 r2 x4 (x4 / (36 : Int32)) p4.1 σ5)))) else (J159_3 (J159_1  n) x1 r2 x3 x4 (x4 / (36 : Int32)) p1.2))
/-- HayBoardModel.bestOf(I[I)I -/
def J159 (a0 : Int32) (a1 : Nat) (σ : Sg) : Option (Int32 × Sg) :=
  (J160 a1 σ).bind fun σ32 => J159_1  hy_fu a0 a1 (-1 : Int32) (0 : Int32) σ32
def J164_4 (k1 : Int32 → Int32 → Int32 → Int32 → Sg → Option (Int32 × Sg))  (x1 : Int32) (x2 : Int32) (x3 : Int32) (x4 : Int32) (x5 : Int32) (σ : Sg) : Option (Int32 × Sg) :=
  k1 x1 x2 x3 (x4 + (1 : Int32)) σ
def J164_3 (k1 : Int32 → Int32 → Int32 → Int32 → Sg → Option (Int32 × Sg))  (x1 : Int32) (x4 : Int32) (x5 : Int32) (x8 : Int32) (σ : Sg) : Option (Int32 × Sg) :=
  J164_4 (k1) x1 (((100 : Int32) * x5) + (hy_rem x4 (36 : Int32))) x8 x4 x5 σ
def J164_2 (k1 : Int32 → Int32 → Int32 → Int32 → Sg → Option (Int32 × Sg))  (x1 : Int32) (x2 : Int32) (x3 : Int32) (x4 : Int32) (x5 : Int32) (σ : Sg) : Option (Int32 × Sg) :=
  (J161 x1 σ).bind fun p1 => (J163 142 p1.2).bind fun σ2 => if x2 < 0 then (J164_3 (k1) x1 x4 x5 p1.1 σ2) else (if p1.1 ≤ x3 then (J164_4 (k1) x1 x2 x3 x4 x5 σ2) else (J164_3 (k1) x1 x4 x5 p1.1 σ2))
def J164_1  : Nat → Int32 → Int32 → Int32 → Int32 → Sg → Option (Int32 × Sg)
  | 0, _, _, _, _, _ => none
  | n + 1, x1, x2, x3, x4, σ => if ((36 : Int32) * (σ 139 1)) ≤ x4 then (some (x2, (hy_up σ 138 6 x3))) else ((J128 (x4 / (36 : Int32)) (1 : Int32) σ).bind fun p4 => if p4.1 = x1 then ((J143 (x4 / (36 : Int32)) (hy_rem x4 (36 : Int32)) p4.2).bind fun p5 => if p5.1 = 0 then (J164_4 (J164_1  n) x1 x2 x3 x4 (x4 / (36 : Int32)) p5.2) else ((J156 (x4 / (36 : Int32)) (hy_rem x4 (36 : Int32)) p5.2).bind fun p6 => (J159 ((1 : Int32) - x1) 143 p6.2).bind fun p7 => if p7.1 < 0 then (J164_2 (J164_1  n) x1 x2 x3 x4 (x4 / (36 : Int32)) p7.2) else ((J156 (p7.1 / (100 : Int32)) (hy_rem p7.1 (100 : Int32)) p7.2).bind fun p8 => J164_2 (J164_1  n) x1 x2 x3 x4 (x4 / (36 : Int32)) p8.2))) else (J164_4 (J164_1  n) x1 x2 x3 x4 (x4 / (36 : Int32)) p4.2))
/-- HayBoardModel.bestOfTwo(I)I -/
def J164 (a0 : Int32) (σ : Sg) : Option (Int32 × Sg) :=
  (J160 142 σ).bind fun σ35 => J164_1  hy_fu a0 (-1 : Int32) (0 : Int32) (0 : Int32) σ35
def J158_4  (x100 : Int32) (x3 : Int32) (σ : Sg) : Option (Int32 × Sg) :=
  if 0 ≤ x100 then (if x3 = 0 then (some (x100, σ)) else (some ((σ 138 6), σ))) else (some ((-1000000005 : Int32), σ))
/-- HayBoardModel.best(III)I -/
def J158 (a0 : Int32) (a1 : Int32) (a2 : Int32) (σ : Sg) : Option (Int32 × Sg) :=
  (J125 a0 (0 : Int32) (1 : Int32) σ).bind fun p1 => if p1.1 = 0 then (some ((-1000000001 : Int32), p1.2)) else ((J125 a1 (1 : Int32) (2 : Int32) p1.2).bind fun p2 => if p2.1 = 0 then (some ((-1000000001 : Int32), p2.2)) else ((J125 a2 (0 : Int32) (1 : Int32) p2.2).bind fun p3 => if p3.1 = 0 then (some ((-1000000001 : Int32), p3.2)) else (if a1 = (1 : Int32) then ((J159 a0 142 p3.2).bind fun p5 => J158_4  p5.1 a2 p5.2) else ((J164 a0 p3.2).bind fun p4 => J158_4  p4.1 a2 p4.2))))
def J165_7 (k2 : Int32 → Int32 → Int32 → Sg → Option (Int32 × Sg)) (k3 : Int32 → Int32 → Int32 → Int32 → Sg → Option (Int32 × Sg)) (x100 : Int32) (x101 : Int32) (x1 : Int32) (x3 : Int32) (x4 : Int32) (σ : Sg) : Option (Int32 × Sg) :=
  k3 x1 (x101 ||| x100) x3 (x4 + (1 : Int32)) σ
def J165_5 (k2 : Int32 → Int32 → Int32 → Sg → Option (Int32 × Sg)) (k3 : Int32 → Int32 → Int32 → Int32 → Sg → Option (Int32 × Sg)) (x100 : Int32) (x1 : Int32) (x2 : Int32) (x3 : Int32) (x4 : Int32) (σ : Sg) : Option (Int32 × Sg) :=
  if x100 = 0 then (J165_7 (k2) (k3) (0 : Int32) x2 x1 x3 x4 σ) else (J165_7 (k2) (k3) ((1 : Int32) <<< (x3 &&& 31)) x2 x1 x3 x4 σ)
def J165_4 (k2 : Int32 → Int32 → Int32 → Sg → Option (Int32 × Sg)) (k3 : Int32 → Int32 → Int32 → Int32 → Sg → Option (Int32 × Sg))  (x1 : Int32) (x2 : Int32) (x3 : Int32) (x4 : Int32) (σ : Sg) : Option (Int32 × Sg) :=
  J165_5 (k2) (k3) (0 : Int32) x1 x2 x3 x4 σ
def J165_3 (k2 : Int32 → Int32 → Int32 → Sg → Option (Int32 × Sg)) : Nat → Int32 → Int32 → Int32 → Int32 → Sg → Option (Int32 × Sg)
  | 0, _, _, _, _, _ => none
  | n + 1, x1, x2, x3, x4, σ => if (σ 139 1) ≤ x4 then (k2 x1 x2 (x3 + (1 : Int32)) σ) else ((J128 x3 (1 : Int32) σ).bind fun p1 => if p1.1 = x1 then ((J162 x3 p1.2).bind fun p2 => if p2.1 = 0 then (J165_4 (k2) (J165_3 k2 n) x1 x2 x3 x4 p2.2) else ((J128 x4 (1 : Int32) p2.2).bind fun p3 => if p3.1 = x1 then (J165_4 (k2) (J165_3 k2 n) x1 x2 x3 x4 p3.2) else ((J128 x3 (2 : Int32) p3.2).bind fun p4 => (J143 x4 p4.1 p4.2).bind fun p5 => if p5.1 = 0 then (J165_4 (k2) (J165_3 k2 n) x1 x2 x3 x4 p5.2) else (J165_5 (k2) (J165_3 k2 n) (1 : Int32) x1 x2 x3 x4 p5.2)))) else (J165_4 (k2) (J165_3 k2 n) x1 x2 x3 x4 p1.2))
def J165_2  : Nat → Int32 → Int32 → Int32 → Sg → Option (Int32 × Sg)
  | 0, _, _, _, _ => none
  | n + 1, x1, x2, x3, σ => if (σ 139 1) ≤ x3 then (some (x2, σ)) else (J165_3 (J165_2  n) hy_fu x1 x2 x3 (0 : Int32) σ)
/-- HayBoardModel.threats(I)I -/
def J165 (a0 : Int32) (σ : Sg) : Option (Int32 × Sg) :=
  (J125 a0 (0 : Int32) (1 : Int32) σ).bind fun p32 => if p32.1 = 0 then (some ((-1000000001 : Int32), p32.2)) else (J165_2  hy_fu a0 (0 : Int32) (0 : Int32) p32.2)
/-- HayBoardModel.lead(I)I -/
def J166 (a0 : Int32) (σ : Sg) : Option (Int32 × Sg) :=
  (J125 a0 (0 : Int32) (1 : Int32) σ).bind fun p1 => if p1.1 = 0 then (some ((-1000000001 : Int32), p1.2)) else ((J161 a0 p1.2).bind fun p2 => some (p2.1, p2.2))
def J168_3 (k1 : Int32 → Int32 → Sg → Option (Int32 × Sg)) (x100 : Int32) (x101 : Int32) (x2 : Int32) (σ : Sg) : Option (Int32 × Sg) :=
  k1 (x101 + x100) (x2 + (1 : Int32)) σ
def J168_1  : Nat → Int32 → Int32 → Sg → Option (Int32 × Sg)
  | 0, _, _, _ => none
  | n + 1, x1, x2, σ => if (σ 139 1) ≤ x2 then (some (x1, σ)) else ((J162 x2 σ).bind fun p1 => if p1.1 = 0 then (J168_3 (J168_1  n) (0 : Int32) x1 x2 p1.2) else (J168_3 (J168_1  n) (1 : Int32) x1 x2 p1.2))
/-- HayBoardModel.manyOn()I -/
def J168  (σ : Sg) : Option (Int32 × Sg) :=
  J168_1  hy_fu (0 : Int32) (0 : Int32) σ
/-- HayBoardModel.grazes(I)V -/
def J171 (a0 : Int32) (σ : Sg) : Option (Sg) :=
  (J128 a0 (3 : Int32) σ).bind fun p1 => (J138 a0 p1.2).bind fun p2 => (J137 (p1.1 - p2.1) (1 : Int32) (99 : Int32) p2.2).bind fun p3 => (J130 a0 (3 : Int32) p3.1 p3.2).bind fun σ4 => if (1 : Int32) ≤ (p1.1 - p2.1) then (some σ4) else ((J130 a0 (2 : Int32) (36 : Int32) σ4).bind fun σ5 => some σ5)
def J172_3 (k1 : Int32 → Sg → Option (Sg))  (x1 : Int32) (σ : Sg) : Option (Sg) :=
  k1 (x1 + (1 : Int32)) σ
def J172_2 (k1 : Int32 → Sg → Option (Sg))  (x1 : Int32) (σ : Sg) : Option (Sg) :=
  (J162 x1 σ).bind fun p1 => if p1.1 = 0 then (J172_3 (k1) x1 p1.2) else ((J130 x1 (0 : Int32) (5 : Int32) p1.2).bind fun σ2 => J172_3 (k1) x1 σ2)
def J172_1  : Nat → Int32 → Sg → Option (Sg)
  | 0, _, _ => none
  | n + 1, x1, σ => if (σ 139 1) ≤ x1 then (some σ) else ((J162 x1 σ).bind fun p4 => if p4.1 = 0 then (J172_2 (J172_1  n) x1 p4.2) else ((J128 x1 (3 : Int32) p4.2).bind fun p5 => if p5.1 ≤ (1 : Int32) then (J172_2 (J172_1  n) x1 p5.2) else ((J128 x1 (3 : Int32) p5.2).bind fun p6 => (J130 x1 (3 : Int32) (p6.1 - (1 : Int32)) p6.2).bind fun σ7 => J172_3 (J172_1  n) x1 σ7)))
/-- HayBoardModel.rains()V -/
def J172  (σ : Sg) : Option (Sg) :=
  J172_1  hy_fu (0 : Int32) σ
def J170_3    (σ : Sg) : Option (Sg) :=
  some (hy_up σ 139 2 ((σ 139 2) + (1 : Int32)))
def J170_2    (σ : Sg) : Option (Sg) :=
  (J153  σ).bind fun p1 => if (p1.2 139 4) ≤ (hy_rem p1.1 (100 : Int32)) then (J170_3   p1.2) else ((J172  p1.2).bind fun σ2 => J170_3   σ2)
def J170_1    (σ : Sg) : Option (Sg) :=
  (J153  (hy_up σ 139 3 ((1 : Int32) - (σ 139 3)))).bind fun p4 => if (p4.2 139 5) ≤ (hy_rem p4.1 (100 : Int32)) then (J170_2   p4.2) else ((J153  p4.2).bind fun p5 => (J127 (hy_rem p5.1 (36 : Int32)) p5.2).bind fun p6 => if p6.1 < 0 then (J170_2   p6.2) else ((J171 p6.1 p6.2).bind fun σ7 => J170_2   σ7))
/-- HayBoardModel.day()V -/
def J170  (σ : Sg) : Option (Sg) :=
  (J159 (σ 139 3) 142 σ).bind fun p19 => if p19.1 < 0 then (J170_1   p19.2) else ((J156 (p19.1 / (100 : Int32)) (hy_rem p19.1 (100 : Int32)) p19.2).bind fun p20 => J170_1   p20.2)
def J169_1  : Nat → Int32 → Int32 → Sg → Option (Sg)
  | 0, _, _, _ => none
  | n + 1, x1, x2, σ => if x1 ≤ x2 then (some σ) else ((J170  σ).bind fun σ1 => J169_1  n x1 (x2 + (1 : Int32)) σ1)
/-- HayBoardModel.goesOn(I)V -/
def J169 (a0 : Int32) (σ : Sg) : Option (Sg) :=
  J169_1  hy_fu a0 (0 : Int32) σ
/-- HayBoardModel.days(I)I -/
def J167 (a0 : Int32) (σ : Sg) : Option (Int32 × Sg) :=
  (J125 a0 (1 : Int32) (40 : Int32) σ).bind fun p1 => if p1.1 = 0 then (some ((-1000000001 : Int32), p1.2)) else ((J168  p1.2).bind fun p2 => (J137 ((9999 : Int32) - (p2.2 139 2)) (0 : Int32) a0 p2.2).bind fun p3 => (J169 p3.1 p3.2).bind fun σ4 => (J168  σ4).bind fun p5 => some ((p2.1 - p5.1), p5.2))
def J174_1  : Nat → Int32 → Sg → Option (Sg)
  | 0, _, _ => none
  | n + 1, x1, σ => if (79 : Int32) ≤ x1 then (some σ) else (if hy_ib x1 1451 then if hy_ib x1 79 then J174_1  n (x1 + (1 : Int32)) (hy_up σ 144 (hy_ix x1) (σ 139 (hy_ix x1))) else none else none)
/-- HayBoardModel.thinks()V -/
def J174  (σ : Sg) : Option (Sg) :=
  J174_1  hy_fu (0 : Int32) σ
def J175_3 (k1 : Int32 → Int32 → Sg → Option (Int32 × Sg)) (x100 : Int32) (x101 : Int32) (x2 : Int32) (σ : Sg) : Option (Int32 × Sg) :=
  k1 (x101 + x100) (x2 + (1 : Int32)) σ
def J175_1  : Nat → Int32 → Int32 → Sg → Option (Int32 × Sg)
  | 0, _, _, _ => none
  | n + 1, x1, x2, σ => if (σ 139 1) ≤ x2 then (some (x1, σ)) else ((J162 x2 σ).bind fun p1 => if p1.1 = 0 then (J175_3 (J175_1  n) (0 : Int32) x1 x2 p1.2) else ((J128 x2 (3 : Int32) p1.2).bind fun p2 => J175_3 (J175_1  n) p2.1 x1 x2 p2.2))
/-- HayBoardModel.allHay()I -/
def J175  (σ : Sg) : Option (Int32 × Sg) :=
  J175_1  hy_fu (0 : Int32) (0 : Int32) σ
def J176_1  : Nat → Int32 → Sg → Option (Sg)
  | 0, _, _ => none
  | n + 1, x1, σ => if (79 : Int32) ≤ x1 then (some σ) else (if hy_ib x1 79 then if hy_ib x1 1451 then J176_1  n (x1 + (1 : Int32)) (hy_up σ 139 (hy_ix x1) (σ 144 (hy_ix x1))) else none else none)
/-- HayBoardModel.putsBack()V -/
def J176  (σ : Sg) : Option (Sg) :=
  J176_1  hy_fu (0 : Int32) σ
def J173_6  (x100 : Int32)  (σ : Sg) : Option (Int32 × Sg) :=
  (J176  σ).bind fun σ1 => some (x100, σ1)
def J173_2   (x1 : Int32) (x2 : Int32) (σ : Sg) : Option (Int32 × Sg) :=
  (J174  σ).bind fun σ2 => (J169 x1 σ2).bind fun σ3 => if x2 = 0 then ((J161 (0 : Int32) σ3).bind fun p7 => J173_6  p7.1 p7.2) else (if x2 = (1 : Int32) then ((J168  σ3).bind fun p6 => J173_6  p6.1 p6.2) else (if x2 = (2 : Int32) then ((J175  σ3).bind fun p5 => J173_6  p5.1 p5.2) else ((J128 (x2 - (3 : Int32)) (2 : Int32) σ3).bind fun p4 => J173_6  p4.1 p4.2)))
/-- HayBoardModel.behind(II)I -/
def J173 (a0 : Int32) (a1 : Int32) (σ : Sg) : Option (Int32 × Sg) :=
  (J125 a0 (0 : Int32) (40 : Int32) σ).bind fun p8 => if p8.1 = 0 then (some ((-1000000001 : Int32), p8.2)) else (if a1 < 0 then (some ((-1000000001 : Int32), p8.2)) else (if a1 ≤ (2 : Int32) then (J173_2  a0 a1 p8.2) else ((J132 (a1 - (3 : Int32)) p8.2).bind fun p9 => if p9.1 = 0 then (some ((-1000000001 : Int32), p9.2)) else (J173_2  a0 a1 p9.2))))
def J178_3 (k1 : Int32 → Int32 → Sg → Option (Int32 × Sg)) (x100 : Int32) (x101 : Int32) (x2 : Int32) (σ : Sg) : Option (Int32 × Sg) :=
  k1 (x101 ||| x100) (x2 + (1 : Int32)) σ
def J178_1  : Nat → Int32 → Int32 → Sg → Option (Int32 × Sg)
  | 0, _, _, _ => none
  | n + 1, x1, x2, σ => if (σ 139 1) ≤ x2 then (if (3 : Int32) ≤ x1 then (some ((0 : Int32), σ)) else (some ((1 : Int32), σ))) else ((J162 x2 σ).bind fun p1 => if p1.1 = 0 then (J178_3 (J178_1  n) (0 : Int32) x1 x2 p1.2) else ((J128 x2 (1 : Int32) p1.2).bind fun p2 => J178_3 (J178_1  n) ((1 : Int32) <<< (p2.1 &&& 31)) x1 x2 p2.2))
/-- HayBoardModel.isOver()Z -/
def J178  (σ : Sg) : Option (Int32 × Sg) :=
  J178_1  hy_fu (0 : Int32) (0 : Int32) σ
def J177_2   (x1 : Int32) (σ : Sg) : Option (Int32 × Sg) :=
  (J176  σ).bind fun σ1 => if x1 ≤ (100 : Int32) then (some (x1, σ1)) else (some ((-1000000005 : Int32), σ1))
def J177_1  : Nat → Int32 → Sg → Option (Int32 × Sg)
  | 0, _, _ => none
  | n + 1, x1, σ => if (100 : Int32) < x1 then (J177_2  x1 σ) else ((J178  σ).bind fun p2 => if p2.1 = 0 then ((J170  p2.2).bind fun σ3 => J177_1  n (x1 + (1 : Int32)) σ3) else (J177_2  x1 p2.2))
/-- HayBoardModel.ends()I -/
def J177  (σ : Sg) : Option (Int32 × Sg) :=
  (J174  σ).bind fun σ5 => J177_1  hy_fu (0 : Int32) σ5
def J179_5 (k3 : Int32 → Int32 → Int32 → Int32 → Int32 → Sg → Option (Int32 × Sg))  (x1 : Int32) (x2 : Int32) (x3 : Int32) (x4 : Int32) (x5 : Int32) (σ : Sg) : Option (Int32 × Sg) :=
  k3 x1 x2 x3 x4 (x5 + (1 : Int32)) σ
def J179_4 (k3 : Int32 → Int32 → Int32 → Int32 → Int32 → Sg → Option (Int32 × Sg))  (x1 : Int32) (x2 : Int32) (x5 : Int32) (x7 : Int32) (σ : Sg) : Option (Int32 × Sg) :=
  J179_5 (k3) x1 x2 x5 x7 x5 σ
def J179_3  : Nat → Int32 → Int32 → Int32 → Int32 → Int32 → Sg → Option (Int32 × Sg)
  | 0, _, _, _, _, _, _ => none
  | n + 1, x1, x2, x3, x4, x5, σ => if (σ 139 1) ≤ x5 then (if 0 ≤ x3 then (if x2 = 0 then (some (x3, σ)) else (some (x4, σ))) else (some ((-1000000005 : Int32), σ))) else ((J162 x5 σ).bind fun p1 => if p1.1 = 0 then (J179_5 (J179_3  n) x1 x2 x3 x4 x5 p1.2) else ((J128 x5 (1 : Int32) p1.2).bind fun p2 => (J130 x5 (2 : Int32) (36 : Int32) p2.2).bind fun σ3 => (J169 x1 σ3).bind fun σ4 => (J161 p2.1 σ4).bind fun p5 => (J176  p5.2).bind fun σ6 => if x3 < 0 then (J179_4 (J179_3  n) x1 x2 x5 p5.1 σ6) else (if x4 ≤ p5.1 then (J179_5 (J179_3  n) x1 x2 x3 x4 x5 σ6) else (J179_4 (J179_3  n) x1 x2 x5 p5.1 σ6))))
/-- HayBoardModel.spared(II)I -/
def J179 (a0 : Int32) (a1 : Int32) (σ : Sg) : Option (Int32 × Sg) :=
  (J125 a0 (1 : Int32) (12 : Int32) σ).bind fun p24 => if p24.1 = 0 then (some ((-1000000001 : Int32), p24.2)) else ((J125 a1 (0 : Int32) (1 : Int32) p24.2).bind fun p25 => if p25.1 = 0 then (some ((-1000000001 : Int32), p25.2)) else ((J174  p25.2).bind fun σ26 => J179_3  hy_fu a0 a1 (-1 : Int32) (0 : Int32) (0 : Int32) σ26))
def J180_5 (k3 : Int32 → Int32 → Int32 → Int32 → Int32 → Sg → Option (Int32 × Sg))  (x1 : Int32) (x2 : Int32) (x3 : Int32) (x4 : Int32) (x5 : Int32) (σ : Sg) : Option (Int32 × Sg) :=
  k3 x1 x2 x3 x4 (x5 + (1 : Int32)) σ
def J180_4 (k3 : Int32 → Int32 → Int32 → Int32 → Int32 → Sg → Option (Int32 × Sg))  (x1 : Int32) (x2 : Int32) (x5 : Int32) (x6 : Int32) (σ : Sg) : Option (Int32 × Sg) :=
  J180_5 (k3) x1 x2 x5 x6 x5 σ
def J180_3  : Nat → Int32 → Int32 → Int32 → Int32 → Int32 → Sg → Option (Int32 × Sg)
  | 0, _, _, _, _, _, _ => none
  | n + 1, x1, x2, x3, x4, x5, σ => if (σ 139 1) ≤ x5 then (if 0 ≤ x3 then (if x2 = 0 then (some (x3, σ)) else (some (x4, σ))) else (some ((-1000000005 : Int32), σ))) else ((J162 x5 σ).bind fun p1 => if p1.1 = 0 then (J180_5 (J180_3  n) x1 x2 x3 x4 x5 p1.2) else ((J128 x5 (1 : Int32) p1.2).bind fun p2 => if p2.1 = 0 then ((J130 x5 (1 : Int32) (1 : Int32) p2.2).bind fun σ3 => (J169 x1 σ3).bind fun σ4 => (J161 (0 : Int32) σ4).bind fun p5 => (J176  p5.2).bind fun σ6 => if x3 < 0 then (J180_4 (J180_3  n) x1 x2 x5 p5.1 σ6) else ((J144 p5.1 (0 : Int32) σ6).bind fun p7 => (J144 x4 (0 : Int32) p7.2).bind fun p8 => if p8.1 ≤ p7.1 then (J180_5 (J180_3  n) x1 x2 x3 x4 x5 p8.2) else (J180_4 (J180_3  n) x1 x2 x5 p5.1 p8.2))) else (J180_5 (J180_3  n) x1 x2 x3 x4 x5 p2.2)))
/-- HayBoardModel.given(II)I -/
def J180 (a0 : Int32) (a1 : Int32) (σ : Sg) : Option (Int32 × Sg) :=
  (J125 a0 (1 : Int32) (12 : Int32) σ).bind fun p48 => if p48.1 = 0 then (some ((-1000000001 : Int32), p48.2)) else ((J125 a1 (0 : Int32) (1 : Int32) p48.2).bind fun p49 => if p49.1 = 0 then (some ((-1000000001 : Int32), p49.2)) else ((J174  p49.2).bind fun σ50 => J180_3  hy_fu a0 a1 (-1 : Int32) (0 : Int32) (0 : Int32) σ50))
/-- HayBoardModel.isSheet(I)Z -/
def J182 (a0 : Int32) (σ : Sg) : Option (Int32 × Sg) :=
  (J125 a0 (0 : Int32) (3 : Int32) σ).bind fun p1 => if p1.1 = 0 ∨ p1.1 = 1 then some (p1.1, p1.2) else none
def J183_6 (k1 : Int32 → Int64 → Int32 → Sg → Option (Int64 × Sg)) (x100 : Int64) (x101 : Int64) (x1 : Int32) (x4 : Int32) (x5 : Int32) (σ : Sg) : Option (Int64 × Sg) :=
  k1 x1 (x101 + x100) (x4 + (1 : Int32)) σ
def J183_3 (k1 : Int32 → Int64 → Int32 → Sg → Option (Int64 × Sg)) (x100 : Int32) (x101 : Int64) (x1 : Int32) (x2 : Int64) (x4 : Int32) (x5 : Int32) (σ : Sg) : Option (Int64 × Sg) :=
  if x5 = (-1000000005 : Int32) then (J183_6 (k1) (0 : Int64) x2 x1 x4 x5 σ) else (if 0 ≤ (lg_cmp (x101 - ((x100).toInt64)) (0 : Int64)) then (J183_6 (k1) (x101 - ((x100).toInt64)) x2 x1 x4 x5 σ) else (J183_6 (k1) ((-(x101 - ((x100).toInt64)))) x2 x1 x4 x5 σ))
def J183_1  : Nat → Int32 → Int64 → Int32 → Sg → Option (Int64 × Sg)
  | 0, _, _, _, _ => none
  | n + 1, x1, x2, x4, σ => if hy_ib x1 4 then if (σ 154 (hy_ix x1)) ≤ x4 then (some (x2, σ)) else (if hy_ib (((24 : Int32) * x1) + x4) 96 then (J132 x4 σ).bind fun p1 => if p1.1 = 0 then (J183_3 (J183_1  n) (0 : Int32) (((σ 155 (hy_ix (((24 : Int32) * x1) + x4)))).toInt64) x1 x2 x4 (σ 155 (hy_ix (((24 : Int32) * x1) + x4))) p1.2) else ((J128 x4 (2 : Int32) p1.2).bind fun p2 => J183_3 (J183_1  n) p2.1 (((σ 155 (hy_ix (((24 : Int32) * x1) + x4)))).toInt64) x1 x2 x4 (σ 155 (hy_ix (((24 : Int32) * x1) + x4))) p2.2) else none) else none
/-- HayBoardModel.offNow(I)J -/
def J183 (a0 : Int32) (σ : Sg) : Option (Int64 × Sg) :=
  J183_1  hy_fu a0 (0 : Int64) (0 : Int32) σ
def J181_6 (k4 : Int32 → Int32 → Int32 → Int32 → Int64 → Int32 → Sg → Option (Int32 × Sg))  (x1 : Int32) (x2 : Int32) (x3 : Int32) (x4 : Int32) (x5 : Int64) (x7 : Int32) (σ : Sg) : Option (Int32 × Sg) :=
  k4 x1 x2 x3 x4 x5 (x7 + (1 : Int32)) σ
def J181_5 (k4 : Int32 → Int32 → Int32 → Int32 → Int64 → Int32 → Sg → Option (Int32 × Sg))  (x1 : Int32) (x2 : Int32) (x3 : Int32) (x7 : Int32) (x8 : Int64) (σ : Sg) : Option (Int32 × Sg) :=
  J181_6 (k4) x1 x2 x3 x7 x8 x7 σ
def J181_4  : Nat → Int32 → Int32 → Int32 → Int32 → Int64 → Int32 → Sg → Option (Int32 × Sg)
  | 0, _, _, _, _, _, _, _ => none
  | n + 1, x1, x2, x3, x4, x5, x7, σ => if (σ 139 1) ≤ x7 then (if 0 ≤ x4 then (if x3 = 0 then (some (x4, σ)) else (some (((x5).toInt32), σ))) else (some ((-1000000005 : Int32), σ))) else ((J162 x7 σ).bind fun p1 => if p1.1 = 0 then (J181_6 (J181_4  n) x1 x2 x3 x4 x5 x7 p1.2) else ((J130 x7 (2 : Int32) (36 : Int32) p1.2).bind fun σ2 => (J169 x2 σ2).bind fun σ3 => (J183 x1 σ3).bind fun p4 => (J176  p4.2).bind fun σ5 => if x4 < 0 then (J181_5 (J181_4  n) x1 x2 x3 x7 p4.1 σ5) else (if 0 ≤ (lg_cmp p4.1 x5) then (J181_6 (J181_4  n) x1 x2 x3 x4 x5 x7 σ5) else (J181_5 (J181_4  n) x1 x2 x3 x7 p4.1 σ5))))
/-- HayBoardModel.storm(III)I -/
def J181 (a0 : Int32) (a1 : Int32) (a2 : Int32) (σ : Sg) : Option (Int32 × Sg) :=
  (J182 a0 σ).bind fun p12 => if p12.1 = 0 then (some ((-1000000001 : Int32), p12.2)) else ((J125 a1 (0 : Int32) (12 : Int32) p12.2).bind fun p13 => if p13.1 = 0 then (some ((-1000000001 : Int32), p13.2)) else ((J125 a2 (0 : Int32) (1 : Int32) p13.2).bind fun p14 => if p14.1 = 0 then (some ((-1000000001 : Int32), p14.2)) else (if hy_ib a0 4 then if 0 ≤ (p14.2 153 (hy_ix a0)) then ((J174  p14.2).bind fun σ15 => J181_4  hy_fu a0 a1 a2 (-1 : Int32) (0 : Int64) (0 : Int32) σ15) else (some ((-1000000011 : Int32), p14.2)) else none)))
/-- HayBoardModel.fee()I -/
def J184  (σ : Sg) : Option (Int32 × Sg) :=
  (J134 (1 : Int32) σ).bind fun p1 => if 0 ≤ p1.1 then ((J135 p1.1 (hy_up (hy_up p1.2 152 0 (p1.2 139 2)) 152 1 ((hy_up p1.2 152 0 (p1.2 139 2)) 139 3))).bind fun p2 => some (p2.1, p2.2)) else (some (((hy_up (hy_up p1.2 152 0 (p1.2 139 2)) 152 1 ((hy_up p1.2 152 0 (p1.2 139 2)) 139 3)) 139 2), (hy_up (hy_up p1.2 152 0 (p1.2 139 2)) 152 1 ((hy_up p1.2 152 0 (p1.2 139 2)) 139 3))))
/-- HayBoardModel.fine(I)I -/
def J185 (a0 : Int32) (σ : Sg) : Option (Int32 × Sg) :=
  (J132 a0 σ).bind fun p1 => if p1.1 = 0 then (some ((-1000000001 : Int32), p1.2)) else ((J134 (2 : Int32) p1.2).bind fun p2 => (J128 a0 (4 : Int32) p2.2).bind fun p3 => (J128 a0 (3 : Int32) (hy_up p3.2 152 0 p3.1)).bind fun p4 => if 0 ≤ p2.1 then ((J135 p2.1 (hy_up p4.2 152 1 p4.1)).bind fun p5 => some (p5.1, p5.2)) else ((J128 a0 (4 : Int32) (hy_up p4.2 152 1 p4.1)).bind fun p6 => some (p6.1, p6.2)))
def J186_5 (k2 : Int32 → Int32 → Int32 → Int32 → Sg → Option (Int32 × Sg)) (x100 : Int32) (x1 : Int32) (x2 : Int32) (x3 : Int32) (x4 : Int32) (σ : Sg) : Option (Int32 × Sg) :=
  if hy_ib ((σ 138 9) + x4) 96 then k2 x1 x2 x3 (x4 + (1 : Int32)) (hy_up σ 145 (hy_ix ((σ 138 9) + x4)) ((x100 >>> (((24 : Int32) - ((8 : Int32) * (hy_rem x4 (4 : Int32)))) &&& 31)) &&& (255 : Int32))) else none
def J186_2  : Nat → Int32 → Int32 → Int32 → Int32 → Sg → Option (Int32 × Sg)
  | 0, _, _, _, _, _ => none
  | n + 1, x1, x2, x3, x4, σ => if (12 : Int32) ≤ x4 then (some (((hy_up σ 138 9 ((σ 138 9) + (12 : Int32))) 138 9), (hy_up σ 138 9 ((σ 138 9) + (12 : Int32))))) else (if (4 : Int32) ≤ x4 then (if (8 : Int32) ≤ x4 then (J186_5 (J186_2  n) x3 x1 x2 x3 x4 σ) else (J186_5 (J186_2  n) x2 x1 x2 x3 x4 σ)) else (J186_5 (J186_2  n) x1 x1 x2 x3 x4 σ))
/-- HayBoardModel.feed(III)I -/
def J186 (a0 : Int32) (a1 : Int32) (a2 : Int32) (σ : Sg) : Option (Int32 × Sg) :=
  if ((σ 138 9) + (12 : Int32)) ≤ (96 : Int32) then (J186_2  hy_fu a0 a1 a2 (0 : Int32) σ) else (some ((-1000000003 : Int32), σ))
/-- HayBoardModel.trim(I)I -/
def J187 (a0 : Int32) (σ : Sg) : Option (Int32 × Sg) :=
  (J125 a0 (0 : Int32) (σ 138 9) σ).bind fun p1 => if p1.1 = 0 then (some ((-1000000001 : Int32), p1.2)) else (some (a0, (hy_up p1.2 138 9 a0)))
/-- HayBoardModel.isLetter(I)Z -/
def J190 (a0 : Int32) (σ : Sg) : Option (Int32 × Sg) :=
  if (σ 138 9) ≤ a0 then (some ((0 : Int32), σ)) else (if hy_ib a0 96 then if (σ 145 (hy_ix a0)) < (97 : Int32) then (some ((0 : Int32), σ)) else (if hy_ib a0 96 then if (122 : Int32) < (σ 145 (hy_ix a0)) then (some ((0 : Int32), σ)) else (some ((1 : Int32), σ)) else none) else none)
/-- HayBoardModel.isFigure(I)Z -/
def J191 (a0 : Int32) (σ : Sg) : Option (Int32 × Sg) :=
  if (σ 138 9) ≤ a0 then (some ((0 : Int32), σ)) else (if hy_ib a0 96 then if (σ 145 (hy_ix a0)) < (48 : Int32) then (some ((0 : Int32), σ)) else (if hy_ib a0 96 then if (57 : Int32) < (σ 145 (hy_ix a0)) then (some ((0 : Int32), σ)) else (some ((1 : Int32), σ)) else none) else none)
def J189_16  (x100 : Int32)  (σ : Sg) : Option (Sg) :=
  some (hy_up (hy_up σ 138 12 x100) 138 14 ((hy_up σ 138 12 x100) 138 10))
def J189_14    (σ : Sg) : Option (Sg) :=
  J189_16  (4 : Int32) σ
def J189_12 (k10 : Int32 → Sg → Option (Sg)) (x100 : Int32) (x1 : Int32) (σ : Sg) : Option (Sg) :=
  k10 x1 (hy_up (hy_up σ 138 13 x100) 138 10 (((hy_up σ 138 13 x100) 138 10) + (1 : Int32)))
def J189_10  : Nat → Int32 → Sg → Option (Sg)
  | 0, _, _ => none
  | n + 1, x1, σ => (J191 (σ 138 10) σ).bind fun p1 => if p1.1 = 0 then (if x1 = 0 then (if ((p1.2 138 10) - (p1.2 138 11)) ≤ (4 : Int32) then (J189_16  (2 : Int32) p1.2) else (J189_14   p1.2)) else (J189_14   p1.2)) else (if (4 : Int32) ≤ ((p1.2 138 10) - (p1.2 138 11)) then (J189_12 (J189_10  n) (p1.2 138 13) x1 p1.2) else (if hy_ib (p1.2 138 10) 96 then J189_12 (J189_10  n) ((((10 : Int32) * (p1.2 138 13)) + (p1.2 145 (hy_ix (p1.2 138 10)))) - (48 : Int32)) x1 p1.2 else none))
def J189_8  (x100 : Int32)  (σ : Sg) : Option (Sg) :=
  if hy_ib ((hy_up σ 138 12 x100) 138 11) 96 then some (hy_up (hy_up (hy_up σ 138 12 x100) 138 13 ((hy_up σ 138 12 x100) 145 (hy_ix ((hy_up σ 138 12 x100) 138 11)))) 138 14 ((hy_up (hy_up σ 138 12 x100) 138 13 ((hy_up σ 138 12 x100) 145 (hy_ix ((hy_up σ 138 12 x100) 138 11)))) 138 10)) else none
def J189_5  : Nat → Int32 → Sg → Option (Sg)
  | 0, _, _ => none
  | n + 1, x1, σ => (J190 (σ 138 10) σ).bind fun p2 => if p2.1 = 0 then (if x1 = 0 then (J189_8  (1 : Int32) p2.2) else (J189_8  (4 : Int32) p2.2)) else (J189_5  n x1 (hy_up p2.2 138 10 ((p2.2 138 10) + (1 : Int32))))
def J189_3  (x100 : Int32)  (σ : Sg) : Option (Sg) :=
  if (σ 138 11) = (σ 138 9) then (some (hy_up σ 138 12 (0 : Int32))) else ((J190 (σ 138 11) σ).bind fun p3 => if p3.1 = 0 then ((J191 (p3.2 138 11) p3.2).bind fun p4 => if p4.1 = 0 then (if hy_ib ((hy_up p4.2 138 12 (3 : Int32)) 138 11) 96 then some (hy_up (hy_up (hy_up p4.2 138 12 (3 : Int32)) 138 13 ((hy_up p4.2 138 12 (3 : Int32)) 145 (hy_ix ((hy_up p4.2 138 12 (3 : Int32)) 138 11)))) 138 10 (((hy_up (hy_up p4.2 138 12 (3 : Int32)) 138 13 ((hy_up p4.2 138 12 (3 : Int32)) 145 (hy_ix ((hy_up p4.2 138 12 (3 : Int32)) 138 11)))) 138 10) + (1 : Int32))) else none) else (J189_10  hy_fu x100 (hy_up p4.2 138 13 (0 : Int32)))) else (J189_5  hy_fu x100 p3.2))
def J189_1    (σ : Sg) : Option (Sg) :=
  if ((hy_up σ 138 11 (σ 138 10)) 138 11) = ((hy_up σ 138 11 (σ 138 10)) 138 14) then (J189_3  (1 : Int32) (hy_up σ 138 11 (σ 138 10))) else (J189_3  (0 : Int32) (hy_up σ 138 11 (σ 138 10)))
def J189_0  : Nat → Sg → Option (Sg)
  | 0, _ => none
  | n + 1, σ => if (σ 138 9) ≤ (σ 138 10) then (J189_1   σ) else (if hy_ib (σ 138 10) 96 then if (σ 145 (hy_ix (σ 138 10))) = (32 : Int32) then (J189_0  n (hy_up σ 138 10 ((σ 138 10) + (1 : Int32)))) else (J189_1   σ) else none)
/-- HayBoardModel.go()V -/
def J189  (σ : Sg) : Option (Sg) :=
  J189_0  hy_fu  σ
def J192_8 (k2 : Int32 → Sg → Option (Int32 × Sg))  (x1 : Int32) (x2 : Int32) (x3 : Int32) (σ : Sg) : Option (Int32 × Sg) :=
  if x3 = 0 then (k2 (x1 + (1 : Int32)) σ) else ((J189  (hy_up σ 138 15 x1)).bind fun σ1 => some ((1 : Int32), σ1))
def J192_7 (k2 : Int32 → Sg → Option (Int32 × Sg)) (k5 : Int32 → Int32 → Int32 → Int32 → Sg → Option (Int32 × Sg)) (x100 : Int32) (x1 : Int32) (x2 : Int32) (x4 : Int32) (σ : Sg) : Option (Int32 × Sg) :=
  k5 x1 x2 x100 (x4 + (1 : Int32)) σ
def J192_5 (k2 : Int32 → Sg → Option (Int32 × Sg)) : Nat → Int32 → Int32 → Int32 → Int32 → Sg → Option (Int32 × Sg)
  | 0, _, _, _, _, _ => none
  | n + 1, x1, x2, x3, x4, σ => if x2 ≤ x4 then (J192_8 (k2) x1 x2 x3 σ) else (if x3 = 0 then (J192_8 (k2) x1 x2 x3 σ) else (if hy_ib ((σ 138 11) + x4) 96 then if hy_ib x1 4 then if hy_ib ((σ 147 (hy_ix x1)) + x4) 10 then if (σ 145 (hy_ix ((σ 138 11) + x4))) = (σ 146 (hy_ix ((σ 147 (hy_ix x1)) + x4))) then (J192_7 (k2) (J192_5 k2 n) (1 : Int32) x1 x2 x4 σ) else (J192_7 (k2) (J192_5 k2 n) (0 : Int32) x1 x2 x4 σ) else none else none else none))
def J192_4 (k2 : Int32 → Sg → Option (Int32 × Sg)) (x100 : Int32) (x1 : Int32) (x2 : Int32) (σ : Sg) : Option (Int32 × Sg) :=
  J192_5 (k2) hy_fu x1 x2 x100 (0 : Int32) σ
def J192_2  : Nat → Int32 → Sg → Option (Int32 × Sg)
  | 0, _, _ => none
  | n + 1, x1, σ => if (3 : Int32) ≤ x1 then (some ((0 : Int32), σ)) else (if hy_ib (x1 + (1 : Int32)) 4 then if hy_ib x1 4 then if ((σ 147 (hy_ix (x1 + (1 : Int32)))) - (σ 147 (hy_ix x1))) = ((σ 138 10) - (σ 138 11)) then (J192_4 (J192_2  n) (1 : Int32) x1 ((σ 147 (hy_ix (x1 + (1 : Int32)))) - (σ 147 (hy_ix x1))) σ) else (J192_4 (J192_2  n) (0 : Int32) x1 ((σ 147 (hy_ix (x1 + (1 : Int32)))) - (σ 147 (hy_ix x1))) σ) else none else none)
/-- HayBoardModel.takesKey()Z -/
def J192  (σ : Sg) : Option (Int32 × Sg) :=
  if (σ 138 12) = (1 : Int32) then (J192_2  hy_fu (0 : Int32) σ) else (some ((0 : Int32), σ))
/-- HayBoardModel.nameOf(I)I -/
def J195 (a0 : Int32) (σ : Sg) : Option (Int32 × Sg) :=
  hy_sw (σ 138 15) [((0 : Int32), if a0 = (104 : Int32) then (some ((0 : Int32), σ)) else (if a0 = (112 : Int32) then (some ((1 : Int32), σ)) else (if a0 = (119 : Int32) then (some ((2 : Int32), σ)) else (some ((-1 : Int32), σ))))), ((1 : Int32), if a0 = (100 : Int32) then (some ((0 : Int32), σ)) else (if a0 = (116 : Int32) then (some ((1 : Int32), σ)) else (some ((-1 : Int32), σ))))] (if a0 = (119 : Int32) then (some ((0 : Int32), σ)) else (if a0 = (104 : Int32) then (some ((1 : Int32), σ)) else (some ((-1 : Int32), σ))))
/-- HayBoardModel.rank(I)I -/
def J197 (a0 : Int32) (σ : Sg) : Option (Int32 × Sg) :=
  if a0 = (-1 : Int32) then (some ((1 : Int32), σ)) else (if a0 = (-2 : Int32) then (some ((2 : Int32), σ)) else (if a0 < (-5 : Int32) then (if a0 < (-7 : Int32) then (if a0 < (-9 : Int32) then (some ((6 : Int32), σ)) else (some ((5 : Int32), σ))) else (some ((4 : Int32), σ))) else (some ((3 : Int32), σ))))
def J196_0  : Nat → Int32 → Sg → Option (Sg)
  | 0, _, _ => none
  | n + 1, x1, σ => if (σ 138 22) ≤ 0 then (some σ) else (if hy_ib ((σ 138 22) - (1 : Int32)) 96 then if (σ 149 (hy_ix ((σ 138 22) - (1 : Int32)))) = (-11 : Int32) then (some σ) else (if hy_ib ((σ 138 22) - (1 : Int32)) 96 then (J197 (σ 149 (hy_ix ((σ 138 22) - (1 : Int32)))) σ).bind fun p1 => if p1.1 < x1 then (some p1.2) else (if hy_ib ((hy_up p1.2 138 22 ((p1.2 138 22) - (1 : Int32))) 138 22) 96 then if hy_ib ((hy_up p1.2 138 22 ((p1.2 138 22) - (1 : Int32))) 138 19) 96 then J196_0  n x1 (hy_up (hy_up (hy_up p1.2 138 22 ((p1.2 138 22) - (1 : Int32))) 148 (hy_ix ((hy_up p1.2 138 22 ((p1.2 138 22) - (1 : Int32))) 138 19)) ((hy_up p1.2 138 22 ((p1.2 138 22) - (1 : Int32))) 149 (hy_ix ((hy_up p1.2 138 22 ((p1.2 138 22) - (1 : Int32))) 138 22)))) 138 19 (((hy_up (hy_up p1.2 138 22 ((p1.2 138 22) - (1 : Int32))) 148 (hy_ix ((hy_up p1.2 138 22 ((p1.2 138 22) - (1 : Int32))) 138 19)) ((hy_up p1.2 138 22 ((p1.2 138 22) - (1 : Int32))) 149 (hy_ix ((hy_up p1.2 138 22 ((p1.2 138 22) - (1 : Int32))) 138 22)))) 138 19) + (1 : Int32))) else none else none) else none) else none)
/-- HayBoardModel.settle(I)V -/
def J196 (a0 : Int32) (σ : Sg) : Option (Sg) :=
  J196_0  hy_fu a0 σ
def J194_5  (x100 : Int32) (x101 : Int32)  (σ : Sg) : Option (Int32 × Sg) :=
  if hy_ib x101 96 then (J196 (6 : Int32) (hy_up (hy_up (hy_up σ 148 (hy_ix x101) x100) 138 19 (((hy_up σ 148 (hy_ix x101) x100) 138 19) + (1 : Int32))) 138 20 (((hy_up (hy_up σ 148 (hy_ix x101) x100) 138 19 (((hy_up σ 148 (hy_ix x101) x100) 138 19) + (1 : Int32))) 138 20) + (1 : Int32)))).bind fun σ1 => (J189  σ1).bind fun σ2 => some ((1 : Int32), σ2) else none
def J194_3    (σ : Sg) : Option (Int32 × Sg) :=
  if (σ 138 12) = (2 : Int32) then (J194_5  (σ 138 13) (σ 138 19) σ) else ((J195 (σ 138 13) σ).bind fun p3 => J194_5  ((10000 : Int32) + p3.1) (σ 138 19) p3.2)
def J194_2  (x100 : Int32)  (σ : Sg) : Option (Int32 × Sg) :=
  if (σ 138 12) = (2 : Int32) then (J194_3   σ) else (if x100 = 0 then (some ((0 : Int32), σ)) else (J194_3   σ))
def J194_1    (σ : Sg) : Option (Int32 × Sg) :=
  J194_2  (0 : Int32) σ
/-- HayBoardModel.takesPart()Z -/
def J194  (σ : Sg) : Option (Int32 × Sg) :=
  if (σ 138 12) = (1 : Int32) then (if ((σ 138 10) - (σ 138 11)) = (1 : Int32) then ((J195 (σ 138 13) σ).bind fun p4 => if p4.1 < 0 then (J194_1   p4.2) else (J194_2  (1 : Int32) p4.2)) else (J194_1   σ)) else (J194_1   σ)
def J198_3 (k1 : Int32 → Int32 → Sg → Option (Int32 × Sg)) (x100 : Int32) (x101 : Int32) (x2 : Int32) (σ : Sg) : Option (Int32 × Sg) :=
  k1 (x101 + x100) (x2 + (1 : Int32)) σ
def J198_1  : Nat → Int32 → Int32 → Sg → Option (Int32 × Sg)
  | 0, _, _, _ => none
  | n + 1, x1, x2, σ => if (σ 138 22) ≤ x2 then (some (x1, σ)) else (if hy_ib x2 96 then if (σ 149 (hy_ix x2)) = (-10 : Int32) then (J198_3 (J198_1  n) (1 : Int32) x1 x2 σ) else (J198_3 (J198_1  n) (0 : Int32) x1 x2 σ) else none)
/-- HayBoardModel.notsOpen()I -/
def J198  (σ : Sg) : Option (Int32 × Sg) :=
  J198_1  hy_fu (0 : Int32) (0 : Int32) σ
/-- HayBoardModel.signHere()I -/
def J199  (σ : Sg) : Option (Int32 × Sg) :=
  if (σ 138 12) = (3 : Int32) then (hy_sw (σ 138 13) [((38 : Int32), some ((-2 : Int32), σ)), ((42 : Int32), some ((-8 : Int32), σ)), ((43 : Int32), some ((-6 : Int32), σ)), ((45 : Int32), some ((-7 : Int32), σ)), ((47 : Int32), some ((-9 : Int32), σ)), ((60 : Int32), some ((-3 : Int32), σ)), ((61 : Int32), some ((-4 : Int32), σ)), ((62 : Int32), some ((-5 : Int32), σ)), ((124 : Int32), some ((-1 : Int32), σ))] (some ((0 : Int32), σ))) else (some ((0 : Int32), σ))
def J193_13 (k1 : Int32 → Int32 → Int32 → Sg → Option (Int32 × Sg)) (x100 : Int32) (x101 : Int32) (x1 : Int32) (x2 : Int32) (x4 : Int32) (σ : Sg) : Option (Int32 × Sg) :=
  if x100 = 0 ∨ x100 = 1 then (if hy_ib x101 10 then (J197 x4 (hy_up σ 150 (hy_ix x101) x100)).bind fun p1 => (J196 p1.1 p1.2).bind fun σ2 => if hy_ib (σ2 138 22) 96 then (J189  (hy_up (hy_up σ2 149 (hy_ix (σ2 138 22)) x4) 138 22 (((hy_up σ2 149 (hy_ix (σ2 138 22)) x4) 138 22) + (1 : Int32)))).bind fun σ3 => k1 x1 x2 (1 : Int32) σ3 else none else none) else none
def J193_11 (k1 : Int32 → Int32 → Int32 → Sg → Option (Int32 × Sg)) (x100 : Int32) (x1 : Int32) (x2 : Int32) (x4 : Int32) (σ : Sg) : Option (Int32 × Sg) :=
  J193_13 (k1) (1 : Int32) x100 x1 x2 x4 σ
def J193_12 (k1 : Int32 → Int32 → Int32 → Sg → Option (Int32 × Sg)) (x100 : Int32) (x1 : Int32) (x2 : Int32) (x4 : Int32) (σ : Sg) : Option (Int32 × Sg) :=
  J193_13 (k1) (0 : Int32) x100 x1 x2 x4 σ
def J193_10 (k1 : Int32 → Int32 → Int32 → Sg → Option (Int32 × Sg))  (x1 : Int32) (x2 : Int32) (x4 : Int32) (σ : Sg) : Option (Int32 × Sg) :=
  (J197 x4 σ).bind fun p6 => if p6.1 = (3 : Int32) then (J193_11 (k1) x1 x1 x2 x4 p6.2) else ((J197 x4 p6.2).bind fun p7 => if p7.1 ≤ (3 : Int32) then (J193_12 (k1) x1 x1 x2 x4 p7.2) else (if hy_ib x1 10 then if (p7.2 150 (hy_ix x1)) = 0 then (J193_12 (k1) x1 x1 x2 x4 p7.2) else (J193_11 (k1) x1 x1 x2 x4 p7.2) else none))
def J193_8 (k1 : Int32 → Int32 → Int32 → Sg → Option (Int32 × Sg))  (x1 : Int32) (x2 : Int32) (σ : Sg) : Option (Int32 × Sg) :=
  (J199  σ).bind fun p9 => if p9.1 = 0 then (some ((0 : Int32), p9.2)) else ((J197 p9.1 p9.2).bind fun p10 => if p10.1 = (3 : Int32) then (if hy_ib x1 10 then if (p10.2 150 (hy_ix x1)) = 0 then (J193_10 (k1) x1 x2 p9.1 p10.2) else (some ((0 : Int32), p10.2)) else none) else (J193_10 (k1) x1 x2 p9.1 p10.2))
def J193_6 (k1 : Int32 → Int32 → Int32 → Sg → Option (Int32 × Sg))  (x1 : Int32) (x3 : Int32) (σ : Sg) : Option (Int32 × Sg) :=
  (J198  σ).bind fun p12 => k1 x1 p12.1 x3 p12.2
def J193_4 (k1 : Int32 → Int32 → Int32 → Sg → Option (Int32 × Sg))  (x1 : Int32) (x3 : Int32) (σ : Sg) : Option (Int32 × Sg) :=
  (J194  σ).bind fun p13 => if p13.1 = 0 then (some ((0 : Int32), p13.2)) else (J193_6 (k1) x1 (0 : Int32) p13.2)
def J193_3 (k1 : Int32 → Int32 → Int32 → Sg → Option (Int32 × Sg))  (x1 : Int32) (x3 : Int32) (σ : Sg) : Option (Int32 × Sg) :=
  if (σ 138 12) = (3 : Int32) then (if (σ 138 13) = (40 : Int32) then (if (8 : Int32) ≤ x1 then (J193_4 (k1) x1 x3 σ) else (if hy_ib (σ 138 22) 96 then if hy_ib (x1 + (1 : Int32)) 10 then (J189  (hy_up (hy_up (hy_up σ 149 (hy_ix (σ 138 22)) (-11 : Int32)) 138 22 (((hy_up σ 149 (hy_ix (σ 138 22)) (-11 : Int32)) 138 22) + (1 : Int32))) 150 (hy_ix (x1 + (1 : Int32))) (0 : Int32))).bind fun σ14 => J193_6 (k1) (x1 + (1 : Int32)) x3 σ14 else none else none)) else (J193_4 (k1) x1 x3 σ)) else (J193_4 (k1) x1 x3 σ)
def J193_2 (k1 : Int32 → Int32 → Int32 → Sg → Option (Int32 × Sg))  (x1 : Int32) (x2 : Int32) (x3 : Int32) (σ : Sg) : Option (Int32 × Sg) :=
  if x3 = 0 then (if (σ 138 12) = (3 : Int32) then (if (σ 138 13) = (41 : Int32) then (if x1 ≤ 0 then (J193_8 (k1) x1 x2 σ) else ((J196 (0 : Int32) σ).bind fun σ15 => (J196 (6 : Int32) (hy_up σ15 138 22 ((σ15 138 22) - (1 : Int32)))).bind fun σ16 => (J198  σ16).bind fun p17 => (J189  p17.2).bind fun σ18 => k1 (x1 + (-1 : Int32)) p17.1 x3 σ18)) else (J193_8 (k1) x1 x2 σ)) else (J193_8 (k1) x1 x2 σ)) else (if (σ 138 12) = (3 : Int32) then (if (σ 138 13) = (33 : Int32) then (if (8 : Int32) ≤ x2 then (J193_3 (k1) x1 x3 σ) else (if hy_ib (σ 138 22) 96 then (J189  (hy_up (hy_up σ 149 (hy_ix (σ 138 22)) (-10 : Int32)) 138 22 (((hy_up σ 149 (hy_ix (σ 138 22)) (-10 : Int32)) 138 22) + (1 : Int32)))).bind fun σ20 => J193_6 (k1) x1 x3 σ20 else none)) else (J193_3 (k1) x1 x3 σ)) else (J193_3 (k1) x1 x3 σ))
def J193_1  : Nat → Int32 → Int32 → Int32 → Sg → Option (Int32 × Sg)
  | 0, _, _, _, _ => none
  | n + 1, x1, x2, x3, σ => if x3 = 0 then (if (σ 138 12) = 0 then ((J196 (0 : Int32) σ).bind fun σ21 => if x1 = 0 then (some ((1 : Int32), σ21)) else (some ((0 : Int32), σ21))) else (J193_2 (J193_1  n) x1 x2 x3 σ)) else (J193_2 (J193_1  n) x1 x2 x3 σ)
/-- HayBoardModel.takesE()Z -/
def J193  (σ : Sg) : Option (Int32 × Sg) :=
  J193_1  hy_fu (0 : Int32) (0 : Int32) (1 : Int32) (hy_up (hy_up (hy_up (hy_up σ 138 19 (0 : Int32)) 138 20 (0 : Int32)) 138 22 (0 : Int32)) 150 0 (0 : Int32))
def J188_5  : Nat → Int32 → Int32 → Sg → Option (Int32 × Sg)
  | 0, _, _, _ => none
  | n + 1, x2, x3, σ => if (σ 138 19) ≤ x3 then (some (x2, (hy_up σ 139 6 ((σ 139 6) + (1 : Int32))))) else (if hy_ib x3 96 then if hy_ib (((107 : Int32) + ((96 : Int32) * x2)) + x3) 1451 then J188_5  n x2 (x3 + (1 : Int32)) (hy_up σ 139 (hy_ix (((107 : Int32) + ((96 : Int32) * x2)) + x3)) (σ 148 (hy_ix x3))) else none else none)
def J188_2  (x100 : Int32)  (σ : Sg) : Option (Int32 × Sg) :=
  if x100 = 0 then (some (((-100 : Int32) - ((hy_up σ 138 9 (0 : Int32)) 138 11)), (hy_up σ 138 9 (0 : Int32)))) else (if ((hy_up σ 138 9 (0 : Int32)) 139 6) = (14 : Int32) then (some ((-1000000003 : Int32), (hy_up σ 138 9 (0 : Int32)))) else (if hy_ib ((79 : Int32) + ((2 : Int32) * ((hy_up σ 138 9 (0 : Int32)) 139 6))) 1451 then if hy_ib (((79 : Int32) + ((2 : Int32) * ((hy_up σ 138 9 (0 : Int32)) 139 6))) + (1 : Int32)) 1451 then J188_5  hy_fu ((hy_up σ 138 9 (0 : Int32)) 139 6) (0 : Int32) (hy_up (hy_up (hy_up σ 138 9 (0 : Int32)) 139 (hy_ix ((79 : Int32) + ((2 : Int32) * ((hy_up σ 138 9 (0 : Int32)) 139 6)))) (((1000 : Int32) * ((hy_up σ 138 9 (0 : Int32)) 138 15)) + ((hy_up σ 138 9 (0 : Int32)) 138 19))) 139 (hy_ix (((79 : Int32) + ((2 : Int32) * ((hy_up σ 138 9 (0 : Int32)) 139 6))) + (1 : Int32))) ((hy_up (hy_up σ 138 9 (0 : Int32)) 139 (hy_ix ((79 : Int32) + ((2 : Int32) * ((hy_up σ 138 9 (0 : Int32)) 139 6)))) (((1000 : Int32) * ((hy_up σ 138 9 (0 : Int32)) 138 15)) + ((hy_up σ 138 9 (0 : Int32)) 138 19))) 138 20)) else none else none))
def J188_1    (σ : Sg) : Option (Int32 × Sg) :=
  J188_2  (0 : Int32) σ
/-- HayBoardModel.text()I -/
def J188  (σ : Sg) : Option (Int32 × Sg) :=
  (J189  (hy_up (hy_up σ 138 10 (0 : Int32)) 138 14 (-1 : Int32))).bind fun σ1 => (J192  σ1).bind fun p2 => if p2.1 = 0 then (J188_1   p2.2) else ((J193  p2.2).bind fun p3 => if p3.1 = 0 then (J188_1   p3.2) else (J188_2  (1 : Int32) p3.2))
/-- HayBoardModel.textTold(II)I -/
def J200 (a0 : Int32) (a1 : Int32) (σ : Sg) : Option (Int32 × Sg) :=
  (J125 a0 (0 : Int32) ((σ 139 6) - (1 : Int32)) σ).bind fun p1 => if p1.1 = 0 then (some ((-1000000001 : Int32), p1.2)) else ((J125 a1 (0 : Int32) (1 : Int32) p1.2).bind fun p2 => if p2.1 = 0 then (some ((-1000000001 : Int32), p2.2)) else (if a1 = 0 then (if hy_ib ((79 : Int32) + ((2 : Int32) * a0)) 1451 then some (((p2.2 139 (hy_ix ((79 : Int32) + ((2 : Int32) * a0)))) / (1000 : Int32)), p2.2) else none) else (if hy_ib (((79 : Int32) + ((2 : Int32) * a0)) + (1 : Int32)) 1451 then some ((p2.2 139 (hy_ix (((79 : Int32) + ((2 : Int32) * a0)) + (1 : Int32)))), p2.2) else none)))
/-- HayBoardModel.why(I)I -/
def J201 (a0 : Int32) (σ : Sg) : Option (Int32 × Sg) :=
  (J125 a0 (0 : Int32) (2 : Int32) σ).bind fun p1 => if p1.1 = 0 then (some ((-1000000001 : Int32), p1.2)) else ((J134 a0 p1.2).bind fun p2 => if 0 ≤ p2.1 then (some (p2.1, p2.2)) else (some ((-1000000005 : Int32), p2.2)))
def J202_6  : Nat → Int32 → Int32 → Sg → Option (Int32 × Sg)
  | 0, _, _, _ => none
  | n + 1, x1, x4, σ => if (24 : Int32) ≤ x4 then (if hy_ib x1 4 then some ((σ 154 (hy_ix x1)), σ) else none) else (if hy_ib (((24 : Int32) * x1) + x4) 96 then J202_6  n x1 (x4 + (1 : Int32)) (hy_up σ 155 (hy_ix (((24 : Int32) * x1) + x4)) (0 : Int32)) else none)
def J202_5  (x100 : Int32) (x101 : Int32) (x1 : Int32) (σ : Sg) : Option (Int32 × Sg) :=
  if hy_ib x101 4 then J202_6  hy_fu x1 (0 : Int32) (hy_up σ 154 (hy_ix x101) x100) else none
def J202_3   (x1 : Int32) (x2 : Int32) (x3 : Int32) (σ : Sg) : Option (Int32 × Sg) :=
  if hy_ib x1 4 then if 0 ≤ x2 then (J202_5  x3 x1 x1 (hy_up σ 153 (hy_ix x1) x2)) else (J202_5  (0 : Int32) x1 x1 (hy_up σ 153 (hy_ix x1) x2)) else none
def J202_2   (x1 : Int32) (x2 : Int32) (x3 : Int32) (σ : Sg) : Option (Int32 × Sg) :=
  if x2 < 0 then (J202_3  x1 x2 x3 σ) else (if 0 ≤ x3 then (J202_3  x1 x2 x3 σ) else (some ((-1000000014 : Int32), σ)))
/-- HayBoardModel.sheet(III)I -/
def J202 (a0 : Int32) (a1 : Int32) (a2 : Int32) (σ : Sg) : Option (Int32 × Sg) :=
  (J182 a0 σ).bind fun p1 => if p1.1 = 0 then (some ((-1000000001 : Int32), p1.2)) else ((J125 a1 (-1 : Int32) (1 : Int32) p1.2).bind fun p2 => if p2.1 = 0 then (some ((-1000000001 : Int32), p2.2)) else (if a1 < 0 then (J202_2  a0 a1 a2 p2.2) else (if a2 ≤ (24 : Int32) then (J202_2  a0 a1 a2 p2.2) else (some ((-1000000001 : Int32), p2.2)))))
def J203_7  (x100 : Int32) (x101 : Int32)  (σ : Sg) : Option (Int32 × Sg) :=
  if hy_ib x101 96 then some ((1 : Int32), (hy_up σ 155 (hy_ix x101) x100)) else none
def J203_5   (x1 : Int32) (x2 : Int32) (x3 : Int32) (σ : Sg) : Option (Int32 × Sg) :=
  if hy_ib x1 4 then if (σ 153 (hy_ix x1)) = 0 then (J203_7  ((x3).toInt16.toInt32) (((24 : Int32) * x1) + x2) σ) else (J203_7  x3 (((24 : Int32) * x1) + x2) σ) else none
def J203_4   (x1 : Int32) (x2 : Int32) (x3 : Int32) (σ : Sg) : Option (Int32 × Sg) :=
  if hy_ib x1 4 then if (σ 153 (hy_ix x1)) = (1 : Int32) then (if x3 = (-1000000005 : Int32) then (J203_5  x1 x2 x3 σ) else ((J125 x3 (-99999 : Int32) (99999 : Int32) σ).bind fun p1 => if p1.1 = 0 then (some ((-1000000001 : Int32), p1.2)) else (J203_5  x1 x2 x3 p1.2))) else (J203_5  x1 x2 x3 σ) else none
/-- HayBoardModel.mark(III)I -/
def J203 (a0 : Int32) (a1 : Int32) (a2 : Int32) (σ : Sg) : Option (Int32 × Sg) :=
  (J182 a0 σ).bind fun p2 => if p2.1 = 0 then (some ((-1000000001 : Int32), p2.2)) else (if hy_ib a0 4 then if 0 ≤ (p2.2 153 (hy_ix a0)) then (if hy_ib a0 4 then (J125 a1 (0 : Int32) ((p2.2 154 (hy_ix a0)) - (1 : Int32)) p2.2).bind fun p3 => if p3.1 = 0 then (some ((-1000000013 : Int32), p3.2)) else (if hy_ib a0 4 then if (p3.2 153 (hy_ix a0)) = 0 then (if a2 = (-1000000005 : Int32) then (some ((-1000000012 : Int32), p3.2)) else (J203_4  a0 a1 a2 p3.2)) else (J203_4  a0 a1 a2 p3.2) else none) else none) else (some ((-1000000011 : Int32), p2.2)) else none)
def J204_7 (k3 : Int32 → Int32 → Int32 → Sg → Option (Int32 × Sg)) (x100 : Int32) (x101 : Int32) (x1 : Int32) (x3 : Int32) (x4 : Int32) (σ : Sg) : Option (Int32 × Sg) :=
  k3 x1 (x101 + x100) (x3 + (1 : Int32)) σ
def J204_5 (k3 : Int32 → Int32 → Int32 → Sg → Option (Int32 × Sg)) (x100 : Int32) (x1 : Int32) (x2 : Int32) (x3 : Int32) (x4 : Int32) (σ : Sg) : Option (Int32 × Sg) :=
  (J149 (((7 : Int32) + ((6 : Int32) * x3)) + (3 : Int32)) x100 σ).bind fun p1 => if p1.1 = x100 then (J204_7 (k3) (0 : Int32) x2 x1 x3 x4 p1.2) else (J204_7 (k3) (1 : Int32) x2 x1 x3 x4 p1.2)
def J204_3  : Nat → Int32 → Int32 → Int32 → Sg → Option (Int32 × Sg)
  | 0, _, _, _, _ => none
  | n + 1, x1, x2, x3, σ => if hy_ib x1 4 then if (σ 154 (hy_ix x1)) ≤ x3 then (some (x2, σ)) else (if (σ 139 1) ≤ x3 then (some (x2, σ)) else (if hy_ib (((24 : Int32) * x1) + x3) 96 then if (σ 155 (hy_ix (((24 : Int32) * x1) + x3))) = (-1000000005 : Int32) then ((J128 x3 (3 : Int32) σ).bind fun p3 => J204_5 (J204_3  n) p3.1 x1 x2 x3 (σ 155 (hy_ix (((24 : Int32) * x1) + x3))) p3.2) else ((J137 (σ 155 (hy_ix (((24 : Int32) * x1) + x3))) (1 : Int32) (99 : Int32) σ).bind fun p2 => J204_5 (J204_3  n) p2.1 x1 x2 x3 (σ 155 (hy_ix (((24 : Int32) * x1) + x3))) p2.2) else none)) else none
/-- HayBoardModel.pour(I)I -/
def J204 (a0 : Int32) (σ : Sg) : Option (Int32 × Sg) :=
  (J182 a0 σ).bind fun p4 => if p4.1 = 0 then (some ((-1000000001 : Int32), p4.2)) else (if hy_ib a0 4 then if 0 ≤ (p4.2 153 (hy_ix a0)) then (J204_3  hy_fu a0 (0 : Int32) (0 : Int32) p4.2) else (some ((-1000000011 : Int32), p4.2)) else none)
def J205_5 (k3 : Int32 → Int32 → Sg → Option (Int32 × Sg))  (x1 : Int32) (x2 : Int32) (σ : Sg) : Option (Int32 × Sg) :=
  k3 x1 (x2 + (1 : Int32)) σ
def J205_3  : Nat → Int32 → Int32 → Sg → Option (Int32 × Sg)
  | 0, _, _, _ => none
  | n + 1, x1, x2, σ => if hy_ib x1 4 then if (σ 154 (hy_ix x1)) ≤ x2 then (some ((-1000000005 : Int32), σ)) else (if hy_ib (((24 : Int32) * x1) + x2) 96 then if (σ 155 (hy_ix (((24 : Int32) * x1) + x2))) = (-1000000005 : Int32) then (J205_5 (J205_3  n) x1 x2 σ) else ((J132 x2 σ).bind fun p1 => if p1.1 = 0 then (some (x2, p1.2)) else ((J128 x2 (2 : Int32) p1.2).bind fun p2 => if (σ 155 (hy_ix (((24 : Int32) * x1) + x2))) = p2.1 then (J205_5 (J205_3  n) x1 x2 p2.2) else (some (x2, p2.2)))) else none) else none
/-- HayBoardModel.reads(I)I -/
def J205 (a0 : Int32) (σ : Sg) : Option (Int32 × Sg) :=
  (J182 a0 σ).bind fun p4 => if p4.1 = 0 then (some ((-1000000001 : Int32), p4.2)) else (if hy_ib a0 4 then if 0 ≤ (p4.2 153 (hy_ix a0)) then (J205_3  hy_fu a0 (0 : Int32) p4.2) else (some ((-1000000011 : Int32), p4.2)) else none)
def J206_10  : Nat → Int32 → Int32 → Int32 → Int32 → Sg → Option (Int32 × Sg)
  | 0, _, _, _, _, _ => none
  | n + 1, x3, x4, x5, x6, σ => if x5 ≤ x6 then (some (x5, σ)) else (if hy_ib x6 24 then if hy_ib ((((24 : Int32) * x3) + x4) + x6) 96 then J206_10  n x3 x4 x5 (x6 + (1 : Int32)) (hy_up σ 155 (hy_ix ((((24 : Int32) * x3) + x4) + x6)) (σ 160 (hy_ix x6))) else none else none)
def J206_8  : Nat → Int32 → Int32 → Int32 → Int32 → Int32 → Int32 → Sg → Option (Int32 × Sg)
  | 0, _, _, _, _, _, _, _ => none
  | n + 1, x1, x2, x3, x4, x5, x6, σ => if x5 ≤ x6 then (J206_10  hy_fu x3 x4 x5 (0 : Int32) σ) else (if hy_ib ((((24 : Int32) * x1) + x2) + x6) 96 then if hy_ib x6 24 then J206_8  n x1 x2 x3 x4 x5 (x6 + (1 : Int32)) (hy_up σ 160 (hy_ix x6) (σ 155 (hy_ix ((((24 : Int32) * x1) + x2) + x6)))) else none else none)
/-- HayBoardModel.copy(IIIII)I -/
def J206 (a0 : Int32) (a1 : Int32) (a2 : Int32) (a3 : Int32) (a4 : Int32) (σ : Sg) : Option (Int32 × Sg) :=
  (J182 a0 σ).bind fun p1 => if p1.1 = 0 then (some ((-1000000001 : Int32), p1.2)) else ((J182 a2 p1.2).bind fun p2 => if p2.1 = 0 then (some ((-1000000001 : Int32), p2.2)) else (if hy_ib a0 4 then if (p2.2 153 (hy_ix a0)) < 0 then (some ((-1000000011 : Int32), p2.2)) else (if hy_ib a2 4 then if 0 ≤ (p2.2 153 (hy_ix a2)) then (if hy_ib a0 4 then if hy_ib a2 4 then if (p2.2 153 (hy_ix a0)) = (p2.2 153 (hy_ix a2)) then (if a1 < 0 then (some ((-1000000013 : Int32), p2.2)) else (if a3 < 0 then (some ((-1000000013 : Int32), p2.2)) else (if a4 < 0 then (some ((-1000000013 : Int32), p2.2)) else (if hy_ib a0 4 then if ((p2.2 154 (hy_ix a0)) - a4) < a1 then (some ((-1000000013 : Int32), p2.2)) else (if hy_ib a2 4 then if a3 ≤ ((p2.2 154 (hy_ix a2)) - a4) then (J206_8  hy_fu a0 a1 a2 a3 a4 (0 : Int32) p2.2) else (some ((-1000000013 : Int32), p2.2)) else none) else none)))) else (some ((-1000000012 : Int32), p2.2)) else none else none) else (some ((-1000000011 : Int32), p2.2)) else none) else none))
/-- HayBoardModel.isSlot(I)Z -/
def J208 (a0 : Int32) (σ : Sg) : Option (Int32 × Sg) :=
  (J125 a0 (0 : Int32) (4 : Int32) σ).bind fun p1 => if p1.1 = 0 ∨ p1.1 = 1 then some (p1.1, p1.2) else none
def J207_10  : Nat → Int32 → Int32 → Int32 → Int32 → Int32 → Sg → Option (Int32 × Sg)
  | 0, _, _, _, _, _, _ => none
  | n + 1, x1, x2, x3, x4, x5, σ => if (24 : Int32) ≤ x5 then (some (x4, σ)) else (if x2 = (2 : Int32) then (if hy_ib (((24 : Int32) * x3) + x5) 96 then if hy_ib (((24 : Int32) * x1) + x5) 120 then J207_10  n x1 x2 x3 x4 (x5 + (1 : Int32)) (hy_up σ 159 (hy_ix (((24 : Int32) * x1) + x5)) (σ 155 (hy_ix (((24 : Int32) * x3) + x5)))) else none else none) else (some (x4, σ)))
def J207_9  (x100 : Int32) (x101 : Int32) (x1 : Int32) (x2 : Int32) (x3 : Int32) (x4 : Int32) (σ : Sg) : Option (Int32 × Sg) :=
  if hy_ib x101 5 then J207_10  hy_fu x1 x2 x3 x4 (0 : Int32) (hy_up σ 158 (hy_ix x101) x100) else none
def J207_7  (x100 : Int32) (x101 : Int32) (x1 : Int32) (x2 : Int32) (x3 : Int32) (x4 : Int32) (σ : Sg) : Option (Int32 × Sg) :=
  if hy_ib x101 5 then if x2 = (1 : Int32) then ((J139 x3 (hy_up σ 157 (hy_ix x101) x100)).bind fun p1 => J207_9  p1.1 x1 x1 x2 x3 x4 p1.2) else (J207_9  (0 : Int32) x1 x1 x2 x3 x4 (hy_up σ 157 (hy_ix x101) x100)) else none
def J207_4   (x1 : Int32) (x2 : Int32) (x3 : Int32) (σ : Sg) : Option (Int32 × Sg) :=
  if hy_ib x1 5 then if hy_ib x1 5 then if x2 = (1 : Int32) then ((J128 x3 (0 : Int32) (hy_up σ 156 (hy_ix x1) x2)).bind fun p2 => J207_7  p2.1 x1 x1 x2 x3 (σ 156 (hy_ix x1)) p2.2) else (if x2 = (2 : Int32) then (if hy_ib x3 4 then J207_7  ((hy_up σ 156 (hy_ix x1) x2) 154 (hy_ix x3)) x1 x1 x2 x3 (σ 156 (hy_ix x1)) (hy_up σ 156 (hy_ix x1) x2) else none) else (J207_7  x3 x1 x1 x2 x3 (σ 156 (hy_ix x1)) (hy_up σ 156 (hy_ix x1) x2))) else none else none
def J207_3   (x1 : Int32) (x2 : Int32) (x3 : Int32) (σ : Sg) : Option (Int32 × Sg) :=
  if x2 = (2 : Int32) then (if hy_ib x3 4 then if 0 ≤ (σ 153 (hy_ix x3)) then (J207_4  x1 x2 x3 σ) else (some ((-1000000011 : Int32), σ)) else none) else (J207_4  x1 x2 x3 σ)
def J207_1   (x1 : Int32) (x2 : Int32) (x3 : Int32) (σ : Sg) : Option (Int32 × Sg) :=
  if x2 = (2 : Int32) then ((J182 x3 σ).bind fun p3 => if p3.1 = 0 then (some ((-1000000001 : Int32), p3.2)) else (J207_3  x1 x2 x3 p3.2)) else (J207_3  x1 x2 x3 σ)
/-- HayBoardModel.lay(III)I -/
def J207 (a0 : Int32) (a1 : Int32) (a2 : Int32) (σ : Sg) : Option (Int32 × Sg) :=
  (J208 a0 σ).bind fun p4 => if p4.1 = 0 then (some ((-1000000001 : Int32), p4.2)) else ((J125 a1 (0 : Int32) (3 : Int32) p4.2).bind fun p5 => if p5.1 = 0 then (some ((-1000000001 : Int32), p5.2)) else (if a1 = (1 : Int32) then ((J132 a2 p5.2).bind fun p6 => if p6.1 = 0 then (some ((-1000000001 : Int32), p6.2)) else (J207_1  a0 a1 a2 p6.2)) else (J207_1  a0 a1 a2 p5.2)))
/-- HayBoardModel.ask(II)I -/
def J209 (a0 : Int32) (a1 : Int32) (σ : Sg) : Option (Int32 × Sg) :=
  (J208 a0 σ).bind fun p1 => if p1.1 = 0 then (some ((-1000000001 : Int32), p1.2)) else ((J125 a1 (0 : Int32) (5 : Int32) p1.2).bind fun p2 => if p2.1 = 0 then (some ((-1000000001 : Int32), p2.2)) else (if hy_ib a0 5 then if (p2.2 156 (hy_ix a0)) = 0 then (some ((-1000000011 : Int32), p2.2)) else (if hy_ib a0 5 then if (p2.2 156 (hy_ix a0)) = (1 : Int32) then (if hy_ib a0 5 then (J147 (p2.2 157 (hy_ix a0)) a1 p2.2).bind fun p3 => if p3.1 = 0 then (some ((-1000000012 : Int32), p3.2)) else (if hy_ib a0 5 then some ((p3.2 158 (hy_ix a0)), p3.2) else none) else none) else (some ((-1000000012 : Int32), p2.2)) else none) else none))
/-- HayBoardModel.item(II)I -/
def J210 (a0 : Int32) (a1 : Int32) (σ : Sg) : Option (Int32 × Sg) :=
  (J208 a0 σ).bind fun p1 => if p1.1 = 0 then (some ((-1000000001 : Int32), p1.2)) else (if hy_ib a0 5 then if (p1.2 156 (hy_ix a0)) = 0 then (some ((-1000000011 : Int32), p1.2)) else (if hy_ib a0 5 then if (p1.2 156 (hy_ix a0)) = (2 : Int32) then (if hy_ib a0 5 then (J125 a1 (0 : Int32) ((p1.2 157 (hy_ix a0)) - (1 : Int32)) p1.2).bind fun p2 => if p2.1 = 0 then (some ((-1000000013 : Int32), p2.2)) else (if hy_ib (((24 : Int32) * a0) + a1) 120 then if (p2.2 159 (hy_ix (((24 : Int32) * a0) + a1))) = (-1000000005 : Int32) then (some ((-1000000012 : Int32), p2.2)) else (some ((p2.2 159 (hy_ix (((24 : Int32) * a0) + a1))), p2.2)) else none) else none) else (some ((-1000000012 : Int32), p1.2)) else none) else none)
/-- HayBoardModel.rest(II)I -/
def J211 (a0 : Int32) (a1 : Int32) (σ : Sg) : Option (Int32 × Sg) :=
  (J208 a0 σ).bind fun p1 => if p1.1 = 0 then (some ((-1000000001 : Int32), p1.2)) else (if hy_ib a0 5 then if (p1.2 156 (hy_ix a0)) = 0 then (some ((-1000000011 : Int32), p1.2)) else (if hy_ib a0 5 then if (p1.2 156 (hy_ix a0)) = (3 : Int32) then (if a1 = 0 then (some ((-1000000002 : Int32), p1.2)) else (if a1 = (-1 : Int32) then (some ((0 : Int32), p1.2)) else (if hy_ib a0 5 then if a1 = 0 then none else some ((hy_rem (p1.2 157 (hy_ix a0)) a1), p1.2) else none))) else (some ((-1000000012 : Int32), p1.2)) else none) else none)
/-- HayBoardModel.tell(I)I -/
def J212 (a0 : Int32) (σ : Sg) : Option (Int32 × Sg) :=
  if (σ 138 35) = (60 : Int32) then (some ((-1000000003 : Int32), σ)) else (if hy_ib (σ 138 35) 60 then some (((hy_up (hy_up σ 161 (hy_ix (σ 138 35)) a0) 138 35 (((hy_up σ 161 (hy_ix (σ 138 35)) a0) 138 35) + (1 : Int32))) 138 35), (hy_up (hy_up σ 161 (hy_ix (σ 138 35)) a0) 138 35 (((hy_up σ 161 (hy_ix (σ 138 35)) a0) 138 35) + (1 : Int32)))) else none)
def J214_1  : Nat → Nat → Nat → Int32 → Sg → Option (Sg)
  | 0, _, _, _, _ => none
  | n + 1, r0, r1, x2, σ => if (1451 : Int32) ≤ x2 then (some σ) else (if hy_ib x2 1451 then if hy_ib x2 1451 then J214_1  n r0 r1 (x2 + (1 : Int32)) (hy_up σ r1 (hy_ix x2) (σ r0 (hy_ix x2))) else none else none)
/-- HayBoardModel.copyAll([I[I)V -/
def J214 (a0 : Nat) (a1 : Nat) (σ : Sg) : Option (Sg) :=
  J214_1  hy_fu a0 a1 (0 : Int32) σ
def J213_9   (x4 : Int32) (σ : Sg) : Option (Int32 × Sg) :=
  some (((1 : Int32) + x4), σ)
def J213_8   (x2 : Int32) (x3 : Int32) (x4 : Int32) (σ : Sg) : Option (Int32 × Sg) :=
  (J214 141 139 σ).bind fun σ1 => if x4 = x2 then (if x4 = x3 then (some ((0 : Int32), σ1)) else (J213_9  x4 σ1)) else (J213_9  x4 σ1)
def J213_7 (k3 : Int32 → Int32 → Int32 → Int32 → Sg → Option (Int32 × Sg)) (x100 : Int32) (x101 : Int32) (x2 : Int32) (x3 : Int32) (x5 : Int32) (σ : Sg) : Option (Int32 × Sg) :=
  k3 x2 x3 (x101 + x100) (x5 + (1 : Int32)) σ
def J213_6 (k3 : Int32 → Int32 → Int32 → Int32 → Sg → Option (Int32 × Sg)) (x100 : Int32) (x2 : Int32) (x3 : Int32) (x5 : Int32) (σ : Sg) : Option (Int32 × Sg) :=
  J213_7 (k3) (0 : Int32) x100 x2 x3 x5 σ
def J213_5 (k3 : Int32 → Int32 → Int32 → Int32 → Sg → Option (Int32 × Sg)) (x100 : Int32) (x101 : Int32) (x2 : Int32) (x3 : Int32) (x5 : Int32) (σ : Sg) : Option (Int32 × Sg) :=
  if (x101 + x100) = (((2 : Int32) * x5) + (1 : Int32)) then (if x2 ≤ (x101 + x100) then (J213_6 (k3) (x101 + x100) x2 x3 x5 σ) else (if hy_ib (x101 + x100) 60 then (J175  σ).bind fun p2 => if (σ 161 (hy_ix (x101 + x100))) = p2.1 then (J213_7 (k3) (1 : Int32) (x101 + x100) x2 x3 x5 p2.2) else (J213_6 (k3) (x101 + x100) x2 x3 x5 p2.2) else none)) else (J213_6 (k3) (x101 + x100) x2 x3 x5 σ)
def J213_4 (k3 : Int32 → Int32 → Int32 → Int32 → Sg → Option (Int32 × Sg)) (x100 : Int32) (x2 : Int32) (x3 : Int32) (x5 : Int32) (σ : Sg) : Option (Int32 × Sg) :=
  J213_5 (k3) (0 : Int32) x100 x2 x3 x5 σ
def J213_3  : Nat → Int32 → Int32 → Int32 → Int32 → Sg → Option (Int32 × Sg)
  | 0, _, _, _, _, _ => none
  | n + 1, x2, x3, x4, x5, σ => if x3 ≤ ((2 : Int32) * x5) then (J213_8  x2 x3 x4 σ) else (if x4 = ((2 : Int32) * x5) then ((J170  σ).bind fun σ3 => if x2 ≤ x4 then (J213_4 (J213_3  n) x4 x2 x3 x5 σ3) else (if hy_ib x4 60 then (J161 (0 : Int32) σ3).bind fun p4 => if (σ3 161 (hy_ix x4)) = p4.1 then (J213_5 (J213_3  n) (1 : Int32) x4 x2 x3 x5 p4.2) else (J213_4 (J213_3  n) x4 x2 x3 x5 p4.2) else none)) else (J213_8  x2 x3 x4 σ))
/-- HayBoardModel.check(I)I -/
def J213 (a0 : Int32) (σ : Sg) : Option (Int32 × Sg) :=
  (J125 a0 (1 : Int32) (30 : Int32) (hy_up σ 138 35 (0 : Int32))).bind fun p5 => if p5.1 = 0 then (some ((-1000000001 : Int32), p5.2)) else (if (p5.2 138 3) = 0 then (some ((-1000000002 : Int32), p5.2)) else ((J214 139 141 p5.2).bind fun σ6 => (J214 140 139 σ6).bind fun σ7 => (J137 ((9999 : Int32) - (σ7 139 2)) (0 : Int32) a0 σ7).bind fun p8 => J213_3  hy_fu (σ 138 35) ((2 : Int32) * p8.1) (0 : Int32) (0 : Int32) p8.2))
/-- HayBoardModel.keep()I -/
def J215  (σ : Sg) : Option (Int32 × Sg) :=
  (J214 139 140 σ).bind fun σ1 => some (((hy_up σ1 138 3 (1 : Int32)) 139 1), (hy_up σ1 138 3 (1 : Int32)))
/-- HayBoardModel.back()I -/
def J216  (σ : Sg) : Option (Int32 × Sg) :=
  if (σ 138 3) = 0 then (some ((-1000000002 : Int32), σ)) else ((J214 140 139 σ).bind fun σ1 => some ((σ1 139 1), σ1))
def J217_3   (x1 : Int32) (σ : Sg) : Option (Int32 × Sg) :=
  if hy_ib (((3 : Int32) + x1) - (2 : Int32)) 1451 then some ((σ 139 (hy_ix (((3 : Int32) + x1) - (2 : Int32)))), σ) else none
/-- HayBoardModel.count(I)I -/
def J217 (a0 : Int32) (σ : Sg) : Option (Int32 × Sg) :=
  hy_sw a0 [((0 : Int32), some ((σ 139 1), σ)), ((1 : Int32), some ((σ 139 2), σ)), ((2 : Int32), J217_3  a0 σ), ((3 : Int32), J217_3  a0 σ), ((4 : Int32), J217_3  a0 σ), ((5 : Int32), (J168  σ).bind fun p1 => some (p1.1, p1.2)), ((6 : Int32), some ((σ 139 6), σ)), ((7 : Int32), some ((σ 138 35), σ)), ((8 : Int32), some ((σ 138 9), σ)), ((9 : Int32), some ((σ 139 0), σ))] (some ((-1000000001 : Int32), σ))
def J0_44 (k1 : Int32 → Sg → Option (Int32 × Sg))  (x3 : Int32) (σ : Sg) : Option (Int32 × Sg) :=
  k1 (x3 + (6 : Int32)) σ
def J0_1  : Nat → Int32 → Sg → Option (Int32 × Sg)
  | 0, _, _ => none
  | n + 1, x3, σ => if ((hy_dl σ 2000) - (6 : Int32)) < x3 then (some ((1 : Int32), σ)) else (if hy_ib x3 (hy_dl σ 2000).toInt then hy_sw ((σ 2000 (hy_ix x3)) &&& (63 : Int32)) [((0 : Int32), if hy_ib (x3 + (1 : Int32)) (hy_dl σ 2000).toInt then if hy_ib (x3 + (2 : Int32)) (hy_dl σ 2000).toInt then if hy_ib (x3 + (3 : Int32)) (hy_dl σ 2000).toInt then if hy_ib (x3 + (4 : Int32)) (hy_dl σ 2000).toInt then (J1 (σ 2000 (hy_ix (x3 + (1 : Int32)))) (σ 2000 (hy_ix (x3 + (2 : Int32)))) (σ 2000 (hy_ix (x3 + (3 : Int32)))) (σ 2000 (hy_ix (x3 + (4 : Int32)))) σ).bind fun p1 => if hy_ib (x3 + (1 : Int32)) (hy_dl p1.2 2000).toInt then if hy_ib (x3 + (2 : Int32)) (hy_dl p1.2 2000).toInt then if hy_ib (x3 + (3 : Int32)) (hy_dl p1.2 2000).toInt then if hy_ib (x3 + (4 : Int32)) (hy_dl p1.2 2000).toInt then (J124 (p1.2 2000 (hy_ix (x3 + (1 : Int32)))) (p1.2 2000 (hy_ix (x3 + (2 : Int32)))) (p1.2 2000 (hy_ix (x3 + (3 : Int32)))) (p1.2 2000 (hy_ix (x3 + (4 : Int32)))) p1.2).bind fun p2 => if p1.1 = p2.1 then (J0_44 (J0_1  n) x3 p2.2) else (some ((0 : Int32), p2.2)) else none else none else none else none else none else none else none else none), ((1 : Int32), if hy_ib (x3 + (1 : Int32)) (hy_dl σ 2000).toInt then if hy_ib (x3 + (2 : Int32)) (hy_dl σ 2000).toInt then (J10 (σ 2000 (hy_ix (x3 + (1 : Int32)))) (σ 2000 (hy_ix (x3 + (2 : Int32)))) σ).bind fun p4 => if hy_ib (x3 + (1 : Int32)) (hy_dl p4.2 2000).toInt then if hy_ib (x3 + (2 : Int32)) (hy_dl p4.2 2000).toInt then (J131 (p4.2 2000 (hy_ix (x3 + (1 : Int32)))) (p4.2 2000 (hy_ix (x3 + (2 : Int32)))) p4.2).bind fun p5 => if p4.1 = p5.1 then (J0_44 (J0_1  n) x3 p5.2) else (some ((0 : Int32), p5.2)) else none else none else none else none), ((2 : Int32), if hy_ib (x3 + (1 : Int32)) (hy_dl σ 2000).toInt then (J19 (σ 2000 (hy_ix (x3 + (1 : Int32)))) σ).bind fun p7 => if hy_ib (x3 + (1 : Int32)) (hy_dl p7.2 2000).toInt then (J140 (p7.2 2000 (hy_ix (x3 + (1 : Int32)))) p7.2).bind fun p8 => if p7.1 = p8.1 then (J0_44 (J0_1  n) x3 p8.2) else (some ((0 : Int32), p8.2)) else none else none), ((3 : Int32), if hy_ib (x3 + (1 : Int32)) (hy_dl σ 2000).toInt then if hy_ib (x3 + (2 : Int32)) (hy_dl σ 2000).toInt then (J20 (σ 2000 (hy_ix (x3 + (1 : Int32)))) (σ 2000 (hy_ix (x3 + (2 : Int32)))) σ).bind fun p10 => if hy_ib (x3 + (1 : Int32)) (hy_dl p10.2 2000).toInt then if hy_ib (x3 + (2 : Int32)) (hy_dl p10.2 2000).toInt then (J142 (p10.2 2000 (hy_ix (x3 + (1 : Int32)))) (p10.2 2000 (hy_ix (x3 + (2 : Int32)))) p10.2).bind fun p11 => if p10.1 = p11.1 then (J0_44 (J0_1  n) x3 p11.2) else (some ((0 : Int32), p11.2)) else none else none else none else none), ((4 : Int32), if hy_ib (x3 + (1 : Int32)) (hy_dl σ 2000).toInt then if hy_ib (x3 + (2 : Int32)) (hy_dl σ 2000).toInt then (J23 (σ 2000 (hy_ix (x3 + (1 : Int32)))) (σ 2000 (hy_ix (x3 + (2 : Int32)))) σ).bind fun p13 => if hy_ib (x3 + (1 : Int32)) (hy_dl p13.2 2000).toInt then if hy_ib (x3 + (2 : Int32)) (hy_dl p13.2 2000).toInt then (J146 (p13.2 2000 (hy_ix (x3 + (1 : Int32)))) (p13.2 2000 (hy_ix (x3 + (2 : Int32)))) p13.2).bind fun p14 => if p13.1 = p14.1 then (J0_44 (J0_1  n) x3 p14.2) else (some ((0 : Int32), p14.2)) else none else none else none else none), ((5 : Int32), if hy_ib (x3 + (1 : Int32)) (hy_dl σ 2000).toInt then if hy_ib (x3 + (2 : Int32)) (hy_dl σ 2000).toInt then (J25 (σ 2000 (hy_ix (x3 + (1 : Int32)))) (σ 2000 (hy_ix (x3 + (2 : Int32)))) σ).bind fun p16 => if hy_ib (x3 + (1 : Int32)) (hy_dl p16.2 2000).toInt then if hy_ib (x3 + (2 : Int32)) (hy_dl p16.2 2000).toInt then (J148 (p16.2 2000 (hy_ix (x3 + (1 : Int32)))) (p16.2 2000 (hy_ix (x3 + (2 : Int32)))) p16.2).bind fun p17 => if p16.1 = p17.1 then (J0_44 (J0_1  n) x3 p17.2) else (some ((0 : Int32), p17.2)) else none else none else none else none), ((6 : Int32), if hy_ib (x3 + (1 : Int32)) (hy_dl σ 2000).toInt then if hy_ib (x3 + (2 : Int32)) (hy_dl σ 2000).toInt then if hy_ib (x3 + (3 : Int32)) (hy_dl σ 2000).toInt then (J26 (σ 2000 (hy_ix (x3 + (1 : Int32)))) (σ 2000 (hy_ix (x3 + (2 : Int32)))) (σ 2000 (hy_ix (x3 + (3 : Int32)))) σ).bind fun p19 => if hy_ib (x3 + (1 : Int32)) (hy_dl p19.2 2000).toInt then if hy_ib (x3 + (2 : Int32)) (hy_dl p19.2 2000).toInt then if hy_ib (x3 + (3 : Int32)) (hy_dl p19.2 2000).toInt then (J150 (p19.2 2000 (hy_ix (x3 + (1 : Int32)))) (p19.2 2000 (hy_ix (x3 + (2 : Int32)))) (p19.2 2000 (hy_ix (x3 + (3 : Int32)))) p19.2).bind fun p20 => if p19.1 = p20.1 then (J0_44 (J0_1  n) x3 p20.2) else (some ((0 : Int32), p20.2)) else none else none else none else none else none else none), ((7 : Int32), if hy_ib (x3 + (1 : Int32)) (hy_dl σ 2000).toInt then if hy_ib (x3 + (2 : Int32)) (hy_dl σ 2000).toInt then (J30 (σ 2000 (hy_ix (x3 + (1 : Int32)))) (σ 2000 (hy_ix (x3 + (2 : Int32)))) σ).bind fun p22 => if hy_ib (x3 + (1 : Int32)) (hy_dl p22.2 2000).toInt then if hy_ib (x3 + (2 : Int32)) (hy_dl p22.2 2000).toInt then (J151 (p22.2 2000 (hy_ix (x3 + (1 : Int32)))) (p22.2 2000 (hy_ix (x3 + (2 : Int32)))) p22.2).bind fun p23 => if p22.1 = p23.1 then (J0_44 (J0_1  n) x3 p23.2) else (some ((0 : Int32), p23.2)) else none else none else none else none), ((8 : Int32), if hy_ib (x3 + (1 : Int32)) (hy_dl σ 2000).toInt then (J31 (σ 2000 (hy_ix (x3 + (1 : Int32)))) σ).bind fun p25 => if hy_ib (x3 + (1 : Int32)) (hy_dl p25.2 2000).toInt then (J152 (p25.2 2000 (hy_ix (x3 + (1 : Int32)))) p25.2).bind fun p26 => if p25.1 = p26.1 then (J0_44 (J0_1  n) x3 p26.2) else (some ((0 : Int32), p26.2)) else none else none), ((9 : Int32), if hy_ib (x3 + (1 : Int32)) (hy_dl σ 2000).toInt then (J34 (σ 2000 (hy_ix (x3 + (1 : Int32)))) σ).bind fun p28 => if hy_ib (x3 + (1 : Int32)) (hy_dl p28.2 2000).toInt then (J154 (p28.2 2000 (hy_ix (x3 + (1 : Int32)))) p28.2).bind fun p29 => if p28.1 = p29.1 then (J0_44 (J0_1  n) x3 p29.2) else (some ((0 : Int32), p29.2)) else none else none), ((10 : Int32), if hy_ib (x3 + (1 : Int32)) (hy_dl σ 2000).toInt then if hy_ib (x3 + (2 : Int32)) (hy_dl σ 2000).toInt then (J35 (σ 2000 (hy_ix (x3 + (1 : Int32)))) (σ 2000 (hy_ix (x3 + (2 : Int32)))) σ).bind fun p31 => if hy_ib (x3 + (1 : Int32)) (hy_dl p31.2 2000).toInt then if hy_ib (x3 + (2 : Int32)) (hy_dl p31.2 2000).toInt then (J155 (p31.2 2000 (hy_ix (x3 + (1 : Int32)))) (p31.2 2000 (hy_ix (x3 + (2 : Int32)))) p31.2).bind fun p32 => if p31.1 = p32.1 then (J0_44 (J0_1  n) x3 p32.2) else (some ((0 : Int32), p32.2)) else none else none else none else none), ((11 : Int32), if hy_ib (x3 + (1 : Int32)) (hy_dl σ 2000).toInt then (J39 (σ 2000 (hy_ix (x3 + (1 : Int32)))) σ).bind fun p34 => if hy_ib (x3 + (1 : Int32)) (hy_dl p34.2 2000).toInt then (J157 (p34.2 2000 (hy_ix (x3 + (1 : Int32)))) p34.2).bind fun p35 => if p34.1 = p35.1 then (J0_44 (J0_1  n) x3 p35.2) else (some ((0 : Int32), p35.2)) else none else none), ((12 : Int32), if hy_ib (x3 + (1 : Int32)) (hy_dl σ 2000).toInt then if hy_ib (x3 + (2 : Int32)) (hy_dl σ 2000).toInt then if hy_ib (x3 + (3 : Int32)) (hy_dl σ 2000).toInt then (J42 (σ 2000 (hy_ix (x3 + (1 : Int32)))) (σ 2000 (hy_ix (x3 + (2 : Int32)))) (σ 2000 (hy_ix (x3 + (3 : Int32)))) σ).bind fun p37 => if hy_ib (x3 + (1 : Int32)) (hy_dl p37.2 2000).toInt then if hy_ib (x3 + (2 : Int32)) (hy_dl p37.2 2000).toInt then if hy_ib (x3 + (3 : Int32)) (hy_dl p37.2 2000).toInt then (J158 (p37.2 2000 (hy_ix (x3 + (1 : Int32)))) (p37.2 2000 (hy_ix (x3 + (2 : Int32)))) (p37.2 2000 (hy_ix (x3 + (3 : Int32)))) p37.2).bind fun p38 => if p37.1 = p38.1 then (J0_44 (J0_1  n) x3 p38.2) else (some ((0 : Int32), p38.2)) else none else none else none else none else none else none), ((13 : Int32), if hy_ib (x3 + (1 : Int32)) (hy_dl σ 2000).toInt then (J52 (σ 2000 (hy_ix (x3 + (1 : Int32)))) σ).bind fun p40 => if hy_ib (x3 + (1 : Int32)) (hy_dl p40.2 2000).toInt then (J165 (p40.2 2000 (hy_ix (x3 + (1 : Int32)))) p40.2).bind fun p41 => if p40.1 = p41.1 then (J0_44 (J0_1  n) x3 p41.2) else (some ((0 : Int32), p41.2)) else none else none), ((14 : Int32), if hy_ib (x3 + (1 : Int32)) (hy_dl σ 2000).toInt then (J54 (σ 2000 (hy_ix (x3 + (1 : Int32)))) σ).bind fun p43 => if hy_ib (x3 + (1 : Int32)) (hy_dl p43.2 2000).toInt then (J166 (p43.2 2000 (hy_ix (x3 + (1 : Int32)))) p43.2).bind fun p44 => if p43.1 = p44.1 then (J0_44 (J0_1  n) x3 p44.2) else (some ((0 : Int32), p44.2)) else none else none), ((15 : Int32), if hy_ib (x3 + (1 : Int32)) (hy_dl σ 2000).toInt then (J55 (σ 2000 (hy_ix (x3 + (1 : Int32)))) σ).bind fun p46 => if hy_ib (x3 + (1 : Int32)) (hy_dl p46.2 2000).toInt then (J167 (p46.2 2000 (hy_ix (x3 + (1 : Int32)))) p46.2).bind fun p47 => if p46.1 = p47.1 then (J0_44 (J0_1  n) x3 p47.2) else (some ((0 : Int32), p47.2)) else none else none), ((16 : Int32), if hy_ib (x3 + (1 : Int32)) (hy_dl σ 2000).toInt then if hy_ib (x3 + (2 : Int32)) (hy_dl σ 2000).toInt then (J62 (σ 2000 (hy_ix (x3 + (1 : Int32)))) (σ 2000 (hy_ix (x3 + (2 : Int32)))) σ).bind fun p49 => if hy_ib (x3 + (1 : Int32)) (hy_dl p49.2 2000).toInt then if hy_ib (x3 + (2 : Int32)) (hy_dl p49.2 2000).toInt then (J173 (p49.2 2000 (hy_ix (x3 + (1 : Int32)))) (p49.2 2000 (hy_ix (x3 + (2 : Int32)))) p49.2).bind fun p50 => if p49.1 = p50.1 then (J0_44 (J0_1  n) x3 p50.2) else (some ((0 : Int32), p50.2)) else none else none else none else none), ((17 : Int32), (J64  σ).bind fun p52 => (J177  p52.2).bind fun p53 => if p52.1 = p53.1 then (J0_44 (J0_1  n) x3 p53.2) else (some ((0 : Int32), p53.2))), ((18 : Int32), if hy_ib (x3 + (1 : Int32)) (hy_dl σ 2000).toInt then if hy_ib (x3 + (2 : Int32)) (hy_dl σ 2000).toInt then (J65 (σ 2000 (hy_ix (x3 + (1 : Int32)))) (σ 2000 (hy_ix (x3 + (2 : Int32)))) σ).bind fun p55 => if hy_ib (x3 + (1 : Int32)) (hy_dl p55.2 2000).toInt then if hy_ib (x3 + (2 : Int32)) (hy_dl p55.2 2000).toInt then (J179 (p55.2 2000 (hy_ix (x3 + (1 : Int32)))) (p55.2 2000 (hy_ix (x3 + (2 : Int32)))) p55.2).bind fun p56 => if p55.1 = p56.1 then (J0_44 (J0_1  n) x3 p56.2) else (some ((0 : Int32), p56.2)) else none else none else none else none), ((19 : Int32), if hy_ib (x3 + (1 : Int32)) (hy_dl σ 2000).toInt then if hy_ib (x3 + (2 : Int32)) (hy_dl σ 2000).toInt then (J67 (σ 2000 (hy_ix (x3 + (1 : Int32)))) (σ 2000 (hy_ix (x3 + (2 : Int32)))) σ).bind fun p58 => if hy_ib (x3 + (1 : Int32)) (hy_dl p58.2 2000).toInt then if hy_ib (x3 + (2 : Int32)) (hy_dl p58.2 2000).toInt then (J180 (p58.2 2000 (hy_ix (x3 + (1 : Int32)))) (p58.2 2000 (hy_ix (x3 + (2 : Int32)))) p58.2).bind fun p59 => if p58.1 = p59.1 then (J0_44 (J0_1  n) x3 p59.2) else (some ((0 : Int32), p59.2)) else none else none else none else none), ((20 : Int32), if hy_ib (x3 + (1 : Int32)) (hy_dl σ 2000).toInt then if hy_ib (x3 + (2 : Int32)) (hy_dl σ 2000).toInt then if hy_ib (x3 + (3 : Int32)) (hy_dl σ 2000).toInt then (J68 (σ 2000 (hy_ix (x3 + (1 : Int32)))) (σ 2000 (hy_ix (x3 + (2 : Int32)))) (σ 2000 (hy_ix (x3 + (3 : Int32)))) σ).bind fun p61 => if hy_ib (x3 + (1 : Int32)) (hy_dl p61.2 2000).toInt then if hy_ib (x3 + (2 : Int32)) (hy_dl p61.2 2000).toInt then if hy_ib (x3 + (3 : Int32)) (hy_dl p61.2 2000).toInt then (J181 (p61.2 2000 (hy_ix (x3 + (1 : Int32)))) (p61.2 2000 (hy_ix (x3 + (2 : Int32)))) (p61.2 2000 (hy_ix (x3 + (3 : Int32)))) p61.2).bind fun p62 => if p61.1 = p62.1 then (J0_44 (J0_1  n) x3 p62.2) else (some ((0 : Int32), p62.2)) else none else none else none else none else none else none), ((21 : Int32), (J74  σ).bind fun p64 => (J184  p64.2).bind fun p65 => if p64.1 = p65.1 then (J0_44 (J0_1  n) x3 p65.2) else (some ((0 : Int32), p65.2))), ((22 : Int32), if hy_ib (x3 + (1 : Int32)) (hy_dl σ 2000).toInt then (J75 (σ 2000 (hy_ix (x3 + (1 : Int32)))) σ).bind fun p67 => if hy_ib (x3 + (1 : Int32)) (hy_dl p67.2 2000).toInt then (J185 (p67.2 2000 (hy_ix (x3 + (1 : Int32)))) p67.2).bind fun p68 => if p67.1 = p68.1 then (J0_44 (J0_1  n) x3 p68.2) else (some ((0 : Int32), p68.2)) else none else none), ((23 : Int32), if hy_ib (x3 + (1 : Int32)) (hy_dl σ 2000).toInt then if hy_ib (x3 + (2 : Int32)) (hy_dl σ 2000).toInt then if hy_ib (x3 + (3 : Int32)) (hy_dl σ 2000).toInt then (J76 (σ 2000 (hy_ix (x3 + (1 : Int32)))) (σ 2000 (hy_ix (x3 + (2 : Int32)))) (σ 2000 (hy_ix (x3 + (3 : Int32)))) σ).bind fun p70 => if hy_ib (x3 + (1 : Int32)) (hy_dl p70.2 2000).toInt then if hy_ib (x3 + (2 : Int32)) (hy_dl p70.2 2000).toInt then if hy_ib (x3 + (3 : Int32)) (hy_dl p70.2 2000).toInt then (J186 (p70.2 2000 (hy_ix (x3 + (1 : Int32)))) (p70.2 2000 (hy_ix (x3 + (2 : Int32)))) (p70.2 2000 (hy_ix (x3 + (3 : Int32)))) p70.2).bind fun p71 => if p70.1 = p71.1 then (J0_44 (J0_1  n) x3 p71.2) else (some ((0 : Int32), p71.2)) else none else none else none else none else none else none), ((24 : Int32), if hy_ib (x3 + (1 : Int32)) (hy_dl σ 2000).toInt then (J78 (σ 2000 (hy_ix (x3 + (1 : Int32)))) σ).bind fun p73 => if hy_ib (x3 + (1 : Int32)) (hy_dl p73.2 2000).toInt then (J187 (p73.2 2000 (hy_ix (x3 + (1 : Int32)))) p73.2).bind fun p74 => if p73.1 = p74.1 then (J0_44 (J0_1  n) x3 p74.2) else (some ((0 : Int32), p74.2)) else none else none), ((25 : Int32), (J79  σ).bind fun p76 => (J188  p76.2).bind fun p77 => if p76.1 = p77.1 then (J0_44 (J0_1  n) x3 p77.2) else (some ((0 : Int32), p77.2))), ((26 : Int32), if hy_ib (x3 + (1 : Int32)) (hy_dl σ 2000).toInt then if hy_ib (x3 + (2 : Int32)) (hy_dl σ 2000).toInt then (J102 (σ 2000 (hy_ix (x3 + (1 : Int32)))) (σ 2000 (hy_ix (x3 + (2 : Int32)))) σ).bind fun p79 => if hy_ib (x3 + (1 : Int32)) (hy_dl p79.2 2000).toInt then if hy_ib (x3 + (2 : Int32)) (hy_dl p79.2 2000).toInt then (J200 (p79.2 2000 (hy_ix (x3 + (1 : Int32)))) (p79.2 2000 (hy_ix (x3 + (2 : Int32)))) p79.2).bind fun p80 => if p79.1 = p80.1 then (J0_44 (J0_1  n) x3 p80.2) else (some ((0 : Int32), p80.2)) else none else none else none else none), ((27 : Int32), if hy_ib (x3 + (1 : Int32)) (hy_dl σ 2000).toInt then (J103 (σ 2000 (hy_ix (x3 + (1 : Int32)))) σ).bind fun p82 => if hy_ib (x3 + (1 : Int32)) (hy_dl p82.2 2000).toInt then (J201 (p82.2 2000 (hy_ix (x3 + (1 : Int32)))) p82.2).bind fun p83 => if p82.1 = p83.1 then (J0_44 (J0_1  n) x3 p83.2) else (some ((0 : Int32), p83.2)) else none else none), ((28 : Int32), if hy_ib (x3 + (1 : Int32)) (hy_dl σ 2000).toInt then if hy_ib (x3 + (2 : Int32)) (hy_dl σ 2000).toInt then if hy_ib (x3 + (3 : Int32)) (hy_dl σ 2000).toInt then (J104 (σ 2000 (hy_ix (x3 + (1 : Int32)))) (σ 2000 (hy_ix (x3 + (2 : Int32)))) (σ 2000 (hy_ix (x3 + (3 : Int32)))) σ).bind fun p85 => if hy_ib (x3 + (1 : Int32)) (hy_dl p85.2 2000).toInt then if hy_ib (x3 + (2 : Int32)) (hy_dl p85.2 2000).toInt then if hy_ib (x3 + (3 : Int32)) (hy_dl p85.2 2000).toInt then (J202 (p85.2 2000 (hy_ix (x3 + (1 : Int32)))) (p85.2 2000 (hy_ix (x3 + (2 : Int32)))) (p85.2 2000 (hy_ix (x3 + (3 : Int32)))) p85.2).bind fun p86 => if p85.1 = p86.1 then (J0_44 (J0_1  n) x3 p86.2) else (some ((0 : Int32), p86.2)) else none else none else none else none else none else none), ((29 : Int32), if hy_ib (x3 + (1 : Int32)) (hy_dl σ 2000).toInt then if hy_ib (x3 + (2 : Int32)) (hy_dl σ 2000).toInt then if hy_ib (x3 + (3 : Int32)) (hy_dl σ 2000).toInt then (J106 (σ 2000 (hy_ix (x3 + (1 : Int32)))) (σ 2000 (hy_ix (x3 + (2 : Int32)))) (σ 2000 (hy_ix (x3 + (3 : Int32)))) σ).bind fun p88 => if hy_ib (x3 + (1 : Int32)) (hy_dl p88.2 2000).toInt then if hy_ib (x3 + (2 : Int32)) (hy_dl p88.2 2000).toInt then if hy_ib (x3 + (3 : Int32)) (hy_dl p88.2 2000).toInt then (J203 (p88.2 2000 (hy_ix (x3 + (1 : Int32)))) (p88.2 2000 (hy_ix (x3 + (2 : Int32)))) (p88.2 2000 (hy_ix (x3 + (3 : Int32)))) p88.2).bind fun p89 => if p88.1 = p89.1 then (J0_44 (J0_1  n) x3 p89.2) else (some ((0 : Int32), p89.2)) else none else none else none else none else none else none), ((30 : Int32), if hy_ib (x3 + (1 : Int32)) (hy_dl σ 2000).toInt then (J107 (σ 2000 (hy_ix (x3 + (1 : Int32)))) σ).bind fun p91 => if hy_ib (x3 + (1 : Int32)) (hy_dl p91.2 2000).toInt then (J204 (p91.2 2000 (hy_ix (x3 + (1 : Int32)))) p91.2).bind fun p92 => if p91.1 = p92.1 then (J0_44 (J0_1  n) x3 p92.2) else (some ((0 : Int32), p92.2)) else none else none), ((31 : Int32), if hy_ib (x3 + (1 : Int32)) (hy_dl σ 2000).toInt then (J108 (σ 2000 (hy_ix (x3 + (1 : Int32)))) σ).bind fun p94 => if hy_ib (x3 + (1 : Int32)) (hy_dl p94.2 2000).toInt then (J205 (p94.2 2000 (hy_ix (x3 + (1 : Int32)))) p94.2).bind fun p95 => if p94.1 = p95.1 then (J0_44 (J0_1  n) x3 p95.2) else (some ((0 : Int32), p95.2)) else none else none), ((32 : Int32), if hy_ib (x3 + (1 : Int32)) (hy_dl σ 2000).toInt then if hy_ib (x3 + (2 : Int32)) (hy_dl σ 2000).toInt then if hy_ib (x3 + (3 : Int32)) (hy_dl σ 2000).toInt then if hy_ib (x3 + (4 : Int32)) (hy_dl σ 2000).toInt then if hy_ib (x3 + (5 : Int32)) (hy_dl σ 2000).toInt then (J109 (σ 2000 (hy_ix (x3 + (1 : Int32)))) (σ 2000 (hy_ix (x3 + (2 : Int32)))) (σ 2000 (hy_ix (x3 + (3 : Int32)))) (σ 2000 (hy_ix (x3 + (4 : Int32)))) (σ 2000 (hy_ix (x3 + (5 : Int32)))) σ).bind fun p97 => if hy_ib (x3 + (1 : Int32)) (hy_dl p97.2 2000).toInt then if hy_ib (x3 + (2 : Int32)) (hy_dl p97.2 2000).toInt then if hy_ib (x3 + (3 : Int32)) (hy_dl p97.2 2000).toInt then if hy_ib (x3 + (4 : Int32)) (hy_dl p97.2 2000).toInt then if hy_ib (x3 + (5 : Int32)) (hy_dl p97.2 2000).toInt then (J206 (p97.2 2000 (hy_ix (x3 + (1 : Int32)))) (p97.2 2000 (hy_ix (x3 + (2 : Int32)))) (p97.2 2000 (hy_ix (x3 + (3 : Int32)))) (p97.2 2000 (hy_ix (x3 + (4 : Int32)))) (p97.2 2000 (hy_ix (x3 + (5 : Int32)))) p97.2).bind fun p98 => if p97.1 = p98.1 then (J0_44 (J0_1  n) x3 p98.2) else (some ((0 : Int32), p98.2)) else none else none else none else none else none else none else none else none else none else none), ((33 : Int32), if hy_ib (x3 + (1 : Int32)) (hy_dl σ 2000).toInt then if hy_ib (x3 + (2 : Int32)) (hy_dl σ 2000).toInt then if hy_ib (x3 + (3 : Int32)) (hy_dl σ 2000).toInt then (J111 (σ 2000 (hy_ix (x3 + (1 : Int32)))) (σ 2000 (hy_ix (x3 + (2 : Int32)))) (σ 2000 (hy_ix (x3 + (3 : Int32)))) σ).bind fun p100 => if hy_ib (x3 + (1 : Int32)) (hy_dl p100.2 2000).toInt then if hy_ib (x3 + (2 : Int32)) (hy_dl p100.2 2000).toInt then if hy_ib (x3 + (3 : Int32)) (hy_dl p100.2 2000).toInt then (J207 (p100.2 2000 (hy_ix (x3 + (1 : Int32)))) (p100.2 2000 (hy_ix (x3 + (2 : Int32)))) (p100.2 2000 (hy_ix (x3 + (3 : Int32)))) p100.2).bind fun p101 => if p100.1 = p101.1 then (J0_44 (J0_1  n) x3 p101.2) else (some ((0 : Int32), p101.2)) else none else none else none else none else none else none), ((34 : Int32), if hy_ib (x3 + (1 : Int32)) (hy_dl σ 2000).toInt then if hy_ib (x3 + (2 : Int32)) (hy_dl σ 2000).toInt then (J114 (σ 2000 (hy_ix (x3 + (1 : Int32)))) (σ 2000 (hy_ix (x3 + (2 : Int32)))) σ).bind fun p103 => if hy_ib (x3 + (1 : Int32)) (hy_dl p103.2 2000).toInt then if hy_ib (x3 + (2 : Int32)) (hy_dl p103.2 2000).toInt then (J209 (p103.2 2000 (hy_ix (x3 + (1 : Int32)))) (p103.2 2000 (hy_ix (x3 + (2 : Int32)))) p103.2).bind fun p104 => if p103.1 = p104.1 then (J0_44 (J0_1  n) x3 p104.2) else (some ((0 : Int32), p104.2)) else none else none else none else none), ((35 : Int32), if hy_ib (x3 + (1 : Int32)) (hy_dl σ 2000).toInt then if hy_ib (x3 + (2 : Int32)) (hy_dl σ 2000).toInt then (J116 (σ 2000 (hy_ix (x3 + (1 : Int32)))) (σ 2000 (hy_ix (x3 + (2 : Int32)))) σ).bind fun p106 => if hy_ib (x3 + (1 : Int32)) (hy_dl p106.2 2000).toInt then if hy_ib (x3 + (2 : Int32)) (hy_dl p106.2 2000).toInt then (J210 (p106.2 2000 (hy_ix (x3 + (1 : Int32)))) (p106.2 2000 (hy_ix (x3 + (2 : Int32)))) p106.2).bind fun p107 => if p106.1 = p107.1 then (J0_44 (J0_1  n) x3 p107.2) else (some ((0 : Int32), p107.2)) else none else none else none else none), ((36 : Int32), if hy_ib (x3 + (1 : Int32)) (hy_dl σ 2000).toInt then if hy_ib (x3 + (2 : Int32)) (hy_dl σ 2000).toInt then (J117 (σ 2000 (hy_ix (x3 + (1 : Int32)))) (σ 2000 (hy_ix (x3 + (2 : Int32)))) σ).bind fun p109 => if hy_ib (x3 + (1 : Int32)) (hy_dl p109.2 2000).toInt then if hy_ib (x3 + (2 : Int32)) (hy_dl p109.2 2000).toInt then (J211 (p109.2 2000 (hy_ix (x3 + (1 : Int32)))) (p109.2 2000 (hy_ix (x3 + (2 : Int32)))) p109.2).bind fun p110 => if p109.1 = p110.1 then (J0_44 (J0_1  n) x3 p110.2) else (some ((0 : Int32), p110.2)) else none else none else none else none), ((37 : Int32), if hy_ib (x3 + (1 : Int32)) (hy_dl σ 2000).toInt then (J118 (σ 2000 (hy_ix (x3 + (1 : Int32)))) σ).bind fun p112 => if hy_ib (x3 + (1 : Int32)) (hy_dl p112.2 2000).toInt then (J212 (p112.2 2000 (hy_ix (x3 + (1 : Int32)))) p112.2).bind fun p113 => if p112.1 = p113.1 then (J0_44 (J0_1  n) x3 p113.2) else (some ((0 : Int32), p113.2)) else none else none), ((38 : Int32), if hy_ib (x3 + (1 : Int32)) (hy_dl σ 2000).toInt then (J119 (σ 2000 (hy_ix (x3 + (1 : Int32)))) σ).bind fun p115 => if hy_ib (x3 + (1 : Int32)) (hy_dl p115.2 2000).toInt then (J213 (p115.2 2000 (hy_ix (x3 + (1 : Int32)))) p115.2).bind fun p116 => if p115.1 = p116.1 then (J0_44 (J0_1  n) x3 p116.2) else (some ((0 : Int32), p116.2)) else none else none), ((39 : Int32), (J121  σ).bind fun p118 => (J215  p118.2).bind fun p119 => if p118.1 = p119.1 then (J0_44 (J0_1  n) x3 p119.2) else (some ((0 : Int32), p119.2))), ((40 : Int32), (J122  σ).bind fun p121 => (J216  p121.2).bind fun p122 => if p121.1 = p122.1 then (J0_44 (J0_1  n) x3 p122.2) else (some ((0 : Int32), p122.2))), ((41 : Int32), if hy_ib (x3 + (1 : Int32)) (hy_dl σ 2000).toInt then (J123 (σ 2000 (hy_ix (x3 + (1 : Int32)))) σ).bind fun p124 => if hy_ib (x3 + (1 : Int32)) (hy_dl p124.2 2000).toInt then (J217 (p124.2 2000 (hy_ix (x3 + (1 : Int32)))) p124.2).bind fun p125 => if p124.1 = p125.1 then (J0_44 (J0_1  n) x3 p125.2) else (some ((0 : Int32), p125.2)) else none else none)] (J0_44 (J0_1  n) x3 σ) else none)
