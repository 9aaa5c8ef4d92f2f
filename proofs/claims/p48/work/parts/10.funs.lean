/-! the methods as functions of worlds -/
def fX11_within (a0 : Int32) (a1 : Int32) (a2 : Int32) (w : AW) : Option (Int32) :=
if a0 < a1 then (
some 0)
else (
if a2 < a0 then (
some 0)
else (
some 1))
def fX1_slotsOn (b : Nat) (a0 : Int32) (w : AW) : Option (Int32) :=
if a0 < 0 then (
some (w.1 (b + 7) (0 : Int32).toNatClampNeg))
else (
if a0 ≤ 60 then (
gd (inb a0 61) (
some ((if 0 < ((w.1 (b + 7) (0 : Int32).toNatClampNeg) - (w.1 (b + 8) a0.toNatClampNeg)) then ((w.1 (b + 7) (0 : Int32).toNatClampNeg) - (w.1 (b + 8) a0.toNatClampNeg)) else 0) + (w.1 (b + 9) a0.toNatClampNeg))))
else (
some (w.1 (b + 7) (0 : Int32).toNatClampNeg)))
def lbX3_measure_96_2 (N : Nat) (o0 : Nat) (c2_96_2 : Int32) (c4_96_2 : Int32) (c5_96_2 : Int32) : (Int32 × Int32 × AW) → Option ((Int32 × Int32 × AW) ⊕ (Int32 × AW)) := fun s => match s with
  | (x3_96_2, x6_96_2, w_96_2) => (
if c5_96_2 ≤ x6_96_2 then (
some (.inr (x3_96_2, w_96_2)))
else (
if 126 ≤ x3_96_2 then (
some (.inr (x3_96_2, w_96_2)))
else (
gd (inb (x3_96_2 + 1) 127) (
lw (setI w_96_2 47 (x3_96_2 + 1).toNatClampNeg c4_96_2) (fun w14 =>
some (.inl ((x3_96_2 + 1), (x6_96_2 + 1), w14)))))))
def lbX3_measure_96_3 (N : Nat) (o0 : Nat) (c2_96_3 : Int32) (c4_96_3 : Int32) (c5_96_3 : Int32) : (Int32 × Int32 × AW) → Option ((Int32 × Int32 × AW) ⊕ (Int32 × AW)) := fun s => match s with
  | (x3_96_3, x6_96_3, w_96_3) => (
if c5_96_3 ≤ x6_96_3 then (
some (.inr (x3_96_3, w_96_3)))
else (
if 126 ≤ x3_96_3 then (
some (.inr (x3_96_3, w_96_3)))
else (
gd (inb (x3_96_3 + 1) 127) (
lw (setI w_96_3 47 (x3_96_3 + 1).toNatClampNeg c4_96_3) (fun w21 =>
some (.inl ((x3_96_3 + 1), (x6_96_3 + 1), w21)))))))
def lbX3_measure_54_1 (N : Nat) (o0 : Nat) (c2_54_1 : Int32) : (Int32 × Int32 × AW) → Option ((Int32 × Int32 × AW) ⊕ (AW)) := fun s => match s with
  | (x3_54_1, x4_54_1, w_54_1) => (
if 186 < x4_54_1 then (
some (.inr w_54_1))
else (
if 126 ≤ x3_54_1 then (
some (.inr w_54_1))
else (
bd (fX1_slotsOn o0 x4_54_1 w_54_1) (fun r9 =>
if c2_54_1 ≤ (x4_54_1 - (w_54_1.1 o0 5)) then (
bd (wh (lbX3_measure_96_2 N o0 c2_54_1 x4_54_1 (r9 + 0)) N (x3_54_1, 0, w_54_1)) (fun q => match q with | (y16, w17) => (
some (.inl (y16, (x4_54_1 + 1), w17)))))
else (
bd (wh (lbX3_measure_96_3 N o0 c2_54_1 x4_54_1 (r9 + 1)) N (x3_54_1, 0, w_54_1)) (fun q => match q with | (y23, w24) => (
some (.inl (y23, (x4_54_1 + 1), w24)))))))))
def fX3_measure (N : Nat) (o0 : Nat) (a1 : Int32) (w : AW) : Option (AW) :=
lw (setI w 46 2 (w.1 (o0 + 7) (2 : Int32).toNatClampNeg)) (fun w1 =>
lw (setI w1 46 3 (w1.1 (o0 + 7) (3 : Int32).toNatClampNeg)) (fun w2 =>
lw (setI w2 46 4 (w2.1 (o0 + 7) (1 : Int32).toNatClampNeg)) (fun w3 =>
lw (setI w3 46 5 (w3.1 o0 6)) (fun w4 =>
lw (setI w4 46 6 (w4.1 o0 7)) (fun w5 =>
bd (wh (lbX3_measure_54_1 N o0 a1) N (0, (w5.1 o0 5), w5)) (fun w26 =>
some w26))))))
def fX4_has (o : Nat) (a0 : Int32) (w : AW) : Option (Int32) :=
if a0 < 0 then (
some 0)
else (
if (w.1 o 0) ≤ a0 then (
some 0)
else (
some 1))
def fX3_dayAt (a0 : Int32) (w : AW) : Option (Int32) :=
gd (inb (if 0 < (if 126 < a0 then 126 else a0) then (if 126 < a0 then 126 else a0) else 0) 127) (
some (w.1 47 (if 0 < (if 126 < a0 then 126 else a0) then (if 126 < a0 then 126 else a0) else 0).toNatClampNeg))
def bX3_usedBehind_23 (o2 : Nat) (p1_23 : Int32) (p4_23 : Int32) (p5_23 : Int32) (q0_23 : Int32) (w : AW) : Option (Int32) :=
if p1_23 = 0 then (
if p5_23 = (w.1 46 5) then (
gd (inb p4_23 6) (
some ((p1_23 + (w.1 46 6)) + (w.1 (o2 + 2) p4_23.toNatClampNeg))))
else (
gd (inb p4_23 6) (
some ((p1_23 + (w.1 46 4)) + (w.1 (o2 + 2) p4_23.toNatClampNeg)))))
else (
gd (inb p4_23 6) (
some ((p1_23 + q0_23) + (w.1 (o2 + 2) p4_23.toNatClampNeg))))
def fX3_usedBehind (a0 : Int32) (a1 : Int32) (o2 : Nat) (a3 : Int32) (w : AW) : Option (Int32) :=
gd (inb a3 6) (
if (w.1 (o2 + 3) a3.toNatClampNeg) = a1 then (
bX3_usedBehind_23 o2 a0 a3 (w.1 (o2 + 3) a3.toNatClampNeg) 0 w)
else (
bX3_usedBehind_23 o2 a0 a3 (w.1 (o2 + 3) a3.toNatClampNeg) (w.1 46 4) w))
def fX4_valueOf (o : Nat) (a0 : Int32) (a1 : Int32) (a2 : Int32) (w : AW) : Option (Int32) :=
gd (inb a0 6) (
if (w.1 (o + 4) a0.toNatClampNeg) < a1 then (
if (w.1 (o + 1) a0.toNatClampNeg) = 1 then (
some ((-2) * a2))
else (if (w.1 (o + 1) a0.toNatClampNeg) = 2 then (
some ((w.1 (o + 5) a0.toNatClampNeg) / 2))
else (if (w.1 (o + 1) a0.toNatClampNeg) = 3 then (
some (((w.1 (o + 5) a0.toNatClampNeg) / 2) - a2))
else (if (w.1 (o + 1) a0.toNatClampNeg) = 4 then (
if a1 = ((w.1 (o + 4) a0.toNatClampNeg) + 1) then (
some 0)
else (
some ((-2) * a2)))
else (
some (-a2))))))
else (
some (w.1 (o + 5) a0.toNatClampNeg)))
def fX5_lossOf (o0 : Nat) (a1 : Int32) (a2 : Int32) (w : AW) : Option (Int32) :=
gd (inb a1 6) (
if a2 ≤ (w.1 (o0 + 4) a1.toNatClampNeg) then (
if (w.1 49 3) = 0 then (
bd (fX4_valueOf o0 a1 a2 (w.1 46 2) w) (fun r5 =>
some ((w.1 (o0 + 5) a1.toNatClampNeg) - r5)))
else (if (w.1 49 3) = 1 then (
some 0)
else (
if a1 = ((w.1 o0 0) - 1) then (
some a2)
else (
some 0))))
else (
if (w.1 49 3) = 0 then (
bd (fX4_valueOf o0 a1 a2 (w.1 46 2) w) (fun r12 =>
some ((w.1 (o0 + 5) a1.toNatClampNeg) - r12)))
else (if (w.1 49 3) = 1 then (
some 1)
else (
if a1 = ((w.1 o0 0) - 1) then (
some a2)
else (
some 1000000)))))
def lbX5_walk_43_1 (N : Nat) (rec : Nat → Int32 → Int32 → Int32 → Int32 → Int32 → AW → Option (AW)) (o0 : Nat) (c2_43_1 : Int32) (c3_43_1 : Int32) (c4_43_1 : Int32) (c5_43_1 : Int32) (c6_43_1 : Int32) : (Int32 × AW) → Option ((Int32 × AW) ⊕ (AW)) := fun s => match s with
  | (x7_43_1, w_43_1) => (
if (w_43_1.1 o0 0) ≤ x7_43_1 then (
some (.inr w_43_1))
else (
if ((c5_43_1 >>> (x7_43_1 &&& 31)) &&& 1) = 0 then (
bd (fX3_usedBehind c3_43_1 c4_43_1 o0 x7_43_1 w_43_1) (fun r6 =>
gd (inb c2_43_1 6) (
lw (setI w_43_1 50 c2_43_1.toNatClampNeg x7_43_1) (fun w8 =>
bd (fX3_dayAt r6 w8) (fun r10 =>
bd (fX5_lossOf o0 x7_43_1 r10 w8) (fun r12 =>
gd (inb x7_43_1 6) (
bd (rec o0 (c2_43_1 + 1) r6 (w8.1 (o0 + 3) x7_43_1.toNatClampNeg) (c5_43_1 ||| (1 <<< (x7_43_1 &&& 31))) (c6_43_1 + r12) w8) (fun w15 =>
some (.inl ((x7_43_1 + 1), w15))))))))))
else (
some (.inl ((x7_43_1 + 1), w_43_1)))))
def fX5_walk_b (N : Nat) (rec : Nat → Int32 → Int32 → Int32 → Int32 → Int32 → AW → Option (AW)) (o0 : Nat) (a1 : Int32) (a2 : Int32) (a3 : Int32) (a4 : Int32) (a5 : Int32) (w : AW) : Option (AW) :=
if a5 < (w.1 49 5) then (
if a1 < (w.1 49 4) then (
bd (wh (lbX5_walk_43_1 N rec o0 a1 a2 a3 a4 a5) N (0, w)) (fun w17 =>
some w17))
else (
lw (setI w 49 5 a5) (fun w18 =>
lw (cpyI w18 50 (0 : Int32).toNatClampNeg 51 (0 : Int32).toNatClampNeg (6 : Int32).toNatClampNeg) (fun w19 =>
some w19))))
else (
some w)
def fX5_walk (N : Nat) : Nat → Nat → Int32 → Int32 → Int32 → Int32 → Int32 → AW → Option (AW)
  | 0, o0, a1, a2, a3, a4, a5, w => none
  | n + 1, o0, a1, a2, a3, a4, a5, w => fX5_walk_b N (fun o0 a1 a2 a3 a4 a5 w => fX5_walk N n o0 a1 a2 a3 a4 a5 w) o0 a1 a2 a3 a4 a5 w
def fX5_leastLost (N : Nat) (a0 : Int32) (o1 : Nat) (a2 : Int32) (w : AW) : Option (Int32 × AW) :=
lw (setI w 49 3 a0) (fun w1 =>
lw (setI w1 49 5 1000000) (fun w2 =>
bd (fX4_has o1 a2 w2) (fun r4 =>
if r4 = 0 then (
lw (setI w2 49 4 (w2.1 o1 0)) (fun w6 =>
if r4 = 0 then (
bd (fX5_walk N 8 o1 0 0 0 0 0 w6) (fun w9 =>
some ((w9.1 49 5), w9)))
else (
bd (fX5_walk N 8 o1 0 0 0 (1 <<< (a2 &&& 31)) 0 w6) (fun w11 =>
some ((w11.1 49 5), w11)))))
else (
lw (setI w2 49 4 ((w2.1 o1 0) - 1)) (fun w12 =>
if r4 = 0 then (
bd (fX5_walk N 8 o1 0 0 0 0 0 w12) (fun w15 =>
some ((w15.1 49 5), w15)))
else (
bd (fX5_walk N 8 o1 0 0 0 (1 <<< (a2 &&& 31)) 0 w12) (fun w17 =>
some ((w17.1 49 5), w17))))))))
def lbX5_mostWorth_5_1 (N : Nat) (o0 : Nat) (c2_5_1 : Int32) (w_5_1 : AW) : (Int32 × Int32) → Option ((Int32 × Int32) ⊕ (Int32)) := fun s => match s with
  | (x3_5_1, x4_5_1) => (
if (w_5_1.1 o0 0) ≤ x4_5_1 then (
some (.inr x3_5_1))
else (
if x4_5_1 = c2_5_1 then (
some (.inl (x3_5_1, (x4_5_1 + 1))))
else (
gd (inb x4_5_1 6) (
lw (x3_5_1 + (w_5_1.1 (o0 + 5) x4_5_1.toNatClampNeg)) (fun v4 =>
some (.inl (v4, (x4_5_1 + 1))))))))
def fX5_mostWorth (N : Nat) (o0 : Nat) (a1 : Int32) (w : AW) : Option (Int32 × AW) :=
bd (wh (lbX5_mostWorth_5_1 N o0 a1 w) N (0, 0)) (fun y6 =>
bd2 (fX5_leastLost N 0 o0 a1 w) (fun r8 w9 =>
some ((y6 - r8), w9)))
def lbX11_across_47_1 (N : Nat) (c1_47_1 : Int32) : (Int32 × Int32 × Int32 × AW) → Option ((Int32 × Int32 × Int32 × AW) ⊕ (Int32 × Int32 × AW)) := fun s => match s with
  | (x2_47_1, x3_47_1, x4_47_1, w_47_1) => (
if (w_47_1.1 2 0) ≤ x4_47_1 then (
some (.inr (x2_47_1, x3_47_1, w_47_1)))
else (
bd2 (fX5_mostWorth N 2 x4_47_1 w_47_1) (fun r12 w13 =>
gd (inb x4_47_1 6) (
lw (r12 + ((w13.1 7 x4_47_1.toNatClampNeg) / 2)) (fun v16 =>
if v16 ≤ x3_47_1 then (
some (.inl (x2_47_1, x3_47_1, (x4_47_1 + 1), w13)))
else (
some (.inl (x4_47_1, v16, (x4_47_1 + 1), w13))))))))
def fX11_across (N : Nat) (a0 : Int32) (w : AW) : Option (Int32 × AW) :=
bd (fX11_within a0 0 1 w) (fun r2 =>
if r2 = 0 then (
some ((-2147483648), w))
else (
bd (fX3_measure N 1 0 w) (fun w5 =>
bd2 (fX5_mostWorth N 2 (-9) w5) (fun r7 w8 =>
bd (wh (lbX11_across_47_1 N a0) N ((-9), r7, 0, w8)) (fun q => match q with | (y19, y20, w21) => (
if a0 = 0 then (
some (y19, w21))
else (
some (y20, w21))))))))
def lbX4_copy_10_1 (N : Nat) (o : Nat) (o0 : Nat) : (Int32 × AW) → Option ((Int32 × AW) ⊕ (AW)) := fun s => match s with
  | (x2_10_1, w_10_1) => (
if (w_10_1.1 o0 0) ≤ x2_10_1 then (
some (.inr w_10_1))
else (
gd (inb x2_10_1 6) (
lw (setI w_10_1 (o + 1) x2_10_1.toNatClampNeg (w_10_1.1 (o0 + 1) x2_10_1.toNatClampNeg)) (fun w4 =>
lw (setI w4 (o + 2) x2_10_1.toNatClampNeg (w4.1 (o0 + 2) x2_10_1.toNatClampNeg)) (fun w5 =>
lw (setI w5 (o + 3) x2_10_1.toNatClampNeg (w5.1 (o0 + 3) x2_10_1.toNatClampNeg)) (fun w6 =>
lw (setI w6 (o + 4) x2_10_1.toNatClampNeg (w6.1 (o0 + 4) x2_10_1.toNatClampNeg)) (fun w7 =>
lw (setI w7 (o + 5) x2_10_1.toNatClampNeg (w7.1 (o0 + 5) x2_10_1.toNatClampNeg)) (fun w8 =>
some (.inl ((x2_10_1 + 1), w8))))))))))
def fX4_copy (N : Nat) (o : Nat) (o0 : Nat) (w : AW) : Option (AW) :=
lw (setI w o 0 (w.1 o0 0)) (fun w1 =>
bd (wh (lbX4_copy_10_1 N o o0) N (0, w1)) (fun w10 =>
some w10))
def fX1_copy (N : Nat) (b : Nat) (o0 : Nat) (w : AW) : Option (AW) :=
bd (fX4_copy N (b + 1) (o0 + 1) w) (fun w2 =>
lw (cpyI w2 (o0 + 7) (0 : Int32).toNatClampNeg (b + 7) (0 : Int32).toNatClampNeg (4 : Int32).toNatClampNeg) (fun w3 =>
lw (cpyI w3 (o0 + 8) (0 : Int32).toNatClampNeg (b + 8) (0 : Int32).toNatClampNeg (61 : Int32).toNatClampNeg) (fun w4 =>
lw (cpyI w4 (o0 + 9) (0 : Int32).toNatClampNeg (b + 9) (0 : Int32).toNatClampNeg (61 : Int32).toNatClampNeg) (fun w5 =>
lw (cpyI w5 (o0 + 10) (0 : Int32).toNatClampNeg (b + 10) (0 : Int32).toNatClampNeg (6 : Int32).toNatClampNeg) (fun w6 =>
lw (setI w6 b 5 (w6.1 o0 5)) (fun w7 =>
lw (setI w7 b 6 (w7.1 o0 6)) (fun w8 =>
lw (setI w8 b 7 (w8.1 o0 7)) (fun w9 =>
lw (setI w9 b 8 (w9.1 o0 8)) (fun w10 =>
some w10)))))))))
def lbX10_copy_18_1 (N : Nat) (t : Nat) (o0 : Nat) : (Int32 × AW) → Option ((Int32 × AW) ⊕ (AW)) := fun s => match s with
  | (x2_18_1, w_18_1) => (
if (w_18_1.1 o0 0) ≤ x2_18_1 then (
some (.inr w_18_1))
else (
gd (inb x2_18_1 3) (
lw (setI w_18_1 (t + 1) x2_18_1.toNatClampNeg (w_18_1.1 (o0 + 1) x2_18_1.toNatClampNeg)) (fun w5 =>
lw (setI w5 (t + 2) x2_18_1.toNatClampNeg (w5.1 (o0 + 2) x2_18_1.toNatClampNeg)) (fun w6 =>
lw (setI w6 (t + 3) x2_18_1.toNatClampNeg (w6.1 (o0 + 3) x2_18_1.toNatClampNeg)) (fun w7 =>
lw (setI w7 (t + 4) x2_18_1.toNatClampNeg (w7.1 (o0 + 4) x2_18_1.toNatClampNeg)) (fun w8 =>
lw (setI w8 (t + 5) x2_18_1.toNatClampNeg (w8.1 (o0 + 5) x2_18_1.toNatClampNeg)) (fun w9 =>
lw (setI w9 (t + 6) x2_18_1.toNatClampNeg (w9.1 (o0 + 6) x2_18_1.toNatClampNeg)) (fun w10 =>
some (.inl ((x2_18_1 + 1), w10)))))))))))
def fX10_copy (N : Nat) (t : Nat) (o0 : Nat) (w : AW) : Option (AW) :=
lw (setI w t 0 (w.1 o0 0)) (fun w1 =>
lw (setI w1 t 1 (w1.1 o0 1)) (fun w2 =>
bd (wh (lbX10_copy_18_1 N t o0) N (0, w2)) (fun w12 =>
some w12)))
def fX11_again (N : Nat) (w : AW) : Option (Int32 × AW) :=
if (w.1 0 4) = 0 then (
some ((-3), w))
else (
bd (fX1_copy N 1 12 w) (fun w3 =>
bd (fX10_copy N 23 30 w3) (fun w5 =>
some ((w5.1 2 0), w5))))
def lbX11_digitsOf_4_1 (N : Nat) (r0 : Nat) (c1_4_1 : Int32) (w_4_1 : AW) : (Int32 × Int32) → Option ((Int32 × Int32) ⊕ (Int32)) := fun s => match s with
  | (x2_4_1, x3_4_1) => (
if c1_4_1 ≤ x3_4_1 then (
some (.inr x2_4_1))
else (
if 6 ≤ x3_4_1 then (
some (.inr x2_4_1))
else (
gd (inb x3_4_1 6) (
lw (x2_4_1 ||| ((w_4_1.1 r0 x3_4_1.toNatClampNeg) <<< ((3 * x3_4_1) &&& 31))) (fun v4 =>
some (.inl (v4, (x3_4_1 + 1))))))))
def fX11_digitsOf (N : Nat) (r0 : Nat) (a1 : Int32) (w : AW) : Option (Int32) :=
bd (wh (lbX11_digitsOf_4_1 N r0 a1 w) N (0, 0)) (fun y6 =>
some y6)
def fX11_best (N : Nat) (a0 : Int32) (w : AW) : Option (Int32 × AW) :=
bd (fX11_within a0 0 1 w) (fun r2 =>
if r2 = 0 then (
some ((-2147483648), w))
else (
bd (fX3_measure N 1 0 w) (fun w5 =>
bd2 (fX5_mostWorth N 2 (-9) w5) (fun r7 w8 =>
if a0 = 0 then (
some (r7, w8))
else (
bd (fX11_digitsOf N 51 (w8.1 2 0) w8) (fun r12 =>
some (r12, w8)))))))
def lbX4_remove_11_1 (N : Nat) (o : Nat) : (Int32 × AW) → Option ((Int32 × AW) ⊕ (AW)) := fun s => match s with
  | (x2_11_1, w_11_1) => (
if (w_11_1.1 o 0) ≤ (x2_11_1 + 1) then (
some (.inr w_11_1))
else (
gd (inb (x2_11_1 + 1) 6) (
gd (inb x2_11_1 6) (
lw (setI w_11_1 (o + 1) x2_11_1.toNatClampNeg (w_11_1.1 (o + 1) (x2_11_1 + 1).toNatClampNeg)) (fun w7 =>
lw (setI w7 (o + 2) x2_11_1.toNatClampNeg (w7.1 (o + 2) (x2_11_1 + 1).toNatClampNeg)) (fun w8 =>
lw (setI w8 (o + 3) x2_11_1.toNatClampNeg (w8.1 (o + 3) (x2_11_1 + 1).toNatClampNeg)) (fun w9 =>
lw (setI w9 (o + 4) x2_11_1.toNatClampNeg (w9.1 (o + 4) (x2_11_1 + 1).toNatClampNeg)) (fun w10 =>
lw (setI w10 (o + 5) x2_11_1.toNatClampNeg (w10.1 (o + 5) (x2_11_1 + 1).toNatClampNeg)) (fun w11 =>
some (.inl ((x2_11_1 + 1), w11)))))))))))
def fX4_remove (N : Nat) (o : Nat) (a0 : Int32) (w : AW) : Option (AW) :=
bd (fX4_has o a0 w) (fun r2 =>
if r2 = 0 then (
some w)
else (
bd (wh (lbX4_remove_11_1 N o) N (a0, w)) (fun w13 =>
lw (setI w13 o 0 ((w13.1 o 0) - 1)) (fun w14 =>
some w14))))
def lbX1_leave_4_1 (N : Nat) (b : Nat) (c1_4_1 : Int32) : (Int32 × Int32 × AW) → Option ((Int32 × Int32 × AW) ⊕ (AW)) := fun s => match s with
  | (x2_4_1, x3_4_1, w_4_1) => (
if (w_4_1.1 (b + 1) 0) ≤ x3_4_1 then (
some (.inr w_4_1))
else (
gd (inb x3_4_1 6) (
lw (w_4_1.1 (b + 10) x3_4_1.toNatClampNeg) (fun v3 =>
if v3 = c1_4_1 then (
some (.inl (x2_4_1, (x3_4_1 + 1), w_4_1)))
else (
if v3 ≤ c1_4_1 then (
gd (inb x2_4_1 6) (
lw (setI w_4_1 (b + 10) x2_4_1.toNatClampNeg v3) (fun w7 =>
some (.inl ((x2_4_1 + 1), (x3_4_1 + 1), w7)))))
else (
gd (inb x2_4_1 6) (
lw (setI w_4_1 (b + 10) x2_4_1.toNatClampNeg (v3 - 1)) (fun w9 =>
some (.inl ((x2_4_1 + 1), (x3_4_1 + 1), w9))))))))))
def fX1_leave (N : Nat) (b : Nat) (a0 : Int32) (w : AW) : Option (AW) :=
bd (wh (lbX1_leave_4_1 N b a0) N (0, 0, w)) (fun w11 =>
bd (fX4_remove N (b + 1) a0 w11) (fun w13 =>
some w13))
def fX11_drop (N : Nat) (a0 : Int32) (w : AW) : Option (Int32 × AW) :=
bd (fX4_has 2 a0 w) (fun r2 =>
if r2 = 0 then (
some ((-1), w))
else (
bd (fX1_leave N 1 a0 w) (fun w5 =>
some ((w5.1 2 0), w5))))
def lbX3_follow_8_1 (N : Nat) (o0 : Nat) (r1 : Nat) : (Int32 × Int32 × Int32 × AW) → Option ((Int32 × Int32 × Int32 × AW) ⊕ (AW)) := fun s => match s with
  | (x3_8_1, x4_8_1, x5_8_1, w_8_1) => (
if (w_8_1.1 o0 0) ≤ x5_8_1 then (
some (.inr w_8_1))
else (
gd (inb x5_8_1 6) (
bd (fX3_usedBehind x3_8_1 x4_8_1 o0 (w_8_1.1 r1 x5_8_1.toNatClampNeg) w_8_1) (fun r4 =>
gd (inb (w_8_1.1 r1 x5_8_1.toNatClampNeg) 6) (
lw (w_8_1.1 (o0 + 3) (w_8_1.1 r1 x5_8_1.toNatClampNeg).toNatClampNeg) (fun v6 =>
bd (fX3_dayAt r4 w_8_1) (fun r8 =>
lw (setI w_8_1 48 (w_8_1.1 r1 x5_8_1.toNatClampNeg).toNatClampNeg r8) (fun w9 =>
some (.inl (r4, v6, (x5_8_1 + 1), w9))))))))))
def fX3_follow (N : Nat) (o0 : Nat) (r1 : Nat) (w : AW) : Option (AW) :=
bd (wh (lbX3_follow_8_1 N o0 r1) N (0, 0, 0, w)) (fun w11 =>
some w11)
def fX11_followPlan (N : Nat) (w : AW) : Option (AW) :=
bd (fX3_measure N 1 0 w) (fun w2 =>
bd (fX3_follow N 2 11 w2) (fun w4 =>
some w4))
def fX11_ends (N : Nat) (a0 : Int32) (w : AW) : Option (Int32 × AW) :=
bd (fX4_has 2 a0 w) (fun r2 =>
if r2 = 0 then (
some ((-1), w))
else (
bd (fX11_followPlan N w) (fun w5 =>
gd (inb a0 6) (
some ((w5.1 48 a0.toNatClampNeg), w5)))))
def fX5_fewestLate (N : Nat) (o0 : Nat) (w : AW) : Option (Int32 × AW) :=
bd2 (fX5_leastLost N 1 o0 (-9) w) (fun r2 w3 =>
some (r2, w3))
def fX11_fewest (N : Nat) (w : AW) : Option (Int32 × AW) :=
bd (fX3_measure N 1 0 w) (fun w2 =>
bd2 (fX5_fewestLate N 2 w2) (fun r4 w5 =>
some (r4, w5)))
def fX11_isJob (a0 : Int32) (a1 : Int32) (a2 : Int32) (a3 : Int32) (a4 : Int32) (w : AW) : Option (Int32) :=
bd (fX11_within a0 0 5 w) (fun r2 =>
if r2 = 0 then (
some 0)
else (
bd (fX11_within a1 1 9 w) (fun r5 =>
if r5 = 0 then (
some 0)
else (
bd (fX11_within a2 0 1 w) (fun r8 =>
if r8 = 0 then (
some 0)
else (
bd (fX11_within a3 0 60 w) (fun r11 =>
if r11 = 0 then (
some 0)
else (
bd (fX11_within a4 0 99 w) (fun r14 =>
if r14 = 0 then (
some 0)
else (
some 1))))))))))
def fX4_add (o : Nat) (a0 : Int32) (a1 : Int32) (a2 : Int32) (a3 : Int32) (a4 : Int32) (w : AW) : Option (AW) :=
if (w.1 o 0) < 6 then (
gd (inb (w.1 o 0) 6) (
lw (setI w (o + 1) (w.1 o 0).toNatClampNeg a0) (fun w3 =>
if a0 = 5 then (
gd (inb (w3.1 o 0) 6) (
lw (setI w3 (o + 2) (w3.1 o 0).toNatClampNeg ((a1 + 1) / 2)) (fun w6 =>
gd (inb (w6.1 o 0) 6) (
lw (setI w6 (o + 3) (w6.1 o 0).toNatClampNeg a2) (fun w8 =>
gd (inb (w8.1 o 0) 6) (
lw (setI w8 (o + 4) (w8.1 o 0).toNatClampNeg a3) (fun w10 =>
gd (inb (w10.1 o 0) 6) (
lw (setI w10 (o + 5) (w10.1 o 0).toNatClampNeg a4) (fun w12 =>
lw (setI w12 o 0 ((w12.1 o 0) + 1)) (fun w13 =>
some w13))))))))))
else (
gd (inb (w3.1 o 0) 6) (
lw (setI w3 (o + 2) (w3.1 o 0).toNatClampNeg a1) (fun w15 =>
gd (inb (w15.1 o 0) 6) (
lw (setI w15 (o + 3) (w15.1 o 0).toNatClampNeg a2) (fun w17 =>
gd (inb (w17.1 o 0) 6) (
lw (setI w17 (o + 4) (w17.1 o 0).toNatClampNeg a3) (fun w19 =>
gd (inb (w19.1 o 0) 6) (
lw (setI w19 (o + 5) (w19.1 o 0).toNatClampNeg a4) (fun w21 =>
lw (setI w21 o 0 ((w21.1 o 0) + 1)) (fun w22 =>
some w22)))))))))))))
else (
some w)
def fX11_gain (N : Nat) (a0 : Int32) (a1 : Int32) (a2 : Int32) (a3 : Int32) (a4 : Int32) (w : AW) : Option (Int32 × AW) :=
bd (fX11_isJob a0 a1 a2 a3 a4 w) (fun r2 =>
if r2 = 0 then (
some ((-2147483648), w))
else (
if (w.1 2 0) < 6 then (
bd (fX3_measure N 1 0 w) (fun w6 =>
bd2 (fX5_mostWorth N 2 (-9) w6) (fun r8 w9 =>
bd (fX4_copy N 61 2 w9) (fun w12 =>
bd (fX4_add 61 a0 a1 a2 a3 a4 w12) (fun w14 =>
bd2 (fX5_mostWorth N 61 (-9) w14) (fun r16 w17 =>
some ((r16 - r8), w17)))))))
else (
some ((-2147483648), w))))
def bX1_workSlot_52 (N : Nat) (b : Nat) (p1_52 : Int32) (w : AW) : Option (Int32 × AW) :=
if (w.1 b 7) ≤ 0 then (
gd (inb p1_52 6) (
lw (setI w (b + 3) p1_52.toNatClampNeg ((w.1 (b + 3) p1_52.toNatClampNeg) - 1)) (fun w8 =>
if (w8.1 (b + 3) p1_52.toNatClampNeg) ≤ 0 then (
bd (fX4_valueOf (b + 1) p1_52 (w8.1 b 5) (w8.1 (b + 7) (2 : Int32).toNatClampNeg) w8) (fun r11 =>
lw (setI w8 b 8 ((w8.1 b 8) + r11)) (fun w12 =>
bd (fX1_leave N b p1_52 w12) (fun w14 =>
some (1, w14)))))
else (
some (0, w8)))))
else (
lw (setI w b 7 ((w.1 b 7) - 1)) (fun w15 =>
some (0, w15)))
def fX1_workSlot (N : Nat) (b : Nat) (a0 : Int32) (w : AW) : Option (Int32 × AW) :=
bd (fX4_has (b + 1) a0 w) (fun r2 =>
if r2 = 0 then (
some (0, w))
else (
gd (inb a0 6) (
if (w.1 (b + 4) a0.toNatClampNeg) = (w.1 b 6) then (
bX1_workSlot_52 N b a0 w)
else (
lw (setI w b 6 (w.1 (b + 4) a0.toNatClampNeg)) (fun w16 =>
lw (setI w16 b 7 (w16.1 (b + 7) (1 : Int32).toNatClampNeg)) (fun w17 =>
bX1_workSlot_52 N b a0 w17))))))
def lbX1_workDay_13_1 (N : Nat) (b : Nat) (c2_13_1 : Int32) : (Int32 × Int32 × AW) → Option ((Int32 × Int32 × AW) ⊕ (Int32 × AW)) := fun s => match s with
  | (x1_13_1, x3_13_1, w_13_1) => (
if c2_13_1 ≤ x3_13_1 then (
some (.inr (x1_13_1, w_13_1)))
else (
if (w_13_1.1 (b + 1) 0) ≤ 0 then (
some (.inr (x1_13_1, w_13_1)))
else (
bd2 (fX1_workSlot N b (w_13_1.1 (b + 10) (0 : Int32).toNatClampNeg) w_13_1) (fun r6 w7 =>
if r6 = 0 then (
some (.inl (x1_13_1, (x3_13_1 + 1), w7)))
else (
some (.inl ((x1_13_1 + 1), (x3_13_1 + 1), w7)))))))
def fX1_workDay (N : Nat) (b : Nat) (w : AW) : Option (Int32 × AW) :=
bd (fX1_slotsOn b (w.1 b 5) w) (fun r2 =>
bd (wh (lbX1_workDay_13_1 N b r2) N (0, 0, w)) (fun q => match q with | (y11, w12) => (
lw (setI w12 b 5 ((w12.1 b 5) + 1)) (fun w13 =>
some (y11, w13)))))
def fX11_goes (N : Nat) (w : AW) : Option (Int32 × AW) :=
if (w.1 1 5) < 60 then (
bd2 (fX1_workDay N 1 w) (fun r3 w4 =>
some (r3, w4)))
else (
some ((-4), w))
def fX1_come (b : Nat) (a0 : Int32) (a1 : Int32) (a2 : Int32) (a3 : Int32) (a4 : Int32) (w : AW) : Option (Int32 × AW) :=
if (w.1 (b + 1) 0) < 6 then (
gd (inb (w.1 (b + 1) 0) 6) (
lw (setI w (b + 10) (w.1 (b + 1) 0).toNatClampNeg (w.1 (b + 1) 0)) (fun w3 =>
bd (fX4_add (b + 1) a0 a1 a2 a3 a4 w3) (fun w5 =>
some (((w5.1 (b + 1) 0) - 1), w5)))))
else (
some ((-2), w))
def fX11_job (a0 : Int32) (a1 : Int32) (a2 : Int32) (a3 : Int32) (a4 : Int32) (w : AW) : Option (Int32 × AW) :=
bd (fX11_isJob a0 a1 a2 a3 a4 w) (fun r2 =>
if r2 = 0 then (
some ((-1), w))
else (
bd2 (fX1_come 1 a0 a1 a2 a3 a4 w) (fun r5 w6 =>
some (r5, w6))))
def lbX6_firstWrong_10_1 (N : Nat) (o0 : Nat) (w_10_1 : AW) : (Int32 × Int32 × Int32 × Int32) → Option ((Int32 × Int32 × Int32 × Int32) ⊕ ((Unit) ⊕ ((Int32) ⊕ ((Int32) ⊕ (Int32))))) := fun s => match s with
  | (x2_10_1, x3_10_1, x4_10_1, x5_10_1) => (
if (w_10_1.1 59 2) ≤ x5_10_1 then (
some (.inr (.inl ())))
else (
gd (inb (x5_10_1 * 3) 18) (
lw (w_10_1.1 60 (x5_10_1 * 3).toNatClampNeg) (fun v3 =>
bd (fX4_has o0 v3 w_10_1) (fun r5 =>
if r5 = 0 then (
some (.inr (.inr (.inl x5_10_1))))
else (
if ((x4_10_1 >>> (v3 &&& 31)) &&& 1) = 0 then (
bd (fX3_usedBehind x2_10_1 x3_10_1 o0 v3 w_10_1) (fun r9 =>
gd (inb v3 6) (
bd (fX3_dayAt r9 w_10_1) (fun r12 =>
gd (inb ((x5_10_1 * 3) + 1) 18) (
if (w_10_1.1 60 ((x5_10_1 * 3) + 1).toNatClampNeg) = r12 then (
gd (inb ((x5_10_1 * 3) + 2) 18) (
bd (fX4_valueOf o0 v3 r12 (w_10_1.1 46 2) w_10_1) (fun r17 =>
if (w_10_1.1 60 ((x5_10_1 * 3) + 2).toNatClampNeg) = r17 then (
some (.inl (r9, (w_10_1.1 (o0 + 3) v3.toNatClampNeg), (x4_10_1 ||| (1 <<< (v3 &&& 31))), (x5_10_1 + 1))))
else (
some (.inr (.inr (.inr (.inr x5_10_1))))))))
else (
some (.inr (.inr (.inr (.inl x5_10_1))))))))))
else (
some (.inr (.inr (.inl x5_10_1))))))))))
def fX6_firstWrong (N : Nat) (o0 : Nat) (w : AW) : Option (Int32) :=
bd (wh (lbX6_firstWrong_10_1 N o0 w) N (0, 0, 0, 0)) (se (fun _ =>
if (w.1 o0 0) ≤ (w.1 59 2) then (
some 0)
else (
some 222)) (se (fun y21 =>
some (y21 + 1)) (se (fun y22 =>
some (y22 + 1)) (fun y23 =>
some (y23 + 1)))))
def fX11_judge (N : Nat) (w : AW) : Option (Int32 × AW) :=
bd (fX3_measure N 1 0 w) (fun w2 =>
bd (fX6_firstWrong N 2 w2) (fun r4 =>
some (r4, w2)))
def fX11_keep (N : Nat) (w : AW) : Option (Int32 × AW) :=
bd (fX1_copy N 12 1 w) (fun w2 =>
bd (fX10_copy N 30 23 w2) (fun w4 =>
lw (setI w4 0 4 1) (fun w5 =>
some (1, w5))))
def lbX11_late_8_1 (N : Nat) (w_8_1 : AW) : (Int32 × Int32) → Option ((Int32 × Int32) ⊕ (Int32)) := fun s => match s with
  | (x1_8_1, x2_8_1) => (
if (w_8_1.1 2 0) ≤ x2_8_1 then (
some (.inr x1_8_1))
else (
gd (inb x2_8_1 6) (
if (w_8_1.1 48 x2_8_1.toNatClampNeg) ≤ (w_8_1.1 6 x2_8_1.toNatClampNeg) then (
some (.inl (x1_8_1, (x2_8_1 + 1))))
else (
some (.inl ((x1_8_1 ||| (1 <<< (x2_8_1 &&& 31))), (x2_8_1 + 1)))))))
def fX11_late (N : Nat) (w : AW) : Option (Int32 × AW) :=
bd (fX11_followPlan N w) (fun w2 =>
bd (wh (lbX11_late_8_1 N w2) N (0, 0)) (fun y7 =>
some (y7, w2)))
def fX11_lose (a0 : Int32) (a1 : Int32) (w : AW) : Option (Int32 × AW) :=
bd (fX11_within a0 0 60 w) (fun r2 =>
if r2 = 0 then (
some ((-1), w))
else (
bd (fX11_within a1 0 9 w) (fun r5 =>
if r5 = 0 then (
some ((-1), w))
else (
gd (inb a0 61) (
lw (setI w 9 a0.toNatClampNeg a1) (fun w8 =>
some ((w.1 9 a0.toNatClampNeg), w8)))))))
def fX11_many (a0 : Int32) (w : AW) : Option (Int32) :=
if a0 = 0 then (
some (w.1 2 0))
else (if a0 = 1 then (
some (w.1 23 0))
else (if a0 = 2 then (
some (w.1 59 2))
else (if a0 = 3 then (
some (w.1 37 1))
else (if a0 = 4 then (
some (w.1 74 5))
else (
some (-1))))))
def lbX11_partOf_5_1 (N : Nat) (c2_5_1 : Int32) (w_5_1 : AW) : (Int32 × Int32) → Option ((Int32 × Int32) ⊕ (Int32 × Int32)) := fun s => match s with
  | (x3_5_1, x4_5_1) => (
if x3_5_1 ≤ 0 then (
some (.inr (x3_5_1, x4_5_1)))
else (
if (x4_5_1 - x4_5_1 / 2 * 2) = 0 then (
some (.inl ((x3_5_1 + (-1)), (x4_5_1 / 2))))
else (
some (.inr (x3_5_1, x4_5_1)))))
def fX11_partOf (N : Nat) (a0 : Int32) (a1 : Int32) (a2 : Int32) (w : AW) : Option (Int32) :=
bd (wh (lbX11_partOf_5_1 N a2 w) N (a1, a0)) (fun q => match q with | (y4, y5) => (
if a2 = 0 then (
some y5)
else (
some (1 <<< (y4 &&& 31)))))
def fX2_begin (a0 : Int32) (w : AW) : Option (AW) :=
gd (isb a0) (
lw (setI w 52 6 a0) (fun w1 =>
lw (setI w1 53 (1 : Int32).toNatClampNeg 0) (fun w3 =>
lw (setI w3 54 (1 : Int32).toNatClampNeg 1) (fun w4 =>
lw (setI w4 55 (0 : Int32).toNatClampNeg 1) (fun w5 =>
some w5)))))
def lbX2_spread_62_2 (N : Nat) (o0 : Nat) (c2_62_2 : Int32) (c3_62_2 : Int32) (c4_62_2 : Int32) (c5_62_2 : Int32) (c6_62_2 : Int32) (c9_62_2 : Int32) : (Int32 × Int32 × Int32 × Int32 × AW) → Option ((Int32 × Int32 × Int32 × Int32 × AW) ⊕ (Int32 × Int32 × AW)) := fun s => match s with
  | (x7_62_2, x8_62_2, x10_62_2, x11_62_2, w_62_2) => (
if 2 ≤ x11_62_2 then (
some (.inr (x7_62_2, x8_62_2, w_62_2)))
else (
gd (inb (c5_62_2 + c9_62_2) 128) (
if x11_62_2 = 0 then (
lw ((w_62_2.1 54 (c5_62_2 + c9_62_2).toNatClampNeg) * (4 - (w_62_2.1 46 3))) (fun v10 =>
bd (fX3_dayAt x10_62_2 w_62_2) (fun r12 =>
if v10 ≤ 0 then (
gd (inb c4_62_2 6) (
lw (x10_62_2 + (w_62_2.1 (o0 + 2) c4_62_2.toNatClampNeg)) (fun v15 =>
some (.inl (x7_62_2, x8_62_2, v15, (x11_62_2 + 1), w_62_2)))))
else (
if (w_62_2.1 52 6) = 0 then (
gd (inb c4_62_2 6) (
if (w_62_2.1 (o0 + 4) c4_62_2.toNatClampNeg) < r12 then (
lw (x10_62_2 + (w_62_2.1 (o0 + 2) c4_62_2.toNatClampNeg)) (fun v19 =>
some (.inl (x7_62_2, x8_62_2, v19, (x11_62_2 + 1), w_62_2))))
else (
gd (inb (c6_62_2 + x7_62_2) 128) (
lw (setI w_62_2 53 (c6_62_2 + x7_62_2).toNatClampNeg x10_62_2) (fun w21 =>
lw (setI w21 54 (c6_62_2 + x7_62_2).toNatClampNeg v10) (fun w22 =>
bd (fX4_valueOf o0 c4_62_2 r12 (w22.1 46 2) w22) (fun r24 =>
lw (setI w22 52 7 ((w22.1 52 7) + (v10 * r24))) (fun w25 =>
lw (x10_62_2 + (w25.1 (o0 + 2) c4_62_2.toNatClampNeg)) (fun v26 =>
some (.inl ((x7_62_2 + 1), (x8_62_2 + v10), v26, (x11_62_2 + 1), w25)))))))))))
else (
gd (inb (c6_62_2 + x7_62_2) 128) (
lw (setI w_62_2 53 (c6_62_2 + x7_62_2).toNatClampNeg x10_62_2) (fun w28 =>
lw (setI w28 54 (c6_62_2 + x7_62_2).toNatClampNeg v10) (fun w29 =>
bd (fX4_valueOf o0 c4_62_2 r12 (w29.1 46 2) w29) (fun r31 =>
lw (setI w29 52 7 ((w29.1 52 7) + (v10 * r31))) (fun w32 =>
gd (inb c4_62_2 6) (
lw (x10_62_2 + (w32.1 (o0 + 2) c4_62_2.toNatClampNeg)) (fun v34 =>
some (.inl ((x7_62_2 + 1), (x8_62_2 + v10), v34, (x11_62_2 + 1), w32))))))))))))))
else (
lw ((w_62_2.1 54 (c5_62_2 + c9_62_2).toNatClampNeg) * (w_62_2.1 46 3)) (fun v35 =>
bd (fX3_dayAt x10_62_2 w_62_2) (fun r37 =>
if v35 ≤ 0 then (
gd (inb c4_62_2 6) (
lw (x10_62_2 + (w_62_2.1 (o0 + 2) c4_62_2.toNatClampNeg)) (fun v40 =>
some (.inl (x7_62_2, x8_62_2, v40, (x11_62_2 + 1), w_62_2)))))
else (
if (w_62_2.1 52 6) = 0 then (
gd (inb c4_62_2 6) (
if (w_62_2.1 (o0 + 4) c4_62_2.toNatClampNeg) < r37 then (
lw (x10_62_2 + (w_62_2.1 (o0 + 2) c4_62_2.toNatClampNeg)) (fun v44 =>
some (.inl (x7_62_2, x8_62_2, v44, (x11_62_2 + 1), w_62_2))))
else (
gd (inb (c6_62_2 + x7_62_2) 128) (
lw (setI w_62_2 53 (c6_62_2 + x7_62_2).toNatClampNeg x10_62_2) (fun w46 =>
lw (setI w46 54 (c6_62_2 + x7_62_2).toNatClampNeg v35) (fun w47 =>
bd (fX4_valueOf o0 c4_62_2 r37 (w47.1 46 2) w47) (fun r49 =>
lw (setI w47 52 7 ((w47.1 52 7) + (v35 * r49))) (fun w50 =>
lw (x10_62_2 + (w50.1 (o0 + 2) c4_62_2.toNatClampNeg)) (fun v51 =>
some (.inl ((x7_62_2 + 1), (x8_62_2 + v35), v51, (x11_62_2 + 1), w50)))))))))))
else (
gd (inb (c6_62_2 + x7_62_2) 128) (
lw (setI w_62_2 53 (c6_62_2 + x7_62_2).toNatClampNeg x10_62_2) (fun w53 =>
lw (setI w53 54 (c6_62_2 + x7_62_2).toNatClampNeg v35) (fun w54 =>
bd (fX4_valueOf o0 c4_62_2 r37 (w54.1 46 2) w54) (fun r56 =>
lw (setI w54 52 7 ((w54.1 52 7) + (v35 * r56))) (fun w57 =>
gd (inb c4_62_2 6) (
lw (x10_62_2 + (w57.1 (o0 + 2) c4_62_2.toNatClampNeg)) (fun v59 =>
some (.inl ((x7_62_2 + 1), (x8_62_2 + v35), v59, (x11_62_2 + 1), w57)))))))))))))))))
def lbX2_spread_25_1 (N : Nat) (o0 : Nat) (c2_25_1 : Int32) (c3_25_1 : Int32) (c4_25_1 : Int32) (c5_25_1 : Int32) (c6_25_1 : Int32) : (Int32 × Int32 × Int32 × AW) → Option ((Int32 × Int32 × Int32 × AW) ⊕ (Int32 × Int32 × AW)) := fun s => match s with
  | (x7_25_1, x8_25_1, x9_25_1, w_25_1) => (
gd (inb c2_25_1 7) (
if (w_25_1.1 55 c2_25_1.toNatClampNeg) ≤ x9_25_1 then (
some (.inr (x7_25_1, x8_25_1, w_25_1)))
else (
gd (inb (c5_25_1 + x9_25_1) 128) (
bd (fX3_usedBehind (w_25_1.1 53 (c5_25_1 + x9_25_1).toNatClampNeg) c3_25_1 o0 c4_25_1 w_25_1) (fun r6 =>
bd (wh (lbX2_spread_62_2 N o0 c2_25_1 c3_25_1 c4_25_1 c5_25_1 c6_25_1 x9_25_1) N (x7_25_1, x8_25_1, r6, 0, w_25_1)) (fun q => match q with | (y61, y62, w63) => (
some (.inl (y61, y62, (x9_25_1 + 1), w63)))))))))
def fX2_spread (N : Nat) (o0 : Nat) (a1 : Int32) (a2 : Int32) (a3 : Int32) (w : AW) : Option (Int32 × AW) :=
lw (setI w 52 7 0) (fun w1 =>
bd (wh (lbX2_spread_25_1 N o0 a1 a2 a3 (1 <<< (a1 &&& 31)) ((1 <<< (a1 &&& 31)) * 2)) N (0, 0, 0, w1)) (fun q => match q with | (y65, y66, w67) => (
gd (inb (a1 + 1) 7) (
lw (setI w67 55 (a1 + 1).toNatClampNeg y65) (fun w69 =>
some (y66, w69))))))
def lbX2_meanOf_10_1 (N : Nat) (o0 : Nat) (r1 : Nat) : (Int32 × Int32 × AW) → Option ((Int32 × Int32 × AW) ⊕ (Int32 × AW)) := fun s => match s with
  | (x3_10_1, x4_10_1, w_10_1) => (
if (w_10_1.1 o0 0) ≤ x4_10_1 then (
some (.inr (x3_10_1, w_10_1)))
else (
if x4_10_1 = 0 then (
gd (inb x4_10_1 6) (
bd2 (fX2_spread N o0 x4_10_1 0 (w_10_1.1 r1 x4_10_1.toNatClampNeg) w_10_1) (fun r7 w8 =>
some (.inl (((x3_10_1 * 4) + (w8.1 52 7)), (x4_10_1 + 1), w8)))))
else (
gd (inb (x4_10_1 - 1) 6) (
gd (inb (w_10_1.1 r1 (x4_10_1 - 1).toNatClampNeg) 6) (
gd (inb x4_10_1 6) (
bd2 (fX2_spread N o0 x4_10_1 (w_10_1.1 (o0 + 3) (w_10_1.1 r1 (x4_10_1 - 1).toNatClampNeg).toNatClampNeg) (w_10_1.1 r1 x4_10_1.toNatClampNeg) w_10_1) (fun r14 w15 =>
some (.inl (((x3_10_1 * 4) + (w15.1 52 7)), (x4_10_1 + 1), w15)))))))))
def fX2_meanOf (N : Nat) (o0 : Nat) (r1 : Nat) (w : AW) : Option (Int32 × AW) :=
bd (fX2_begin 1 w) (fun w2 =>
bd (wh (lbX2_meanOf_10_1 N o0 r1) N (0, 0, w2)) (fun q => match q with | (y18, w19) => (
some (y18, w19))))
def fX11_mean (N : Nat) (a0 : Int32) (w : AW) : Option (Int32 × AW) :=
bd (fX11_within a0 0 1 w) (fun r2 =>
if r2 = 0 then (
some ((-2147483648), w))
else (
bd (fX3_measure N 1 0 w) (fun w5 =>
bd2 (fX2_meanOf N 2 11 w5) (fun r7 w8 =>
bd (fX11_partOf N r7 (2 * (w8.1 2 0)) a0 w8) (fun r11 =>
some (r11, w8))))))
def fX11_night (a0 : Int32) (a1 : Int32) (w : AW) : Option (Int32 × AW) :=
bd (fX11_within a0 0 60 w) (fun r2 =>
if r2 = 0 then (
some ((-1), w))
else (
bd (fX11_within a1 0 9 w) (fun r5 =>
if r5 = 0 then (
some ((-1), w))
else (
gd (inb a0 61) (
lw (setI w 10 a0.toNatClampNeg a1) (fun w8 =>
some ((w.1 10 a0.toNatClampNeg), w8)))))))
def lbX11_nights_2_1 (N : Nat) : (Int32 × AW) → Option ((Int32 × AW) ⊕ ((AW) ⊕ (Int32 × AW))) := fun s => match s with
  | (x1_2_1, w_2_1) => (
if 9 < x1_2_1 then (
some (.inr (.inl w_2_1)))
else (
bd (fX3_measure N 1 x1_2_1 w_2_1) (fun w3 =>
bd2 (fX5_fewestLate N 2 w3) (fun r5 w6 =>
if r5 = 0 then (
some (.inr (.inr (x1_2_1, w6))))
else (
some (.inl ((x1_2_1 + 1), w6)))))))
def fX11_nights (N : Nat) (w : AW) : Option (Int32 × AW) :=
bd (wh (lbX11_nights_2_1 N) N (0, w)) (se (fun w10 =>
some ((-3), w10)) (fun q => match q with | (y11, w12) => (
some (y11, w12))))
def lbX1_arrange_24_1 (N : Nat) (b : Nat) (c1_24_1 : Int32) (w_24_1 : AW) : (Int32 × Int32) → Option ((Int32 × Int32) ⊕ (Int32)) := fun s => match s with
  | (x2_24_1, x3_24_1) => (
if (w_24_1.1 (b + 1) 0) ≤ x3_24_1 then (
some (.inr x2_24_1))
else (
lw (x2_24_1 ||| (1 <<< (((c1_24_1 >>> ((3 * x3_24_1) &&& 31)) &&& 7) &&& 31))) (fun v4 =>
some (.inl (v4, (x3_24_1 + 1))))))
def lbX1_arrange_73_2 (N : Nat) (b : Nat) (c1_73_2 : Int32) : (Int32 × AW) → Option ((Int32 × AW) ⊕ (AW)) := fun s => match s with
  | (x3_73_2, w_73_2) => (
if (w_73_2.1 (b + 1) 0) ≤ x3_73_2 then (
some (.inr w_73_2))
else (
gd (inb x3_73_2 6) (
lw (setI w_73_2 (b + 10) x3_73_2.toNatClampNeg ((c1_73_2 >>> ((3 * x3_73_2) &&& 31)) &&& 7)) (fun w10 =>
some (.inl ((x3_73_2 + 1), w10))))))
def fX1_arrange (N : Nat) (b : Nat) (a0 : Int32) (w : AW) : Option (Int32 × AW) :=
if a0 < 0 then (
some (0, w))
else (
if (a0 >>> ((3 * (w.1 (b + 1) 0)) &&& 31)) = 0 then (
bd (wh (lbX1_arrange_24_1 N b a0 w) N (0, 0)) (fun y6 =>
if y6 = ((1 <<< ((w.1 (b + 1) 0) &&& 31)) - 1) then (
bd (wh (lbX1_arrange_73_2 N b a0) N (0, w)) (fun w12 =>
some (1, w12)))
else (
some (0, w))))
else (
some (0, w)))
def fX11_plan (N : Nat) (a0 : Int32) (w : AW) : Option (Int32 × AW) :=
bd2 (fX1_arrange N 1 a0 w) (fun r2 w3 =>
if r2 = 0 then (
some ((-1), w3))
else (
some (1, w3)))
def fX11_press (a0 : Int32) (w : AW) : Option (Int32) :=
if a0 = 0 then (
some (w.1 1 5))
else (if a0 = 1 then (
some (w.1 1 6))
else (if a0 = 2 then (
some (w.1 1 7))
else (
some (-1))))
def lbX6_fill_19_1 (N : Nat) (o0 : Nat) (r1 : Nat) : (Int32 × AW) → Option ((Int32 × AW) ⊕ (AW)) := fun s => match s with
  | (x3_19_1, w_19_1) => (
if (w_19_1.1 o0 0) ≤ x3_19_1 then (
some (.inr w_19_1))
else (
gd (inb x3_19_1 6) (
gd (inb (x3_19_1 * 3) 18) (
lw (setI w_19_1 60 (x3_19_1 * 3).toNatClampNeg (w_19_1.1 r1 x3_19_1.toNatClampNeg)) (fun w7 =>
gd (inb (w_19_1.1 r1 x3_19_1.toNatClampNeg) 6) (
gd (inb ((x3_19_1 * 3) + 1) 18) (
lw (setI w7 60 ((x3_19_1 * 3) + 1).toNatClampNeg (w7.1 48 (w_19_1.1 r1 x3_19_1.toNatClampNeg).toNatClampNeg)) (fun w10 =>
bd (fX4_valueOf o0 (w_19_1.1 r1 x3_19_1.toNatClampNeg) (w10.1 48 (w_19_1.1 r1 x3_19_1.toNatClampNeg).toNatClampNeg) (w10.1 46 2) w10) (fun r12 =>
gd (inb ((x3_19_1 * 3) + 2) 18) (
lw (setI w10 60 ((x3_19_1 * 3) + 2).toNatClampNeg r12) (fun w14 =>
some (.inl ((x3_19_1 + 1), w14)))))))))))))
def fX6_fill (N : Nat) (o0 : Nat) (r1 : Nat) (w : AW) : Option (AW) :=
bd (fX3_follow N o0 r1 w) (fun w2 =>
lw (setI w2 59 2 (w2.1 o0 0)) (fun w3 =>
bd (wh (lbX6_fill_19_1 N o0 r1) N (0, w3)) (fun w16 =>
some w16)))
def fX11_prove (N : Nat) (w : AW) : Option (Int32 × AW) :=
bd (fX3_measure N 1 0 w) (fun w2 =>
bd2 (fX5_mostWorth N 2 (-9) w2) (fun r4 w5 =>
bd (fX6_fill N 2 51 w5) (fun w8 =>
some ((w8.1 59 2), w8))))
def fX6_has (a0 : Int32) (a1 : Int32) (w : AW) : Option (Int32) :=
bd (fX11_within a0 0 ((w.1 59 2) - 1) w) (fun r2 =>
if r2 = 0 then (
some 0)
else (
bd (fX11_within a1 0 2 w) (fun r5 =>
if r5 = 0 then (
some 0)
else (
some 1))))
def fX11_row (a0 : Int32) (a1 : Int32) (w : AW) : Option (Int32) :=
bd (fX6_has a0 a1 w) (fun r2 =>
if r2 = 0 then (
some (-2147483648))
else (
gd (inb ((a0 * 3) + a1) 18) (
some (w.1 60 ((a0 * 3) + a1).toNatClampNeg))))
def lbX2_walk_52_1 (N : Nat) (rec : Nat → Int32 → Int32 → Int32 → Int32 → AW → Option (AW)) (o0 : Nat) (c2_52_1 : Int32) (c3_52_1 : Int32) (c4_52_1 : Int32) : (Int32 × AW) → Option ((Int32 × AW) ⊕ (AW)) := fun s => match s with
  | (x6_52_1, w_52_1) => (
if (w_52_1.1 o0 0) ≤ x6_52_1 then (
some (.inr w_52_1))
else (
if ((c4_52_1 >>> (x6_52_1 &&& 31)) &&& 1) = 0 then (
gd (inb c2_52_1 6) (
lw (setI w_52_1 56 c2_52_1.toNatClampNeg x6_52_1) (fun w6 =>
gd (inb x6_52_1 6) (
bd2 (fX2_spread N o0 c2_52_1 c3_52_1 x6_52_1 w6) (fun r9 w10 =>
bd (rec o0 (c2_52_1 + 1) (w6.1 (o0 + 3) x6_52_1.toNatClampNeg) (c4_52_1 ||| (1 <<< (x6_52_1 &&& 31))) r9 w10) (fun w13 =>
some (.inl ((x6_52_1 + 1), w13))))))))
else (
some (.inl ((x6_52_1 + 1), w_52_1)))))
def fX2_walk_b (N : Nat) (rec : Nat → Int32 → Int32 → Int32 → Int32 → AW → Option (AW)) (o0 : Nat) (a1 : Int32) (a2 : Int32) (a3 : Int32) (a4 : Int32) (w : AW) : Option (AW) :=
if (w.1 52 8) < (a4 <<< ((2 * ((w.1 o0 0) - a1)) &&& 31)) then (
if a1 < (w.1 o0 0) then (
bd (wh (lbX2_walk_52_1 N rec o0 a1 a2 a3) N (0, w)) (fun w15 =>
some w15))
else (
lw (setI w 52 8 a4) (fun w16 =>
lw (cpyI w16 56 (0 : Int32).toNatClampNeg 57 (0 : Int32).toNatClampNeg (6 : Int32).toNatClampNeg) (fun w17 =>
some w17))))
else (
some w)
def fX2_walk (N : Nat) : Nat → Nat → Int32 → Int32 → Int32 → Int32 → AW → Option (AW)
  | 0, o0, a1, a2, a3, a4, w => none
  | n + 1, o0, a1, a2, a3, a4, w => fX2_walk_b N (fun o0 a1 a2 a3 a4 w => fX2_walk N n o0 a1 a2 a3 a4 w) o0 a1 a2 a3 a4 w
def fX2_surest (N : Nat) (o0 : Nat) (w : AW) : Option (Int32 × AW) :=
bd (fX2_begin 0 w) (fun w2 =>
lw (setI w2 52 8 (-1)) (fun w3 =>
bd (fX2_walk N 8 o0 0 0 0 1 w3) (fun w5 =>
some ((w5.1 52 8), w5))))
def fX11_safest (N : Nat) (a0 : Int32) (w : AW) : Option (Int32 × AW) :=
bd (fX11_within a0 0 2 w) (fun r2 =>
if r2 = 0 then (
some ((-1), w))
else (
bd (fX3_measure N 1 0 w) (fun w5 =>
bd2 (fX2_surest N 2 w5) (fun r7 w8 =>
if a0 = 0 then (
bd (fX11_digitsOf N 57 (w8.1 2 0) w8) (fun r12 =>
some (r12, w8)))
else (
bd (fX11_partOf N r7 (2 * (w8.1 2 0)) (a0 - 1) w8) (fun r14 =>
some (r14, w8)))))))
def fX11_set (a0 : Int32) (a1 : Int32) (w : AW) : Option (Int32 × AW) :=
bd (fX11_within a0 0 3 w) (fun r2 =>
if r2 = 0 then (
some ((-1), w))
else (
gd (inb a0 4) (
gd (inb a0 4) (
bd (fX11_within a1 (leastS a0.toNatClampNeg) (mostS a0.toNatClampNeg) w) (fun r7 =>
if r7 = 0 then (
some ((-1), w))
else (
gd (inb a0 4) (
lw (setI w 8 a0.toNatClampNeg a1) (fun w10 =>
some ((w.1 8 a0.toNatClampNeg), w10)))))))))
def fX5_soonestEnd (N : Nat) (o0 : Nat) (w : AW) : Option (Int32 × AW) :=
bd2 (fX5_leastLost N 2 o0 (-9) w) (fun r2 w3 =>
some (r2, w3))
def fX11_soonest (N : Nat) (a0 : Int32) (a1 : Int32) (a2 : Int32) (w : AW) : Option (Int32 × AW) :=
bd (fX11_isJob a0 a1 a2 0 0 w) (fun r2 =>
if r2 = 0 then (
some ((-1), w))
else (
if (w.1 2 0) < 6 then (
bd (fX3_measure N 1 0 w) (fun w6 =>
bd (fX4_copy N 61 2 w6) (fun w8 =>
bd (fX4_add 61 a0 a1 a2 60 0 w8) (fun w10 =>
bd2 (fX5_soonestEnd N 61 w10) (fun r12 w13 =>
if 60 < r12 then (
some ((-3), w13))
else (
some (r12, w13)))))))
else (
some ((-2), w))))
def lbX2_sureOf_10_1 (N : Nat) (o0 : Nat) (r1 : Nat) : (Int32 × Int32 × AW) → Option ((Int32 × Int32 × AW) ⊕ (Int32 × AW)) := fun s => match s with
  | (x3_10_1, x4_10_1, w_10_1) => (
if (w_10_1.1 o0 0) ≤ x4_10_1 then (
some (.inr (x3_10_1, w_10_1)))
else (
if x4_10_1 = 0 then (
gd (inb x4_10_1 6) (
bd2 (fX2_spread N o0 x4_10_1 0 (w_10_1.1 r1 x4_10_1.toNatClampNeg) w_10_1) (fun r7 w8 =>
some (.inl (r7, (x4_10_1 + 1), w8)))))
else (
gd (inb (x4_10_1 - 1) 6) (
gd (inb (w_10_1.1 r1 (x4_10_1 - 1).toNatClampNeg) 6) (
gd (inb x4_10_1 6) (
bd2 (fX2_spread N o0 x4_10_1 (w_10_1.1 (o0 + 3) (w_10_1.1 r1 (x4_10_1 - 1).toNatClampNeg).toNatClampNeg) (w_10_1.1 r1 x4_10_1.toNatClampNeg) w_10_1) (fun r14 w15 =>
some (.inl (r14, (x4_10_1 + 1), w15)))))))))
def fX2_sureOf (N : Nat) (o0 : Nat) (r1 : Nat) (w : AW) : Option (Int32 × AW) :=
bd (fX2_begin 0 w) (fun w2 =>
bd (wh (lbX2_sureOf_10_1 N o0 r1) N (1, 0, w2)) (fun q => match q with | (y18, w19) => (
some (y18, w19))))
def fX11_sure (N : Nat) (a0 : Int32) (w : AW) : Option (Int32 × AW) :=
bd (fX11_within a0 0 1 w) (fun r2 =>
if r2 = 0 then (
some ((-1), w))
else (
bd (fX3_measure N 1 0 w) (fun w5 =>
bd2 (fX2_sureOf N 2 11 w5) (fun r7 w8 =>
bd (fX11_partOf N r7 (2 * (w8.1 2 0)) a0 w8) (fun r11 =>
some (r11, w8))))))
def fX11_till (w : AW) : Option (Int32) :=
some (w.1 1 8)
def lbX11_worth_8_1 (N : Nat) (w_8_1 : AW) : (Int32 × Int32) → Option ((Int32 × Int32) ⊕ (Int32)) := fun s => match s with
  | (x1_8_1, x2_8_1) => (
if (w_8_1.1 2 0) ≤ x2_8_1 then (
some (.inr x1_8_1))
else (
gd (inb x2_8_1 6) (
bd (fX4_valueOf 2 x2_8_1 (w_8_1.1 48 x2_8_1.toNatClampNeg) (w_8_1.1 46 2) w_8_1) (fun r6 =>
some (.inl ((x1_8_1 + r6), (x2_8_1 + 1)))))))
def fX11_worth (N : Nat) (w : AW) : Option (Int32 × AW) :=
bd (fX11_followPlan N w) (fun w2 =>
bd (wh (lbX11_worth_8_1 N w2) N (0, 0)) (fun y8 =>
some (y8, w2)))
def fL_at (S : SC) (a1 : Int32) (w : AW) : Option (Int32) :=
if (Int32.ofNat S.1) ≤ a1 then (
some ((37 * a1) + 11))
else (
gd (inb a1 S.1) (
some (S.2 a1.toNatClampNeg)))
def lbL_isOrder_4_1 (N : Nat) (c0_4_1 : Int32) (c1_4_1 : Int32) (w_4_1 : AW) : (Int32 × Int32) → Option ((Int32 × Int32) ⊕ (Int32)) := fun s => match s with
  | (x2_4_1, x3_4_1) => (
if c1_4_1 ≤ x3_4_1 then (
some (.inr x2_4_1))
else (
lw (x2_4_1 ||| (1 <<< (((c0_4_1 >>> ((3 * x3_4_1) &&& 31)) &&& 7) &&& 31))) (fun v2 =>
some (.inl (v2, (x3_4_1 + 1))))))
def fL_isOrder (N : Nat) (a0 : Int32) (a1 : Int32) (w : AW) : Option (Int32) :=
bd (wh (lbL_isOrder_4_1 N a0 a1 w) N (0, 0)) (fun y4 =>
if y4 = ((1 <<< (a1 &&& 31)) - 1) then (
if (a0 >>> ((3 * a1) &&& 31)) = 0 then (
some 1)
else (
some 0))
else (
some 0))
def fL_mod (a0 : Int32) (a1 : Int32) (w : AW) : Option (Int32) :=
gd (decide (¬ a1 = 0)) (
if 0 ≤ (a0 - a0 / a1 * a1) then (
some (a0 - a0 / a1 * a1))
else (
some ((a0 - a0 / a1 * a1) + a1)))
def lbL_lay_114_1 (N : Nat) (S : SC) (c2_114_1 : Int32) : (Int32 × AW) → Option ((Int32 × AW) ⊕ ((AW) ⊕ (AW))) := fun s => match s with
  | (x8_114_1, w_114_1) => (
if 10 ≤ x8_114_1 then (
some (.inr (.inl w_114_1)))
else (
bd (fL_at S 1 w_114_1) (fun r37 =>
if ((r37 >>> ((3 * x8_114_1) &&& 31)) &&& 7) = 1 then (
gd (inb x8_114_1 10) (
lw (setI w_114_1 78 x8_114_1.toNatClampNeg 2) (fun w40 =>
if ((r37 >>> ((3 * x8_114_1) &&& 31)) &&& 7) = 3 then (
lw (setI w40 79 x8_114_1.toNatClampNeg 1) (fun w42 =>
bd2 (fX11_lose x8_114_1 (w42.1 78 x8_114_1.toNatClampNeg) w42) (fun r44 w45 =>
if r44 = 0 then (
bd2 (fX11_night x8_114_1 (w45.1 79 x8_114_1.toNatClampNeg) w45) (fun r49 w50 =>
if r49 = 0 then (
some (.inl ((x8_114_1 + 1), w50)))
else (
some (.inr (.inr w50)))))
else (
some (.inr (.inr w45))))))
else (
lw (setI w40 79 x8_114_1.toNatClampNeg 0) (fun w53 =>
bd2 (fX11_lose x8_114_1 (w53.1 78 x8_114_1.toNatClampNeg) w53) (fun r55 w56 =>
if r55 = 0 then (
bd2 (fX11_night x8_114_1 (w56.1 79 x8_114_1.toNatClampNeg) w56) (fun r60 w61 =>
if r60 = 0 then (
some (.inl ((x8_114_1 + 1), w61)))
else (
some (.inr (.inr w61)))))
else (
some (.inr (.inr w56)))))))))
else (
if ((r37 >>> ((3 * x8_114_1) &&& 31)) &&& 7) = 2 then (
gd (inb x8_114_1 10) (
lw (setI w_114_1 78 x8_114_1.toNatClampNeg 1) (fun w66 =>
if ((r37 >>> ((3 * x8_114_1) &&& 31)) &&& 7) = 3 then (
lw (setI w66 79 x8_114_1.toNatClampNeg 1) (fun w68 =>
bd2 (fX11_lose x8_114_1 (w68.1 78 x8_114_1.toNatClampNeg) w68) (fun r70 w71 =>
if r70 = 0 then (
bd2 (fX11_night x8_114_1 (w71.1 79 x8_114_1.toNatClampNeg) w71) (fun r75 w76 =>
if r75 = 0 then (
some (.inl ((x8_114_1 + 1), w76)))
else (
some (.inr (.inr w76)))))
else (
some (.inr (.inr w71))))))
else (
lw (setI w66 79 x8_114_1.toNatClampNeg 0) (fun w79 =>
bd2 (fX11_lose x8_114_1 (w79.1 78 x8_114_1.toNatClampNeg) w79) (fun r81 w82 =>
if r81 = 0 then (
bd2 (fX11_night x8_114_1 (w82.1 79 x8_114_1.toNatClampNeg) w82) (fun r86 w87 =>
if r86 = 0 then (
some (.inl ((x8_114_1 + 1), w87)))
else (
some (.inr (.inr w87)))))
else (
some (.inr (.inr w82)))))))))
else (
gd (inb x8_114_1 10) (
lw (setI w_114_1 78 x8_114_1.toNatClampNeg 0) (fun w91 =>
if ((r37 >>> ((3 * x8_114_1) &&& 31)) &&& 7) = 3 then (
lw (setI w91 79 x8_114_1.toNatClampNeg 1) (fun w93 =>
bd2 (fX11_lose x8_114_1 (w93.1 78 x8_114_1.toNatClampNeg) w93) (fun r95 w96 =>
if r95 = 0 then (
bd2 (fX11_night x8_114_1 (w96.1 79 x8_114_1.toNatClampNeg) w96) (fun r100 w101 =>
if r100 = 0 then (
some (.inl ((x8_114_1 + 1), w101)))
else (
some (.inr (.inr w101)))))
else (
some (.inr (.inr w96))))))
else (
lw (setI w91 79 x8_114_1.toNatClampNeg 0) (fun w104 =>
bd2 (fX11_lose x8_114_1 (w104.1 78 x8_114_1.toNatClampNeg) w104) (fun r106 w107 =>
if r106 = 0 then (
bd2 (fX11_night x8_114_1 (w107.1 79 x8_114_1.toNatClampNeg) w107) (fun r111 w112 =>
if r111 = 0 then (
some (.inl ((x8_114_1 + 1), w112)))
else (
some (.inr (.inr w112)))))
else (
some (.inr (.inr w107)))))))))))))
def lbL_lay_223_2 (N : Nat) (S : SC) (c2_223_2 : Int32) : (Int32 × AW) → Option ((Int32 × AW) ⊕ ((AW) ⊕ (AW))) := fun s => match s with
  | (x8_223_2, w_223_2) => (
if c2_223_2 ≤ x8_223_2 then (
some (.inr (.inl w_223_2)))
else (
bd (fL_at S (2 + x8_223_2) w_223_2) (fun r119 =>
bd (fL_mod (r119 >>> (3 &&& 31)) 9 w_223_2) (fun r121 =>
bd (fL_mod r119 6 w_223_2) (fun r123 =>
gd (inb (5 * x8_223_2) 30) (
lw (setI w_223_2 76 (5 * x8_223_2).toNatClampNeg r123) (fun w125 =>
if (w125.1 76 (5 * x8_223_2).toNatClampNeg) = 5 then (
gd (inb ((5 * x8_223_2) + 1) 30) (
lw (setI w125 76 ((5 * x8_223_2) + 1).toNatClampNeg (((1 + r121) + 1) / 2)) (fun w128 =>
gd (inb ((5 * x8_223_2) + 2) 30) (
lw (setI w128 76 ((5 * x8_223_2) + 2).toNatClampNeg ((r119 >>> (7 &&& 31)) &&& 1)) (fun w130 =>
bd (fL_mod (r119 >>> (8 &&& 31)) 16 w130) (fun r132 =>
gd (inb ((5 * x8_223_2) + 3) 30) (
lw (setI w130 76 ((5 * x8_223_2) + 3).toNatClampNeg r132) (fun w134 =>
bd (fL_mod (r119 >>> (12 &&& 31)) 100 w134) (fun r136 =>
gd (inb ((5 * x8_223_2) + 4) 30) (
lw (setI w134 76 ((5 * x8_223_2) + 4).toNatClampNeg r136) (fun w138 =>
bd2 (fX11_job (w138.1 76 (5 * x8_223_2).toNatClampNeg) (1 + r121) (w138.1 76 ((5 * x8_223_2) + 2).toNatClampNeg) (w138.1 76 ((5 * x8_223_2) + 3).toNatClampNeg) (w138.1 76 ((5 * x8_223_2) + 4).toNatClampNeg) w138) (fun r140 w141 =>
if r140 = x8_223_2 then (
some (.inl ((x8_223_2 + 1), w141)))
else (
some (.inr (.inr w141)))))))))))))))
else (
gd (inb ((5 * x8_223_2) + 1) 30) (
lw (setI w125 76 ((5 * x8_223_2) + 1).toNatClampNeg (1 + r121)) (fun w145 =>
gd (inb ((5 * x8_223_2) + 2) 30) (
lw (setI w145 76 ((5 * x8_223_2) + 2).toNatClampNeg ((r119 >>> (7 &&& 31)) &&& 1)) (fun w147 =>
bd (fL_mod (r119 >>> (8 &&& 31)) 16 w147) (fun r149 =>
gd (inb ((5 * x8_223_2) + 3) 30) (
lw (setI w147 76 ((5 * x8_223_2) + 3).toNatClampNeg r149) (fun w151 =>
bd (fL_mod (r119 >>> (12 &&& 31)) 100 w151) (fun r153 =>
gd (inb ((5 * x8_223_2) + 4) 30) (
lw (setI w151 76 ((5 * x8_223_2) + 4).toNatClampNeg r153) (fun w155 =>
bd2 (fX11_job (w155.1 76 (5 * x8_223_2).toNatClampNeg) (1 + r121) (w155.1 76 ((5 * x8_223_2) + 2).toNatClampNeg) (w155.1 76 ((5 * x8_223_2) + 3).toNatClampNeg) (w155.1 76 ((5 * x8_223_2) + 4).toNatClampNeg) w155) (fun r157 w158 =>
if r157 = x8_223_2 then (
some (.inl ((x8_223_2 + 1), w158)))
else (
some (.inr (.inr w158))))))))))))))))))))))
def fL_lay (N : Nat) (S : SC) (a2 : Int32) (w : AW) : Option (Int32 × AW) :=
bd (fL_at S 0 w) (fun r2 =>
bd (fL_mod r2 4 w) (fun r4 =>
lw (setI w 77 (0 : Int32).toNatClampNeg (1 + r4)) (fun w5 =>
bd (fL_mod (r2 >>> (2 &&& 31)) 4 w5) (fun r7 =>
lw (setI w5 77 (1 : Int32).toNatClampNeg r7) (fun w8 =>
bd (fL_mod (r2 >>> (4 &&& 31)) 100 w8) (fun r10 =>
lw (setI w8 77 (2 : Int32).toNatClampNeg r10) (fun w11 =>
bd (fL_mod (r2 >>> (11 &&& 31)) 5 w11) (fun r13 =>
lw (setI w11 77 (3 : Int32).toNatClampNeg r13) (fun w14 =>
bd2 (fX11_set 0 (w14.1 77 (0 : Int32).toNatClampNeg) w14) (fun r16 w17 =>
if r16 = 2 then (
bd2 (fX11_set 1 (w17.1 77 (1 : Int32).toNatClampNeg) w17) (fun r21 w22 =>
if r21 = 1 then (
bd2 (fX11_set 2 (w22.1 77 (2 : Int32).toNatClampNeg) w22) (fun r26 w27 =>
if r26 = 5 then (
bd2 (fX11_set 3 (w27.1 77 (3 : Int32).toNatClampNeg) w27) (fun r31 w32 =>
if r31 = 1 then (
bd (wh (lbL_lay_114_1 N S a2) N (0, w32)) (se (fun w116 =>
bd (wh (lbL_lay_223_2 N S a2) N (0, w116)) (se (fun w162 =>
some (a2, w162)) (fun w163 =>
some ((-1), w163)))) (fun w164 =>
some ((-1), w164))))
else (
some ((-1), w32))))
else (
some ((-1), w27))))
else (
some ((-1), w22))))
else (
some ((-1), w17))))))))))))
