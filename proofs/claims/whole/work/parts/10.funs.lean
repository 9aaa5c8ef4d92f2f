/-! the methods as functions of worlds -/
def fX11_within (a0 : Int32) (a1 : Int32) (a2 : Int32) (w : AW) : Option (Int32) :=
if a0 < a1 then (
some 0)
else (
if a2 < a0 then (
some 0)
else (
some 1))
def fX1_slotsOn (b : Nat) (a0 : Int32) (w : AW) : Option (Int32) :=
if a0 < 0 then (
some (w.1 (b + 7) (0 : Int32).toNatClampNeg))
else (
if a0 ≤ 60 then (
gd (inb a0 61) (
some ((if 0 < ((w.1 (b + 7) (0 : Int32).toNatClampNeg) - (w.1 (b + 8) a0.toNatClampNeg)) then ((w.1 (b + 7) (0 : Int32).toNatClampNeg) - (w.1 (b + 8) a0.toNatClampNeg)) else 0) + (w.1 (b + 9) a0.toNatClampNeg))))
else (
some (w.1 (b + 7) (0 : Int32).toNatClampNeg)))
def lbX3_measure_96_2 (N : Nat) (o0 : Nat) (c2_96_2 : Int32) (c4_96_2 : Int32) (c5_96_2 : Int32) : (Int32 × Int32 × AW) → Option ((Int32 × Int32 × AW) ⊕ (Int32 × AW)) := fun s => match s with
  | (x3_96_2, x6_96_2, w_96_2) => (
if c5_96_2 ≤ x6_96_2 then (
some (.inr (x3_96_2, w_96_2)))
else (
if 126 ≤ x3_96_2 then (
some (.inr (x3_96_2, w_96_2)))
else (
gd (inb (x3_96_2 + 1) 127) (
lw (setI w_96_2 47 (x3_96_2 + 1).toNatClampNeg c4_96_2) (fun w14 =>
some (.inl ((x3_96_2 + 1), (x6_96_2 + 1), w14)))))))
def lbX3_measure_96_3 (N : Nat) (o0 : Nat) (c2_96_3 : Int32) (c4_96_3 : Int32) (c5_96_3 : Int32) : (Int32 × Int32 × AW) → Option ((Int32 × Int32 × AW) ⊕ (Int32 × AW)) := fun s => match s with
  | (x3_96_3, x6_96_3, w_96_3) => (
if c5_96_3 ≤ x6_96_3 then (
some (.inr (x3_96_3, w_96_3)))
else (
if 126 ≤ x3_96_3 then (
some (.inr (x3_96_3, w_96_3)))
else (
gd (inb (x3_96_3 + 1) 127) (
lw (setI w_96_3 47 (x3_96_3 + 1).toNatClampNeg c4_96_3) (fun w21 =>
some (.inl ((x3_96_3 + 1), (x6_96_3 + 1), w21)))))))
def lbX3_measure_54_1 (N : Nat) (o0 : Nat) (c2_54_1 : Int32) : (Int32 × Int32 × AW) → Option ((Int32 × Int32 × AW) ⊕ (AW)) := fun s => match s with
  | (x3_54_1, x4_54_1, w_54_1) => (
if 186 < x4_54_1 then (
some (.inr w_54_1))
else (
if 126 ≤ x3_54_1 then (
some (.inr w_54_1))
else (
bd (fX1_slotsOn o0 x4_54_1 w_54_1) (fun r9 =>
if c2_54_1 ≤ (x4_54_1 - (w_54_1.1 o0 5)) then (
bd (wh (lbX3_measure_96_2 N o0 c2_54_1 x4_54_1 (r9 + 0)) N (x3_54_1, 0, w_54_1)) (fun q => match q with | (y16, w17) => (
some (.inl (y16, (x4_54_1 + 1), w17)))))
else (
bd (wh (lbX3_measure_96_3 N o0 c2_54_1 x4_54_1 (r9 + 1)) N (x3_54_1, 0, w_54_1)) (fun q => match q with | (y23, w24) => (
some (.inl (y23, (x4_54_1 + 1), w24)))))))))
def fX3_measure (N : Nat) (o0 : Nat) (a1 : Int32) (w : AW) : Option (AW) :=
lw (setI w 46 2 (w.1 (o0 + 7) (2 : Int32).toNatClampNeg)) (fun w1 =>
lw (setI w1 46 3 (w1.1 (o0 + 7) (3 : Int32).toNatClampNeg)) (fun w2 =>
lw (setI w2 46 4 (w2.1 (o0 + 7) (1 : Int32).toNatClampNeg)) (fun w3 =>
lw (setI w3 46 5 (w3.1 o0 6)) (fun w4 =>
lw (setI w4 46 6 (w4.1 o0 7)) (fun w5 =>
bd (wh (lbX3_measure_54_1 N o0 a1) N (0, (w5.1 o0 5), w5)) (fun w26 =>
some w26))))))
def fX4_has (o : Nat) (a0 : Int32) (w : AW) : Option (Int32) :=
if a0 < 0 then (
some 0)
else (
if (w.1 o 0) ≤ a0 then (
some 0)
else (
some 1))
def fX3_dayAt (a0 : Int32) (w : AW) : Option (Int32) :=
gd (inb (if 0 < (if 126 < a0 then 126 else a0) then (if 126 < a0 then 126 else a0) else 0) 127) (
some (w.1 47 (if 0 < (if 126 < a0 then 126 else a0) then (if 126 < a0 then 126 else a0) else 0).toNatClampNeg))
def bX3_usedBehind_23 (o2 : Nat) (p1_23 : Int32) (p4_23 : Int32) (p5_23 : Int32) (q0_23 : Int32) (w : AW) : Option (Int32) :=
if p1_23 = 0 then (
if p5_23 = (w.1 46 5) then (
gd (inb p4_23 6) (
some ((p1_23 + (w.1 46 6)) + (w.1 (o2 + 2) p4_23.toNatClampNeg))))
else (
gd (inb p4_23 6) (
some ((p1_23 + (w.1 46 4)) + (w.1 (o2 + 2) p4_23.toNatClampNeg)))))
else (
gd (inb p4_23 6) (
some ((p1_23 + q0_23) + (w.1 (o2 + 2) p4_23.toNatClampNeg))))
def fX3_usedBehind (a0 : Int32) (a1 : Int32) (o2 : Nat) (a3 : Int32) (w : AW) : Option (Int32) :=
gd (inb a3 6) (
if (w.1 (o2 + 3) a3.toNatClampNeg) = a1 then (
bX3_usedBehind_23 o2 a0 a3 (w.1 (o2 + 3) a3.toNatClampNeg) 0 w)
else (
bX3_usedBehind_23 o2 a0 a3 (w.1 (o2 + 3) a3.toNatClampNeg) (w.1 46 4) w))
def fX4_valueOf (o : Nat) (a0 : Int32) (a1 : Int32) (a2 : Int32) (w : AW) : Option (Int32) :=
gd (inb a0 6) (
if (w.1 (o + 4) a0.toNatClampNeg) < a1 then (
if (w.1 (o + 1) a0.toNatClampNeg) = 1 then (
some ((-2) * a2))
else (if (w.1 (o + 1) a0.toNatClampNeg) = 2 then (
some ((w.1 (o + 5) a0.toNatClampNeg) / 2))
else (if (w.1 (o + 1) a0.toNatClampNeg) = 3 then (
some (((w.1 (o + 5) a0.toNatClampNeg) / 2) - a2))
else (if (w.1 (o + 1) a0.toNatClampNeg) = 4 then (
if a1 = ((w.1 (o + 4) a0.toNatClampNeg) + 1) then (
some 0)
else (
some ((-2) * a2)))
else (
some (-a2))))))
else (
some (w.1 (o + 5) a0.toNatClampNeg)))
def fX5_lossOf (o0 : Nat) (a1 : Int32) (a2 : Int32) (w : AW) : Option (Int32) :=
gd (inb a1 6) (
if a2 ≤ (w.1 (o0 + 4) a1.toNatClampNeg) then (
if (w.1 49 3) = 0 then (
bd (fX4_valueOf o0 a1 a2 (w.1 46 2) w) (fun r5 =>
some ((w.1 (o0 + 5) a1.toNatClampNeg) - r5)))
else (if (w.1 49 3) = 1 then (
some 0)
else (
if a1 = ((w.1 o0 0) - 1) then (
some a2)
else (
some 0))))
else (
if (w.1 49 3) = 0 then (
bd (fX4_valueOf o0 a1 a2 (w.1 46 2) w) (fun r12 =>
some ((w.1 (o0 + 5) a1.toNatClampNeg) - r12)))
else (if (w.1 49 3) = 1 then (
some 1)
else (
if a1 = ((w.1 o0 0) - 1) then (
some a2)
else (
some 1000000)))))
def lbX5_walk_43_1 (N : Nat) (rec : Nat → Int32 → Int32 → Int32 → Int32 → Int32 → AW → Option (AW)) (o0 : Nat) (c2_43_1 : Int32) (c3_43_1 : Int32) (c4_43_1 : Int32) (c5_43_1 : Int32) (c6_43_1 : Int32) : (Int32 × AW) → Option ((Int32 × AW) ⊕ (AW)) := fun s => match s with
  | (x7_43_1, w_43_1) => (
if (w_43_1.1 o0 0) ≤ x7_43_1 then (
some (.inr w_43_1))
else (
if ((c5_43_1 >>> (x7_43_1 &&& 31)) &&& 1) = 0 then (
bd (fX3_usedBehind c3_43_1 c4_43_1 o0 x7_43_1 w_43_1) (fun r6 =>
gd (inb c2_43_1 6) (
lw (setI w_43_1 50 c2_43_1.toNatClampNeg x7_43_1) (fun w8 =>
bd (fX3_dayAt r6 w8) (fun r10 =>
bd (fX5_lossOf o0 x7_43_1 r10 w8) (fun r12 =>
gd (inb x7_43_1 6) (
bd (rec o0 (c2_43_1 + 1) r6 (w8.1 (o0 + 3) x7_43_1.toNatClampNeg) (c5_43_1 ||| (1 <<< (x7_43_1 &&& 31))) (c6_43_1 + r12) w8) (fun w15 =>
some (.inl ((x7_43_1 + 1), w15))))))))))
else (
some (.inl ((x7_43_1 + 1), w_43_1)))))
def fX5_walk_b (N : Nat) (rec : Nat → Int32 → Int32 → Int32 → Int32 → Int32 → AW → Option (AW)) (o0 : Nat) (a1 : Int32) (a2 : Int32) (a3 : Int32) (a4 : Int32) (a5 : Int32) (w : AW) : Option (AW) :=
if a5 < (w.1 49 5) then (
if a1 < (w.1 49 4) then (
bd (wh (lbX5_walk_43_1 N rec o0 a1 a2 a3 a4 a5) N (0, w)) (fun w17 =>
some w17))
else (
lw (setI w 49 5 a5) (fun w18 =>
lw (cpyI w18 50 (0 : Int32).toNatClampNeg 51 (0 : Int32).toNatClampNeg (6 : Int32).toNatClampNeg) (fun w19 =>
some w19))))
else (
some w)
def fX5_walk (N : Nat) : Nat → Nat → Int32 → Int32 → Int32 → Int32 → Int32 → AW → Option (AW)
  | 0, o0, a1, a2, a3, a4, a5, w => none
  | n + 1, o0, a1, a2, a3, a4, a5, w => fX5_walk_b N (fun o0 a1 a2 a3 a4 a5 w => fX5_walk N n o0 a1 a2 a3 a4 a5 w) o0 a1 a2 a3 a4 a5 w
def fX5_leastLost (N : Nat) (a0 : Int32) (o1 : Nat) (a2 : Int32) (w : AW) : Option (Int32 × AW) :=
lw (setI w 49 3 a0) (fun w1 =>
lw (setI w1 49 5 1000000) (fun w2 =>
bd (fX4_has o1 a2 w2) (fun r4 =>
if r4 = 0 then (
lw (setI w2 49 4 (w2.1 o1 0)) (fun w6 =>
if r4 = 0 then (
bd (fX5_walk N 8 o1 0 0 0 0 0 w6) (fun w9 =>
some ((w9.1 49 5), w9)))
else (
bd (fX5_walk N 8 o1 0 0 0 (1 <<< (a2 &&& 31)) 0 w6) (fun w11 =>
some ((w11.1 49 5), w11)))))
else (
lw (setI w2 49 4 ((w2.1 o1 0) - 1)) (fun w12 =>
if r4 = 0 then (
bd (fX5_walk N 8 o1 0 0 0 0 0 w12) (fun w15 =>
some ((w15.1 49 5), w15)))
else (
bd (fX5_walk N 8 o1 0 0 0 (1 <<< (a2 &&& 31)) 0 w12) (fun w17 =>
some ((w17.1 49 5), w17))))))))
def lbX5_mostWorth_5_1 (N : Nat) (o0 : Nat) (c2_5_1 : Int32) (w_5_1 : AW) : (Int32 × Int32) → Option ((Int32 × Int32) ⊕ (Int32)) := fun s => match s with
  | (x3_5_1, x4_5_1) => (
if (w_5_1.1 o0 0) ≤ x4_5_1 then (
some (.inr x3_5_1))
else (
if x4_5_1 = c2_5_1 then (
some (.inl (x3_5_1, (x4_5_1 + 1))))
else (
gd (inb x4_5_1 6) (
lw (x3_5_1 + (w_5_1.1 (o0 + 5) x4_5_1.toNatClampNeg)) (fun v4 =>
some (.inl (v4, (x4_5_1 + 1))))))))
def fX5_mostWorth (N : Nat) (o0 : Nat) (a1 : Int32) (w : AW) : Option (Int32 × AW) :=
bd (wh (lbX5_mostWorth_5_1 N o0 a1 w) N (0, 0)) (fun y6 =>
bd2 (fX5_leastLost N 0 o0 a1 w) (fun r8 w9 =>
some ((y6 - r8), w9)))
def lbX11_across_47_1 (N : Nat) (c1_47_1 : Int32) : (Int32 × Int32 × Int32 × AW) → Option ((Int32 × Int32 × Int32 × AW) ⊕ (Int32 × Int32 × AW)) := fun s => match s with
  | (x2_47_1, x3_47_1, x4_47_1, w_47_1) => (
if (w_47_1.1 2 0) ≤ x4_47_1 then (
some (.inr (x2_47_1, x3_47_1, w_47_1)))
else (
bd2 (fX5_mostWorth N 2 x4_47_1 w_47_1) (fun r12 w13 =>
gd (inb x4_47_1 6) (
lw (r12 + ((w13.1 7 x4_47_1.toNatClampNeg) / 2)) (fun v16 =>
if v16 ≤ x3_47_1 then (
some (.inl (x2_47_1, x3_47_1, (x4_47_1 + 1), w13)))
else (
some (.inl (x4_47_1, v16, (x4_47_1 + 1), w13))))))))
def fX11_across (N : Nat) (a0 : Int32) (w : AW) : Option (Int32 × AW) :=
bd (fX11_within a0 0 1 w) (fun r2 =>
if r2 = 0 then (
some ((-2147483648), w))
else (
bd (fX3_measure N 1 0 w) (fun w5 =>
bd2 (fX5_mostWorth N 2 (-9) w5) (fun r7 w8 =>
bd (wh (lbX11_across_47_1 N a0) N ((-9), r7, 0, w8)) (fun q => match q with | (y19, y20, w21) => (
if a0 = 0 then (
some (y19, w21))
else (
some (y20, w21))))))))
def fX7_isPlace (a0 : Int32) (w : AW) : Option (Int32) :=
bd (fX11_within a0 0 3 w) (fun r2 =>
gd (isb r2) (
some r2))
def fX7_jobOn (a0 : Int32) (w : AW) : Option (Int32) :=
gd (inb a0 4) (
if (w.1 71 a0.toNatClampNeg) = 1 then (
some (w.1 73 a0.toNatClampNeg))
else (
some (-9)))
def fX9_become (a0 : Int32) (a1 : Int32) (a2 : Int32) (w : AW) : Option (AW) :=
lw (setI w 74 0 a0) (fun w1 =>
lw (setI w1 74 1 a1) (fun w2 =>
lw (setI w2 74 2 a2) (fun w3 =>
lw (setI w3 74 3 0) (fun w4 =>
some w4))))
def fX9_forget (w : AW) : Option (AW) :=
lw (setI w 74 5 0) (fun w1 =>
some w1)
def fX11_isUnder (a0 : Int32) (a1 : Int32) (w : AW) : Option (Int32) :=
if a0 = a1 then (
some 1)
else (
if a1 = 0 then (
some 1)
else (
if a0 = 3 then (
if a1 = 2 then (
some 1)
else (
if a0 = 4 then (
if a1 = 1 then (
some 1)
else (
some 0))
else (
some 0)))
else (
if a0 = 4 then (
if a1 = 1 then (
some 1)
else (
some 0))
else (
some 0))))
def fX9_is (a0 : Int32) (w : AW) : Option (Int32) :=
bd (fX11_isUnder (w.1 74 0) a0 w) (fun r2 =>
gd (isb r2) (
some r2))
def fX9_runs (a0 : Int32) (w : AW) : Option (AW) :=
if (w.1 74 5) < 30 then (
gd (inb (w.1 74 5) 30) (
lw (setI w 75 (w.1 74 5).toNatClampNeg a0) (fun w3 =>
lw (setI w3 74 5 ((w3.1 74 5) + 1)) (fun w4 =>
some w4))))
else (
some w)
def bX9_prints_42 (p1_42 : Int32) (w : AW) : Option (Int32 × AW) :=
bd (fX9_runs 10 w) (fun w11 =>
bd (fX9_is 2 w11) (fun r13 =>
if r13 = 0 then (
bd (fX9_is 3 w11) (fun r16 =>
if r16 = 0 then (
bd (fX9_is 4 w11) (fun r19 =>
if r19 = 0 then (
some ((p1_42 + (w11.1 74 1)), w11))
else (
some ((0 - (p1_42 + (w11.1 74 1))), w11))))
else (
lw ((p1_42 + (w11.1 74 1)) - (w11.1 74 1)) (fun v21 =>
bd (fX9_is 4 w11) (fun r23 =>
if r23 = 0 then (
some (v21, w11))
else (
some ((0 - v21), w11)))))))
else (
bd (fX9_is 3 w11) (fun r26 =>
if r26 = 0 then (
bd (fX9_is 4 w11) (fun r29 =>
if r29 = 0 then (
some (((p1_42 + (w11.1 74 1)) * 3), w11))
else (
some ((0 - ((p1_42 + (w11.1 74 1)) * 3)), w11))))
else (
lw (((p1_42 + (w11.1 74 1)) * 3) - (w11.1 74 1)) (fun v31 =>
bd (fX9_is 4 w11) (fun r33 =>
if r33 = 0 then (
some (v31, w11))
else (
some ((0 - v31), w11)))))))))
def bX9_prints_28 (p1_28 : Int32) (w : AW) : Option (Int32 × AW) :=
bd (fX9_is 4 w) (fun r8 =>
if r8 = 0 then (
bX9_prints_42 p1_28 w)
else (
bd (fX9_runs 50 w) (fun w36 =>
bX9_prints_42 p1_28 w36)))
def bX9_prints_14 (p1_14 : Int32) (w : AW) : Option (Int32 × AW) :=
bd (fX9_is 2 w) (fun r5 =>
if r5 = 0 then (
bX9_prints_28 p1_14 w)
else (
bd (fX9_runs 30 w) (fun w38 =>
bX9_prints_28 p1_14 w38)))
def fX9_prints (a0 : Int32) (w : AW) : Option (Int32 × AW) :=
bd (fX9_is 3 w) (fun r2 =>
if r2 = 0 then (
bX9_prints_14 a0 w)
else (
bd (fX9_runs 41 w) (fun w40 =>
bX9_prints_14 a0 w40)))
def bX9_sets_28 (p1_28 : Int32) (w : AW) : Option (Int32 × AW) :=
bd (fX9_runs 11 w) (fun w8 =>
bd2 (fX9_prints p1_28 w8) (fun r10 w11 =>
bd (fX9_is 1 w11) (fun r14 =>
if r14 = 0 then (
bd (fX9_is 4 w11) (fun r17 =>
if r17 = 0 then (
some ((r10 * 2), w11))
else (
bd2 (fX9_prints (w11.1 74 1) w11) (fun r20 w21 =>
some (((r10 * 2) + r20), w21)))))
else (
bd (fX9_is 4 w11) (fun r24 =>
if r24 = 0 then (
some (((r10 * 2) - (w11.1 74 2)), w11))
else (
bd2 (fX9_prints (w11.1 74 1) w11) (fun r27 w28 =>
some ((((r10 * 2) - (w11.1 74 2)) + r27), w28))))))))
def bX9_sets_14 (p1_14 : Int32) (w : AW) : Option (Int32 × AW) :=
bd (fX9_is 1 w) (fun r5 =>
if r5 = 0 then (
bX9_sets_28 p1_14 w)
else (
bd (fX9_runs 20 w) (fun w31 =>
bX9_sets_28 p1_14 w31)))
def fX9_sets (a0 : Int32) (w : AW) : Option (Int32 × AW) :=
bd (fX9_is 4 w) (fun r2 =>
if r2 = 0 then (
bX9_sets_14 a0 w)
else (
bd (fX9_runs 51 w) (fun w33 =>
bX9_sets_14 a0 w33)))
def bX9_shares_67 (q0_67 : Int32) (w : AW) : Option (Int32 × AW) :=
gd (decide (¬ ((w.1 74 2) - (w.1 74 1)) = 0)) (
bd (fX9_is 3 w) (fun r16 =>
if r16 = 0 then (
bd (fX9_is 5 w) (fun r19 =>
if r19 = 0 then (
some ((q0_67 / ((w.1 74 2) - (w.1 74 1))), w))
else (
bd2 (fX9_prints (w.1 74 2) w) (fun r22 w23 =>
some (((q0_67 / ((w.1 74 2) - (w.1 74 1))) + r22), w23)))))
else (
lw ((q0_67 / ((w.1 74 2) - (w.1 74 1))) ^^^ 1) (fun v25 =>
bd (fX9_is 5 w) (fun r27 =>
if r27 = 0 then (
some (v25, w))
else (
bd2 (fX9_prints (w.1 74 2) w) (fun r30 w31 =>
some ((v25 + r30), w31))))))))
def bX9_shares_28 (p1_28 : Int32) (w : AW) : Option (Int32 × AW) :=
bd (fX9_runs 12 w) (fun w8 =>
if (w8.1 74 2) = (w8.1 74 1) then (
lw (setI w8 74 3 1) (fun w10 =>
some (0, w10)))
else (
bd (fX9_is 3 w8) (fun r12 =>
if r12 = 0 then (
bX9_shares_67 p1_28 w8)
else (
bX9_shares_67 (p1_28 + 2) w8))))
def bX9_shares_14 (p1_14 : Int32) (w : AW) : Option (Int32 × AW) :=
bd (fX9_is 5 w) (fun r5 =>
if r5 = 0 then (
bX9_shares_28 p1_14 w)
else (
bd (fX9_runs 61 w) (fun w34 =>
bX9_shares_28 p1_14 w34)))
def fX9_shares (a0 : Int32) (w : AW) : Option (Int32 × AW) :=
bd (fX9_is 3 w) (fun r2 =>
if r2 = 0 then (
bX9_shares_14 a0 w)
else (
bd (fX9_runs 40 w) (fun w36 =>
bX9_shares_14 a0 w36)))
def bX9_tells_28 (p1_28 : Int32) (w : AW) : Option (Int32 × AW) :=
bd (fX9_runs 13 w) (fun w8 =>
bd2 (fX9_sets p1_28 w8) (fun r10 w11 =>
bd (fX9_is 2 w11) (fun r14 =>
if r14 = 0 then (
bd (fX9_is 5 w11) (fun r17 =>
if r17 = 0 then (
some ((r10 ^^^ (w11.1 74 2)), w11))
else (
some (((r10 ^^^ (w11.1 74 2)) * 2), w11))))
else (
bd2 (fX9_shares (w11.1 74 1) w11) (fun r20 w21 =>
bd (fX9_is 5 w21) (fun r24 =>
if r24 = 0 then (
some (((r10 ^^^ (w11.1 74 2)) + r20), w21))
else (
some ((((r10 ^^^ (w11.1 74 2)) + r20) * 2), w21))))))))
def bX9_tells_14 (p1_14 : Int32) (w : AW) : Option (Int32 × AW) :=
bd (fX9_is 5 w) (fun r5 =>
if r5 = 0 then (
bX9_tells_28 p1_14 w)
else (
bd (fX9_runs 60 w) (fun w27 =>
bX9_tells_28 p1_14 w27)))
def fX9_tells (a0 : Int32) (w : AW) : Option (Int32 × AW) :=
bd (fX9_is 2 w) (fun r2 =>
if r2 = 0 then (
bX9_tells_14 a0 w)
else (
bd (fX9_runs 31 w) (fun w29 =>
bX9_tells_14 a0 w29)))
def fX9_perform (a0 : Int32) (a1 : Int32) (w : AW) : Option (Int32 × AW) :=
if a0 = 0 then (
bd2 (fX9_prints a1 w) (fun r3 w4 =>
if (w4.1 74 3) = 0 then (
some (r3, w4))
else (
some ((-15), w4))))
else (if a0 = 1 then (
bd2 (fX9_sets a1 w) (fun r9 w10 =>
if (w10.1 74 3) = 0 then (
some (r9, w10))
else (
some ((-15), w10))))
else (if a0 = 2 then (
bd2 (fX9_shares a1 w) (fun r15 w16 =>
if (w16.1 74 3) = 0 then (
some (r15, w16))
else (
some ((-15), w16))))
else (
bd2 (fX9_tells a1 w) (fun r20 w21 =>
if (w21.1 74 3) = 0 then (
some (r20, w21))
else (
some ((-15), w21))))))
def fX11_act (a0 : Int32) (a1 : Int32) (a2 : Int32) (w : AW) : Option (Int32 × AW) :=
bd (fX9_forget w) (fun w2 =>
bd (fX7_isPlace a0 w2) (fun r4 =>
if r4 = 0 then (
some (0, w2))
else (
bd (fX11_within a1 0 3 w2) (fun r7 =>
if r7 = 0 then (
some (0, w2))
else (
bd (fX7_jobOn a0 w2) (fun r10 =>
bd (fX4_has 2 r10 w2) (fun r12 =>
if r12 = 0 then (
some (0, w2))
else (
gd (inb r10 6) (
bd (fX9_become (w2.1 3 r10.toNatClampNeg) r10 (w2.1 7 r10.toNatClampNeg) w2) (fun w16 =>
bd2 (fX9_perform a1 a2 w16) (fun r18 w19 =>
some (r18, w19))))))))))))
def lbX4_copy_10_1 (N : Nat) (o : Nat) (o0 : Nat) : (Int32 × AW) → Option ((Int32 × AW) ⊕ (AW)) := fun s => match s with
  | (x2_10_1, w_10_1) => (
if (w_10_1.1 o0 0) ≤ x2_10_1 then (
some (.inr w_10_1))
else (
gd (inb x2_10_1 6) (
lw (setI w_10_1 (o + 1) x2_10_1.toNatClampNeg (w_10_1.1 (o0 + 1) x2_10_1.toNatClampNeg)) (fun w4 =>
lw (setI w4 (o + 2) x2_10_1.toNatClampNeg (w4.1 (o0 + 2) x2_10_1.toNatClampNeg)) (fun w5 =>
lw (setI w5 (o + 3) x2_10_1.toNatClampNeg (w5.1 (o0 + 3) x2_10_1.toNatClampNeg)) (fun w6 =>
lw (setI w6 (o + 4) x2_10_1.toNatClampNeg (w6.1 (o0 + 4) x2_10_1.toNatClampNeg)) (fun w7 =>
lw (setI w7 (o + 5) x2_10_1.toNatClampNeg (w7.1 (o0 + 5) x2_10_1.toNatClampNeg)) (fun w8 =>
some (.inl ((x2_10_1 + 1), w8))))))))))
def fX4_copy (N : Nat) (o : Nat) (o0 : Nat) (w : AW) : Option (AW) :=
lw (setI w o 0 (w.1 o0 0)) (fun w1 =>
bd (wh (lbX4_copy_10_1 N o o0) N (0, w1)) (fun w10 =>
some w10))
def fX1_copy (N : Nat) (b : Nat) (o0 : Nat) (w : AW) : Option (AW) :=
bd (fX4_copy N (b + 1) (o0 + 1) w) (fun w2 =>
lw (cpyI w2 (o0 + 7) (0 : Int32).toNatClampNeg (b + 7) (0 : Int32).toNatClampNeg (4 : Int32).toNatClampNeg) (fun w3 =>
lw (cpyI w3 (o0 + 8) (0 : Int32).toNatClampNeg (b + 8) (0 : Int32).toNatClampNeg (61 : Int32).toNatClampNeg) (fun w4 =>
lw (cpyI w4 (o0 + 9) (0 : Int32).toNatClampNeg (b + 9) (0 : Int32).toNatClampNeg (61 : Int32).toNatClampNeg) (fun w5 =>
lw (cpyI w5 (o0 + 10) (0 : Int32).toNatClampNeg (b + 10) (0 : Int32).toNatClampNeg (6 : Int32).toNatClampNeg) (fun w6 =>
lw (setI w6 b 5 (w6.1 o0 5)) (fun w7 =>
lw (setI w7 b 6 (w7.1 o0 6)) (fun w8 =>
lw (setI w8 b 7 (w8.1 o0 7)) (fun w9 =>
lw (setI w9 b 8 (w9.1 o0 8)) (fun w10 =>
some w10)))))))))
def lbX10_copy_18_1 (N : Nat) (t : Nat) (o0 : Nat) : (Int32 × AW) → Option ((Int32 × AW) ⊕ (AW)) := fun s => match s with
  | (x2_18_1, w_18_1) => (
if (w_18_1.1 o0 0) ≤ x2_18_1 then (
some (.inr w_18_1))
else (
gd (inb x2_18_1 3) (
lw (setI w_18_1 (t + 1) x2_18_1.toNatClampNeg (w_18_1.1 (o0 + 1) x2_18_1.toNatClampNeg)) (fun w5 =>
lw (setI w5 (t + 2) x2_18_1.toNatClampNeg (w5.1 (o0 + 2) x2_18_1.toNatClampNeg)) (fun w6 =>
lw (setI w6 (t + 3) x2_18_1.toNatClampNeg (w6.1 (o0 + 3) x2_18_1.toNatClampNeg)) (fun w7 =>
lw (setI w7 (t + 4) x2_18_1.toNatClampNeg (w7.1 (o0 + 4) x2_18_1.toNatClampNeg)) (fun w8 =>
lw (setI w8 (t + 5) x2_18_1.toNatClampNeg (w8.1 (o0 + 5) x2_18_1.toNatClampNeg)) (fun w9 =>
lw (setI w9 (t + 6) x2_18_1.toNatClampNeg (w9.1 (o0 + 6) x2_18_1.toNatClampNeg)) (fun w10 =>
some (.inl ((x2_18_1 + 1), w10)))))))))))
def fX10_copy (N : Nat) (t : Nat) (o0 : Nat) (w : AW) : Option (AW) :=
lw (setI w t 0 (w.1 o0 0)) (fun w1 =>
lw (setI w1 t 1 (w1.1 o0 1)) (fun w2 =>
bd (wh (lbX10_copy_18_1 N t o0) N (0, w2)) (fun w12 =>
some w12)))
def fX11_again (N : Nat) (w : AW) : Option (Int32 × AW) :=
if (w.1 0 4) = 0 then (
some ((-3), w))
else (
bd (fX1_copy N 1 12 w) (fun w3 =>
bd (fX10_copy N 23 30 w3) (fun w5 =>
some ((w5.1 2 0), w5))))
def lbX11_partOf_5_1 (N : Nat) (c2_5_1 : Int32) (w_5_1 : AW) : (Int32 × Int32) → Option ((Int32 × Int32) ⊕ (Int32 × Int32)) := fun s => match s with
  | (x3_5_1, x4_5_1) => (
if x3_5_1 ≤ 0 then (
some (.inr (x3_5_1, x4_5_1)))
else (
if (x4_5_1 - x4_5_1 / 2 * 2) = 0 then (
some (.inl ((x3_5_1 + (-1)), (x4_5_1 / 2))))
else (
some (.inr (x3_5_1, x4_5_1)))))
def fX11_partOf (N : Nat) (a0 : Int32) (a1 : Int32) (a2 : Int32) (w : AW) : Option (Int32) :=
bd (wh (lbX11_partOf_5_1 N a2 w) N (a1, a0)) (fun q => match q with | (y4, y5) => (
if a2 = 0 then (
some y5)
else (
some (1 <<< (y4 &&& 31)))))
def fX4_add (o : Nat) (a0 : Int32) (a1 : Int32) (a2 : Int32) (a3 : Int32) (a4 : Int32) (w : AW) : Option (AW) :=
if (w.1 o 0) < 6 then (
gd (inb (w.1 o 0) 6) (
lw (setI w (o + 1) (w.1 o 0).toNatClampNeg a0) (fun w3 =>
if a0 = 5 then (
gd (inb (w3.1 o 0) 6) (
lw (setI w3 (o + 2) (w3.1 o 0).toNatClampNeg ((a1 + 1) / 2)) (fun w6 =>
gd (inb (w6.1 o 0) 6) (
lw (setI w6 (o + 3) (w6.1 o 0).toNatClampNeg a2) (fun w8 =>
gd (inb (w8.1 o 0) 6) (
lw (setI w8 (o + 4) (w8.1 o 0).toNatClampNeg a3) (fun w10 =>
gd (inb (w10.1 o 0) 6) (
lw (setI w10 (o + 5) (w10.1 o 0).toNatClampNeg a4) (fun w12 =>
lw (setI w12 o 0 ((w12.1 o 0) + 1)) (fun w13 =>
some w13))))))))))
else (
gd (inb (w3.1 o 0) 6) (
lw (setI w3 (o + 2) (w3.1 o 0).toNatClampNeg a1) (fun w15 =>
gd (inb (w15.1 o 0) 6) (
lw (setI w15 (o + 3) (w15.1 o 0).toNatClampNeg a2) (fun w17 =>
gd (inb (w17.1 o 0) 6) (
lw (setI w17 (o + 4) (w17.1 o 0).toNatClampNeg a3) (fun w19 =>
gd (inb (w19.1 o 0) 6) (
lw (setI w19 (o + 5) (w19.1 o 0).toNatClampNeg a4) (fun w21 =>
lw (setI w21 o 0 ((w21.1 o 0) + 1)) (fun w22 =>
some w22)))))))))))))
else (
some w)
def lbX4_remove_11_1 (N : Nat) (o : Nat) : (Int32 × AW) → Option ((Int32 × AW) ⊕ (AW)) := fun s => match s with
  | (x2_11_1, w_11_1) => (
if (w_11_1.1 o 0) ≤ (x2_11_1 + 1) then (
some (.inr w_11_1))
else (
gd (inb (x2_11_1 + 1) 6) (
gd (inb x2_11_1 6) (
lw (setI w_11_1 (o + 1) x2_11_1.toNatClampNeg (w_11_1.1 (o + 1) (x2_11_1 + 1).toNatClampNeg)) (fun w7 =>
lw (setI w7 (o + 2) x2_11_1.toNatClampNeg (w7.1 (o + 2) (x2_11_1 + 1).toNatClampNeg)) (fun w8 =>
lw (setI w8 (o + 3) x2_11_1.toNatClampNeg (w8.1 (o + 3) (x2_11_1 + 1).toNatClampNeg)) (fun w9 =>
lw (setI w9 (o + 4) x2_11_1.toNatClampNeg (w9.1 (o + 4) (x2_11_1 + 1).toNatClampNeg)) (fun w10 =>
lw (setI w10 (o + 5) x2_11_1.toNatClampNeg (w10.1 (o + 5) (x2_11_1 + 1).toNatClampNeg)) (fun w11 =>
some (.inl ((x2_11_1 + 1), w11)))))))))))
def fX4_remove (N : Nat) (o : Nat) (a0 : Int32) (w : AW) : Option (AW) :=
bd (fX4_has o a0 w) (fun r2 =>
if r2 = 0 then (
some w)
else (
bd (wh (lbX4_remove_11_1 N o) N (a0, w)) (fun w13 =>
lw (setI w13 o 0 ((w13.1 o 0) - 1)) (fun w14 =>
some w14))))
def lbX10_oddsOfAll_4_1 (N : Nat) (t : Nat) (w_4_1 : AW) : (Int32 × Int32) → Option ((Int32 × Int32) ⊕ (Int32)) := fun s => match s with
  | (x1_4_1, x2_4_1) => (
if (w_4_1.1 t 0) ≤ x2_4_1 then (
some (.inr x1_4_1))
else (
gd (inb x2_4_1 3) (
lw (x1_4_1 + (w_4_1.1 (t + 6) x2_4_1.toNatClampNeg)) (fun v3 =>
some (.inl (v3, (x2_4_1 + 1)))))))
def fX10_oddsOfAll (N : Nat) (t : Nat) (w : AW) : Option (Int32) :=
bd (wh (lbX10_oddsOfAll_4_1 N t w) N (0, 0)) (fun y5 =>
some y5)
def lbX0_mostOf_43_1 (N : Nat) (rec : Nat → Nat → Int32 → Int32 → AW → Option (Int32 × AW)) (o0 : Nat) (o1 : Nat) (c3_43_1 : Int32) (c4_43_1 : Int32) (c5_43_1 : Int32) : (Int32 × Int32 × AW) → Option ((Int32 × Int32 × AW) ⊕ (Int32 × AW)) := fun s => match s with
  | (x6_43_1, x7_43_1, w_43_1) => (
if (w_43_1.1 o0 0) ≤ x7_43_1 then (
some (.inr (x6_43_1, w_43_1)))
else (
gd (inb x7_43_1 3) (
bd (fX4_add o1 (w_43_1.1 (o0 + 1) x7_43_1.toNatClampNeg) (w_43_1.1 (o0 + 2) x7_43_1.toNatClampNeg) (w_43_1.1 (o0 + 3) x7_43_1.toNatClampNeg) (c3_43_1 + (w_43_1.1 (o0 + 4) x7_43_1.toNatClampNeg)) (w_43_1.1 (o0 + 5) x7_43_1.toNatClampNeg) w_43_1) (fun w11 =>
bd2 (rec o0 o1 c3_43_1 (c4_43_1 - 1) w11) (fun r13 w14 =>
bd (fX4_remove N o1 ((w14.1 o1 0) - 1) w14) (fun w17 =>
lw (x6_43_1 + ((w17.1 (o0 + 6) x7_43_1.toNatClampNeg) * (if r13 < c5_43_1 then c5_43_1 else r13))) (fun v18 =>
some (.inl (v18, (x7_43_1 + 1), w17)))))))))
def fX0_mostOf_b (N : Nat) (rec : Nat → Nat → Int32 → Int32 → AW → Option (Int32 × AW)) (o0 : Nat) (o1 : Nat) (a2 : Int32) (a3 : Int32) (w : AW) : Option (Int32 × AW) :=
if 0 < a3 then (
bd2 (rec o0 o1 a2 (a3 - 1) w) (fun r3 w4 =>
bd (fX10_oddsOfAll N o0 w4) (fun r7 =>
bd (wh (lbX0_mostOf_43_1 N rec o0 o1 a2 a3 r3) N ((r3 * (4 - r7)), 0, w4)) (fun q => match q with | (y20, w21) => (
some (y20, w21))))))
else (
bd2 (fX5_mostWorth N o1 (-9) w) (fun r23 w24 =>
some (r23, w24)))
def fX0_mostOf (N : Nat) : Nat → Nat → Nat → Int32 → Int32 → AW → Option (Int32 × AW)
  | 0, o0, o1, a2, a3, w => none
  | n + 1, o0, o1, a2, a3, w => fX0_mostOf_b N (fun o0 o1 a2 a3 w => fX0_mostOf N n o0 o1 a2 a3 w) o0 o1 a2 a3 w
def fX11_ahead (N : Nat) (a0 : Int32) (a1 : Int32) (w : AW) : Option (Int32 × AW) :=
bd (fX11_within a0 0 3 w) (fun r2 =>
if r2 = 0 then (
some ((-2147483648), w))
else (
bd (fX11_within a1 0 1 w) (fun r5 =>
if r5 = 0 then (
some ((-2147483648), w))
else (
if ((w.1 2 0) + a0) ≤ 5 then (
bd (fX3_measure N 1 0 w) (fun w9 =>
bd (fX4_copy N 61 2 w9) (fun w11 =>
bd2 (fX0_mostOf N 5 23 61 (w11.1 1 5) a0 w11) (fun r13 w14 =>
bd (fX11_partOf N r13 (2 * a0) a1 w14) (fun r17 =>
some (r17, w14))))))
else (
some ((-2147483648), w))))))
def fX6_has (a0 : Int32) (a1 : Int32) (w : AW) : Option (Int32) :=
bd (fX11_within a0 0 ((w.1 59 2) - 1) w) (fun r2 =>
if r2 = 0 then (
some 0)
else (
bd (fX11_within a1 0 2 w) (fun r5 =>
if r5 = 0 then (
some 0)
else (
some 1))))
def fX11_alterRow (a0 : Int32) (a1 : Int32) (a2 : Int32) (w : AW) : Option (Int32 × AW) :=
bd (fX6_has a0 a1 w) (fun r2 =>
if r2 = 0 then (
some ((-2147483648), w))
else (
gd (inb ((a0 * 3) + a1) 18) (
lw (w.1 60 ((a0 * 3) + a1).toNatClampNeg) (fun v5 =>
lw (setI w 60 ((a0 * 3) + a1).toNatClampNeg a2) (fun w6 =>
some (v5, w6))))))
def lbX11_digitsOf_4_1 (N : Nat) (r0 : Nat) (c1_4_1 : Int32) (w_4_1 : AW) : (Int32 × Int32) → Option ((Int32 × Int32) ⊕ (Int32)) := fun s => match s with
  | (x2_4_1, x3_4_1) => (
if c1_4_1 ≤ x3_4_1 then (
some (.inr x2_4_1))
else (
if 6 ≤ x3_4_1 then (
some (.inr x2_4_1))
else (
gd (inb x3_4_1 6) (
lw (x2_4_1 ||| ((w_4_1.1 r0 x3_4_1.toNatClampNeg) <<< ((3 * x3_4_1) &&& 31))) (fun v4 =>
some (.inl (v4, (x3_4_1 + 1))))))))
def fX11_digitsOf (N : Nat) (r0 : Nat) (a1 : Int32) (w : AW) : Option (Int32) :=
bd (wh (lbX11_digitsOf_4_1 N r0 a1 w) N (0, 0)) (fun y6 =>
some y6)
def fX11_best (N : Nat) (a0 : Int32) (w : AW) : Option (Int32 × AW) :=
bd (fX11_within a0 0 1 w) (fun r2 =>
if r2 = 0 then (
some ((-2147483648), w))
else (
bd (fX3_measure N 1 0 w) (fun w5 =>
bd2 (fX5_mostWorth N 2 (-9) w5) (fun r7 w8 =>
if a0 = 0 then (
some (r7, w8))
else (
bd (fX11_digitsOf N 51 (w8.1 2 0) w8) (fun r12 =>
some (r12, w8)))))))
def lbX1_begin_10_1 (N : Nat) (b : Nat) (r1 : Nat) : (Int32 × AW) → Option ((Int32 × AW) ⊕ (AW)) := fun s => match s with
  | (x3_10_1, w_10_1) => (
if 6 ≤ x3_10_1 then (
some (.inr w_10_1))
else (
gd (inb x3_10_1 6) (
lw (setI w_10_1 (b + 10) x3_10_1.toNatClampNeg x3_10_1) (fun w5 =>
some (.inl ((x3_10_1 + 1), w5))))))
def lbX1_begin_31_2 (N : Nat) (b : Nat) (r1 : Nat) : (Int32 × AW) → Option ((Int32 × AW) ⊕ (AW)) := fun s => match s with
  | (x3_31_2, w_31_2) => (
if 4 ≤ x3_31_2 then (
some (.inr w_31_2))
else (
if 4 ≤ x3_31_2 then (
some (.inr w_31_2))
else (
gd (inb x3_31_2 4) (
if (w_31_2.1 r1 x3_31_2.toNatClampNeg) < 0 then (
some (.inl ((x3_31_2 + 1), w_31_2)))
else (
lw (setI w_31_2 (b + 7) x3_31_2.toNatClampNeg (w_31_2.1 r1 x3_31_2.toNatClampNeg)) (fun w12 =>
some (.inl ((x3_31_2 + 1), w12))))))))
def lbX1_begin_65_3 (N : Nat) (b : Nat) : (Int32 × AW) → Option ((Int32 × AW) ⊕ (AW)) := fun s => match s with
  | (x3_65_3, w_65_3) => (
if 60 < x3_65_3 then (
some (.inr w_65_3))
else (
gd (inb x3_65_3 61) (
lw (setI w_65_3 (b + 8) x3_65_3.toNatClampNeg 0) (fun w17 =>
lw (setI w17 (b + 9) x3_65_3.toNatClampNeg 0) (fun w18 =>
some (.inl ((x3_65_3 + 1), w18)))))))
def fX1_begin (N : Nat) (b : Nat) (o0 : Nat) (r1 : Nat) (w : AW) : Option (AW) :=
bd (fX4_copy N (b + 1) o0 w) (fun w2 =>
bd (wh (lbX1_begin_10_1 N b r1) N (0, w2)) (fun w7 =>
bd (wh (lbX1_begin_31_2 N b r1) N (0, w7)) (fun w14 =>
bd (wh (lbX1_begin_65_3 N b) N (0, w14)) (fun w20 =>
lw (setI w20 b 5 0) (fun w21 =>
lw (setI w21 b 6 0) (fun w22 =>
lw (setI w22 b 7 0) (fun w23 =>
lw (setI w23 b 8 0) (fun w24 =>
some w24))))))))
def fJ0_isLatin1_aae02 (i : Nat) (w : AW) : Option (Int32) :=
some 1
def fJ3_checkIndex_8e157 (a0 : Int32) (a1 : Int32) (w : AW) : Option (Int32) :=
if a0 < 0 then (
none)
else (
if a0 < a1 then (
some a0)
else (
none))
def fJ0_checkIndex_df160 (a0 : Int32) (a1 : Int32) (w : AW) : Option (AW) :=
bd (fJ3_checkIndex_8e157 a0 a1 w) (fun r2 =>
some w)
def fJ1_charAt_3b067 (i0 : Nat) (a1 : Int32) (w : AW) : Option (Int32) :=
bd (fJ0_checkIndex_df160 a1 (Int32.ofNat (lenS.getD i0 0)) w) (fun w2 =>
gd (inb a1 (lenS.getD i0 0)) (
some (((((bytS.getD i0 []).getD a1.toNatClampNeg 0) &&& 255).toUInt32 % 65536).toInt32)))
def fJ0_charAt_5068e (i : Nat) (a0 : Int32) (w : AW) : Option (Int32) :=
bd (fJ0_isLatin1_aae02 i w) (fun r2 =>
if r2 = 0 then (
none)
else (
bd (fJ1_charAt_3b067 i a0 w) (fun r5 =>
gd (isc r5) (
some r5))))
def fJ0_coder_7d493 (i : Nat) (w : AW) : Option (Int32) :=
some 0
def fJ0_length_8abf5 (i : Nat) (w : AW) : Option (Int32) :=
bd (fJ0_coder_7d493 i w) (fun r2 =>
some ((Int32.ofNat (lenS.getD i 0)) >>> (r2 &&& 31)))
def lbX8_isNamed_28_1 (N : Nat) (i0 : Nat) (w_28_1 : AW) : (Int32) → Option ((Int32) ⊕ ((Unit) ⊕ (Unit))) := fun s => match s with
  | x2_28_1 => (
bd (fJ0_length_8abf5 i0 w_28_1) (fun r6 =>
if r6 ≤ x2_28_1 then (
some (.inr (.inl ())))
else (
gd (inb ((w_28_1.1 37 5) + x2_28_1) 200) (
bd (fJ0_charAt_5068e i0 x2_28_1 w_28_1) (fun r10 =>
if (w_28_1.1 38 ((w_28_1.1 37 5) + x2_28_1).toNatClampNeg) = r10 then (
some (.inl (x2_28_1 + 1)))
else (
some (.inr (.inr ()))))))))
def fX8_isNamed (N : Nat) (i0 : Nat) (w : AW) : Option (Int32) :=
if (w.1 37 4) = 1 then (
bd (fJ0_length_8abf5 i0 w) (fun r3 =>
if ((w.1 37 6) - (w.1 37 5)) = r3 then (
bd (wh (lbX8_isNamed_28_1 N i0 w) N 0) (se (fun _ =>
some 1) (fun _ =>
some 0)))
else (
some 0)))
else (
some 0)
def fX8_lawNamed (N : Nat) (w : AW) : Option (Int32) :=
bd (fX8_isNamed N 0 w) (fun r2 =>
if r2 = 0 then (
bd (fX8_isNamed N 1 w) (fun r5 =>
if r5 = 0 then (
bd (fX8_isNamed N 2 w) (fun r8 =>
if r8 = 0 then (
some (-1))
else (
some 2)))
else (
some 1)))
else (
some 0))
def fX8_sortAt (a0 : Int32) (w : AW) : Option (Int32) :=
if a0 < 0 then (
some 0)
else (
if a0 < (w.1 37 1) then (
gd (inb a0 200) (
if (w.1 38 a0.toNatClampNeg) < 97 then (
if (w.1 38 a0.toNatClampNeg) < 48 then (
some 3)
else (
if 57 < (w.1 38 a0.toNatClampNeg) then (
some 3)
else (
some 2)))
else (
if 122 < (w.1 38 a0.toNatClampNeg) then (
if (w.1 38 a0.toNatClampNeg) < 48 then (
some 3)
else (
if 57 < (w.1 38 a0.toNatClampNeg) then (
some 3)
else (
some 2)))
else (
some 1))))
else (
some 0))
def lbX8_next_8_1 (N : Nat) : (AW) → Option ((AW) ⊕ (AW)) := fun s => match s with
  | w_8_1 => (
if (w_8_1.1 37 1) ≤ (w_8_1.1 37 5) then (
some (.inr w_8_1))
else (
gd (inb (w_8_1.1 37 5) 200) (
if (w_8_1.1 38 (w_8_1.1 37 5).toNatClampNeg) = 32 then (
lw (setI w_8_1 37 5 ((w_8_1.1 37 5) + 1)) (fun w5 =>
some (.inl w5)))
else (
some (.inr w_8_1)))))
def lbX8_next_82_2 (N : Nat) : (AW) → Option ((AW) ⊕ (AW)) := fun s => match s with
  | w_82_2 => (
if (w_82_2.1 37 4) = 1 then (
if (w_82_2.1 37 1) ≤ (w_82_2.1 37 6) then (
some (.inr w_82_2))
else (
bd (fX8_sortAt (w_82_2.1 37 6) w_82_2) (fun r16 =>
if r16 = (w_82_2.1 37 4) then (
lw (setI w_82_2 37 6 ((w_82_2.1 37 6) + 1)) (fun w18 =>
some (.inl w18)))
else (
some (.inr w_82_2)))))
else (
if (w_82_2.1 37 4) = 2 then (
if (w_82_2.1 37 1) ≤ (w_82_2.1 37 6) then (
some (.inr w_82_2))
else (
bd (fX8_sortAt (w_82_2.1 37 6) w_82_2) (fun r22 =>
if r22 = (w_82_2.1 37 4) then (
lw (setI w_82_2 37 6 ((w_82_2.1 37 6) + 1)) (fun w24 =>
some (.inl w24)))
else (
some (.inr w_82_2)))))
else (
some (.inr w_82_2))))
def lbX8_next_82_3 (N : Nat) : (AW) → Option ((AW) ⊕ (AW)) := fun s => match s with
  | w_82_3 => (
if (w_82_3.1 37 4) = 1 then (
if (w_82_3.1 37 1) ≤ (w_82_3.1 37 6) then (
some (.inr w_82_3))
else (
bd (fX8_sortAt (w_82_3.1 37 6) w_82_3) (fun r31 =>
if r31 = (w_82_3.1 37 4) then (
lw (setI w_82_3 37 6 ((w_82_3.1 37 6) + 1)) (fun w33 =>
some (.inl w33)))
else (
some (.inr w_82_3)))))
else (
if (w_82_3.1 37 4) = 2 then (
if (w_82_3.1 37 1) ≤ (w_82_3.1 37 6) then (
some (.inr w_82_3))
else (
bd (fX8_sortAt (w_82_3.1 37 6) w_82_3) (fun r37 =>
if r37 = (w_82_3.1 37 4) then (
lw (setI w_82_3 37 6 ((w_82_3.1 37 6) + 1)) (fun w39 =>
some (.inl w39)))
else (
some (.inr w_82_3)))))
else (
some (.inr w_82_3))))
def bX8_next_46 (N : Nat) (w : AW) : Option (AW) :=
bd (fX8_sortAt (w.1 37 5) w) (fun r9 =>
lw (setI w 37 4 r9) (fun w10 =>
if (w10.1 37 4) = 0 then (
lw (setI w10 37 6 (w10.1 37 5)) (fun w12 =>
bd (wh (lbX8_next_82_2 N) N w12) (fun w26 =>
some w26)))
else (
lw (setI w10 37 6 ((w10.1 37 5) + 1)) (fun w27 =>
bd (wh (lbX8_next_82_3 N) N w27) (fun w41 =>
some w41)))))
def fX8_next (N : Nat) (w : AW) : Option (AW) :=
lw (setI w 37 5 (w.1 37 6)) (fun w1 =>
bd (wh (lbX8_next_8_1 N) N w1) (fun w7 =>
bX8_next_46 N w7))
def fX8_kindNamed (N : Nat) (w : AW) : Option (Int32) :=
bd (fX8_isNamed N 3 w) (fun r2 =>
if r2 = 0 then (
bd (fX8_isNamed N 4 w) (fun r5 =>
if r5 = 0 then (
bd (fX8_isNamed N 5 w) (fun r8 =>
if r8 = 0 then (
bd (fX8_isNamed N 6 w) (fun r11 =>
if r11 = 0 then (
bd (fX8_isNamed N 7 w) (fun r14 =>
if r14 = 0 then (
bd (fX8_isNamed N 8 w) (fun r17 =>
if r17 = 0 then (
some (-1))
else (
some 5)))
else (
some 4)))
else (
some 3)))
else (
some 2)))
else (
some 1)))
else (
some 0))
def fX8_passName (N : Nat) (i0 : Nat) (w : AW) : Option (Int32 × AW) :=
bd (fX8_isNamed N i0 w) (fun r2 =>
if r2 = 0 then (
some (0, w))
else (
bd (fX8_next N w) (fun w5 =>
some (1, w5))))
def lbX8_passNumber_31_1 (N : Nat) (c1_31_1 : Int32) (c2_31_1 : Int32) (w_31_1 : AW) : (Int32 × Int32) → Option ((Int32 × Int32) ⊕ (Int32)) := fun s => match s with
  | (x3_31_1, x4_31_1) => (
if (w_31_1.1 37 6) ≤ x4_31_1 then (
some (.inr x3_31_1))
else (
gd (inb x4_31_1 200) (
lw (((x3_31_1 * 10) + (w_31_1.1 38 x4_31_1.toNatClampNeg)) - 48) (fun v5 =>
some (.inl (v5, (x4_31_1 + 1)))))))
def fX8_passNumber (N : Nat) (a0 : Int32) (a1 : Int32) (w : AW) : Option (Int32 × AW) :=
if (w.1 37 4) = 2 then (
if ((w.1 37 6) - (w.1 37 5)) ≤ 2 then (
bd (wh (lbX8_passNumber_31_1 N a0 a1 w) N (0, (w.1 37 5))) (fun y7 =>
bd (fX11_within y7 a0 a1 w) (fun r9 =>
if r9 = 0 then (
some (0, w))
else (
lw (setI w 37 7 y7) (fun w11 =>
bd (fX8_next N w11) (fun w13 =>
some (1, w13)))))))
else (
some (0, w)))
else (
some (0, w))
def fX8_passStop (N : Nat) (w : AW) : Option (Int32 × AW) :=
if (w.1 37 4) = 3 then (
gd (inb (w.1 37 5) 200) (
if (w.1 38 (w.1 37 5).toNatClampNeg) = 59 then (
bd (fX8_next N w) (fun w5 =>
some (1, w5)))
else (
some (0, w))))
else (
some (0, w))
def bX8_readJob_70 (N : Nat) (p1_70 : Int32) (p2_70 : Int32) (q0_70 : Int32) (w : AW) : Option (Int32 × AW) :=
bd2 (fX8_passName N 10 w) (fun r19 w20 =>
if r19 = 0 then (
some (0, w20))
else (
bd2 (fX8_passNumber N 0 60 w20) (fun r24 w25 =>
if r24 = 0 then (
some (0, w25))
else (
bd2 (fX8_passName N 11 w25) (fun r29 w30 =>
if r29 = 0 then (
some (0, w30))
else (
bd2 (fX8_passNumber N 0 99 w30) (fun r34 w35 =>
if r34 = 0 then (
some (0, w35))
else (
bd2 (fX8_passStop N w35) (fun r39 w40 =>
if r39 = 0 then (
some (0, w40))
else (
bd (fX4_add 39 p1_70 p2_70 q0_70 (w25.1 37 7) (w35.1 37 7) w40) (fun w44 =>
some (1, w44))))))))))))
def bX8_readJob_39 (N : Nat) (p1_39 : Int32) (w : AW) : Option (Int32 × AW) :=
bd2 (fX8_passNumber N 1 9 w) (fun r9 w10 =>
if r9 = 0 then (
some (0, w10))
else (
bd2 (fX8_passName N 9 w10) (fun r14 w15 =>
if r14 = 0 then (
bX8_readJob_70 N p1_39 (w10.1 37 7) 0 w15)
else (
bX8_readJob_70 N p1_39 (w10.1 37 7) 1 w15))))
def fX8_readJob (N : Nat) (w : AW) : Option (Int32 × AW) :=
if (w.1 39 0) < 6 then (
if (w.1 37 4) = 1 then (
bd (fX8_kindNamed N w) (fun r4 =>
if 0 ≤ r4 then (
bd (fX8_next N w) (fun w7 =>
bX8_readJob_39 N r4 w7))
else (
some (0, w))))
else (
bX8_readJob_39 N 0 w))
else (
some (0, w))
def fX8_readLaw (N : Nat) (a0 : Int32) (w : AW) : Option (Int32 × AW) :=
bd (fX8_next N w) (fun w2 =>
gd (inb a0 4) (
gd (inb a0 4) (
bd2 (fX8_passNumber N (leastS a0.toNatClampNeg) (mostS a0.toNatClampNeg) w2) (fun r6 w7 =>
if r6 = 0 then (
some (0, w7))
else (
bd2 (fX8_passStop N w7) (fun r11 w12 =>
if r11 = 0 then (
some (0, w12))
else (
gd (inb a0 4) (
lw (setI w12 45 a0.toNatClampNeg (w7.1 37 7)) (fun w16 =>
some (1, w16))))))))))
def lbX8_read_10_1 (N : Nat) : (Int32 × AW) → Option ((Int32 × AW) ⊕ (AW)) := fun s => match s with
  | (x1_10_1, w_10_1) => (
if 4 ≤ x1_10_1 then (
some (.inr w_10_1))
else (
gd (inb x1_10_1 4) (
lw (setI w_10_1 45 x1_10_1.toNatClampNeg (-1)) (fun w4 =>
some (.inl ((x1_10_1 + 1), w4))))))
def lbX8_read_39_2 (N : Nat) : (Int32 × AW) → Option ((Int32 × AW) ⊕ ((AW) ⊕ (AW))) := fun s => match s with
  | (x1_39_2, w_39_2) => (
if 200 ≤ x1_39_2 then (
some (.inr (.inl w_39_2)))
else (
if (w_39_2.1 37 4) = 0 then (
some (.inr (.inl w_39_2)))
else (
bd (fX8_lawNamed N w_39_2) (fun r13 =>
if r13 < 0 then (
bd2 (fX8_readJob N w_39_2) (fun r16 w17 =>
if r16 = 0 then (
some (.inr (.inr w17)))
else (
some (.inl ((x1_39_2 + 1), w17)))))
else (
bd2 (fX8_readLaw N r13 w_39_2) (fun r21 w22 =>
if r21 = 0 then (
some (.inr (.inr w22)))
else (
some (.inl ((x1_39_2 + 1), w22)))))))))
def fX8_read (N : Nat) (w : AW) : Option (Int32 × AW) :=
lw (setI w 39 0 0) (fun w1 =>
bd (wh (lbX8_read_10_1 N) N (0, w1)) (fun w6 =>
lw (setI w6 37 6 0) (fun w7 =>
bd (fX8_next N w7) (fun w9 =>
bd (wh (lbX8_read_39_2 N) N (0, w9)) (se (fun w26 =>
some ((-1), w26)) (fun w27 =>
some ((w27.1 37 5), w27)))))))
def fX8_useUp (w : AW) : Option (AW) :=
lw (setI w 37 1 0) (fun w1 =>
some w1)
def fX11_board (N : Nat) (w : AW) : Option (Int32 × AW) :=
bd2 (fX8_read N w) (fun r2 w3 =>
bd (fX8_useUp w3) (fun w6 =>
if r2 < 0 then (
bd (fX1_begin N 1 39 45 w6) (fun w9 =>
lw (setI w9 59 2 0) (fun w10 =>
some ((w10.1 2 0), w10))))
else (
some (((-100) - r2), w6))))
def lbX10_next_29_1 (N : Nat) (t : Nat) (c1_29_1 : Int32) (w_29_1 : AW) : (Int32 × Int32) → Option ((Int32 × Int32) ⊕ ((Unit) ⊕ (Int32))) := fun s => match s with
  | (x2_29_1, x3_29_1) => (
if (w_29_1.1 t 0) ≤ x3_29_1 then (
some (.inr (.inl ())))
else (
gd (inb x3_29_1 3) (
lw (x2_29_1 + (w_29_1.1 (t + 6) x3_29_1.toNatClampNeg)) (fun v5 =>
if v5 ≤ c1_29_1 then (
some (.inl (v5, (x3_29_1 + 1))))
else (
some (.inr (.inr x3_29_1)))))))
def fX10_next (N : Nat) (t : Nat) (w : AW) : Option (Int32 × AW) :=
lw (setI w t 1 (((w.1 t 1) * 1103515245) + 12345)) (fun w1 =>
lw ((((w1.1 t 1).toUInt32 >>> ((16 : Int32).toUInt32 &&& Int32.toUInt32 31)).toInt32) - (((w1.1 t 1).toUInt32 >>> ((16 : Int32).toUInt32 &&& Int32.toUInt32 31)).toInt32) / 4 * 4) (fun v2 =>
bd (wh (lbX10_next_29_1 N t v2 w1) N (0, 0)) (se (fun _ =>
some ((-9), w1)) (fun y8 =>
some (y8, w1)))))
def fX11_comes (N : Nat) (w : AW) : Option (Int32 × AW) :=
bd2 (fX10_next N 23 w) (fun r2 w3 =>
some (r2, w3))
def lbX1_leave_4_1 (N : Nat) (b : Nat) (c1_4_1 : Int32) : (Int32 × Int32 × AW) → Option ((Int32 × Int32 × AW) ⊕ (AW)) := fun s => match s with
  | (x2_4_1, x3_4_1, w_4_1) => (
if (w_4_1.1 (b + 1) 0) ≤ x3_4_1 then (
some (.inr w_4_1))
else (
gd (inb x3_4_1 6) (
lw (w_4_1.1 (b + 10) x3_4_1.toNatClampNeg) (fun v3 =>
if v3 = c1_4_1 then (
some (.inl (x2_4_1, (x3_4_1 + 1), w_4_1)))
else (
if v3 ≤ c1_4_1 then (
gd (inb x2_4_1 6) (
lw (setI w_4_1 (b + 10) x2_4_1.toNatClampNeg v3) (fun w7 =>
some (.inl ((x2_4_1 + 1), (x3_4_1 + 1), w7)))))
else (
gd (inb x2_4_1 6) (
lw (setI w_4_1 (b + 10) x2_4_1.toNatClampNeg (v3 - 1)) (fun w9 =>
some (.inl ((x2_4_1 + 1), (x3_4_1 + 1), w9))))))))))
def fX1_leave (N : Nat) (b : Nat) (a0 : Int32) (w : AW) : Option (AW) :=
bd (wh (lbX1_leave_4_1 N b a0) N (0, 0, w)) (fun w11 =>
bd (fX4_remove N (b + 1) a0 w11) (fun w13 =>
some w13))
def fX11_drop (N : Nat) (a0 : Int32) (w : AW) : Option (Int32 × AW) :=
bd (fX4_has 2 a0 w) (fun r2 =>
if r2 = 0 then (
some ((-1), w))
else (
bd (fX1_leave N 1 a0 w) (fun w5 =>
some ((w5.1 2 0), w5))))
def lbX3_follow_8_1 (N : Nat) (o0 : Nat) (r1 : Nat) : (Int32 × Int32 × Int32 × AW) → Option ((Int32 × Int32 × Int32 × AW) ⊕ (AW)) := fun s => match s with
  | (x3_8_1, x4_8_1, x5_8_1, w_8_1) => (
if (w_8_1.1 o0 0) ≤ x5_8_1 then (
some (.inr w_8_1))
else (
gd (inb x5_8_1 6) (
bd (fX3_usedBehind x3_8_1 x4_8_1 o0 (w_8_1.1 r1 x5_8_1.toNatClampNeg) w_8_1) (fun r4 =>
gd (inb (w_8_1.1 r1 x5_8_1.toNatClampNeg) 6) (
lw (w_8_1.1 (o0 + 3) (w_8_1.1 r1 x5_8_1.toNatClampNeg).toNatClampNeg) (fun v6 =>
bd (fX3_dayAt r4 w_8_1) (fun r8 =>
lw (setI w_8_1 48 (w_8_1.1 r1 x5_8_1.toNatClampNeg).toNatClampNeg r8) (fun w9 =>
some (.inl (r4, v6, (x5_8_1 + 1), w9))))))))))
def fX3_follow (N : Nat) (o0 : Nat) (r1 : Nat) (w : AW) : Option (AW) :=
bd (wh (lbX3_follow_8_1 N o0 r1) N (0, 0, 0, w)) (fun w11 =>
some w11)
def fX11_followPlan (N : Nat) (w : AW) : Option (AW) :=
bd (fX3_measure N 1 0 w) (fun w2 =>
bd (fX3_follow N 2 11 w2) (fun w4 =>
some w4))
def fX11_ends (N : Nat) (a0 : Int32) (w : AW) : Option (Int32 × AW) :=
bd (fX4_has 2 a0 w) (fun r2 =>
if r2 = 0 then (
some ((-1), w))
else (
bd (fX11_followPlan N w) (fun w5 =>
gd (inb a0 6) (
some ((w5.1 48 a0.toNatClampNeg), w5)))))
def lbX8_take_18_1 (N : Nat) (c1_18_1 : Int64) (c3_18_1 : Int32) : (Int32 × AW) → Option ((Int32 × AW) ⊕ (AW)) := fun s => match s with
  | (x4_18_1, w_18_1) => (
if c3_18_1 ≤ x4_18_1 then (
some (.inr w_18_1))
else (
gd (inb (w_18_1.1 37 1) 200) (
lw (setI w_18_1 38 (w_18_1.1 37 1).toNatClampNeg (vp_nar .byte ((((c1_18_1.toUInt64 >>> ((8 * x4_18_1).toInt64.toUInt64 &&& Int64.toUInt64 63)).toInt64).toInt32).toInt8.toInt32))) (fun w4 =>
lw (setI w4 37 1 ((w4.1 37 1) + 1)) (fun w5 =>
some (.inl ((x4_18_1 + 1), w5)))))))
def fX8_take (N : Nat) (a0 : Int64) (a1 : Int32) (w : AW) : Option (Int32 × AW) :=
if ((w.1 37 1) + a1) ≤ 200 then (
bd (wh (lbX8_take_18_1 N a0 a1) N (0, w)) (fun w7 =>
some ((w7.1 37 1), w7)))
else (
some ((-2), w))
def fX11_feed (N : Nat) (a0 : Int64) (a1 : Int32) (w : AW) : Option (Int32 × AW) :=
bd (fX11_within a1 1 8 w) (fun r2 =>
if r2 = 0 then (
some ((-1), w))
else (
bd2 (fX8_take N a0 a1 w) (fun r5 w6 =>
some (r5, w6))))
def fX5_fewestLate (N : Nat) (o0 : Nat) (w : AW) : Option (Int32 × AW) :=
bd2 (fX5_leastLost N 1 o0 (-9) w) (fun r2 w3 =>
some (r2, w3))
def fX11_fewest (N : Nat) (w : AW) : Option (Int32 × AW) :=
bd (fX3_measure N 1 0 w) (fun w2 =>
bd2 (fX5_fewestLate N 2 w2) (fun r4 w5 =>
some (r4, w5)))
def fX11_isJob (a0 : Int32) (a1 : Int32) (a2 : Int32) (a3 : Int32) (a4 : Int32) (w : AW) : Option (Int32) :=
bd (fX11_within a0 0 5 w) (fun r2 =>
if r2 = 0 then (
some 0)
else (
bd (fX11_within a1 1 9 w) (fun r5 =>
if r5 = 0 then (
some 0)
else (
bd (fX11_within a2 0 1 w) (fun r8 =>
if r8 = 0 then (
some 0)
else (
bd (fX11_within a3 0 60 w) (fun r11 =>
if r11 = 0 then (
some 0)
else (
bd (fX11_within a4 0 99 w) (fun r14 =>
if r14 = 0 then (
some 0)
else (
some 1))))))))))
def fX11_gain (N : Nat) (a0 : Int32) (a1 : Int32) (a2 : Int32) (a3 : Int32) (a4 : Int32) (w : AW) : Option (Int32 × AW) :=
bd (fX11_isJob a0 a1 a2 a3 a4 w) (fun r2 =>
if r2 = 0 then (
some ((-2147483648), w))
else (
if (w.1 2 0) < 6 then (
bd (fX3_measure N 1 0 w) (fun w6 =>
bd2 (fX5_mostWorth N 2 (-9) w6) (fun r8 w9 =>
bd (fX4_copy N 61 2 w9) (fun w12 =>
bd (fX4_add 61 a0 a1 a2 a3 a4 w12) (fun w14 =>
bd2 (fX5_mostWorth N 61 (-9) w14) (fun r16 w17 =>
some ((r16 - r8), w17)))))))
else (
some ((-2147483648), w))))
def bX1_workSlot_52 (N : Nat) (b : Nat) (p1_52 : Int32) (w : AW) : Option (Int32 × AW) :=
if (w.1 b 7) ≤ 0 then (
gd (inb p1_52 6) (
lw (setI w (b + 3) p1_52.toNatClampNeg ((w.1 (b + 3) p1_52.toNatClampNeg) - 1)) (fun w8 =>
if (w8.1 (b + 3) p1_52.toNatClampNeg) ≤ 0 then (
bd (fX4_valueOf (b + 1) p1_52 (w8.1 b 5) (w8.1 (b + 7) (2 : Int32).toNatClampNeg) w8) (fun r11 =>
lw (setI w8 b 8 ((w8.1 b 8) + r11)) (fun w12 =>
bd (fX1_leave N b p1_52 w12) (fun w14 =>
some (1, w14)))))
else (
some (0, w8)))))
else (
lw (setI w b 7 ((w.1 b 7) - 1)) (fun w15 =>
some (0, w15)))
def fX1_workSlot (N : Nat) (b : Nat) (a0 : Int32) (w : AW) : Option (Int32 × AW) :=
bd (fX4_has (b + 1) a0 w) (fun r2 =>
if r2 = 0 then (
some (0, w))
else (
gd (inb a0 6) (
if (w.1 (b + 4) a0.toNatClampNeg) = (w.1 b 6) then (
bX1_workSlot_52 N b a0 w)
else (
lw (setI w b 6 (w.1 (b + 4) a0.toNatClampNeg)) (fun w16 =>
lw (setI w16 b 7 (w16.1 (b + 7) (1 : Int32).toNatClampNeg)) (fun w17 =>
bX1_workSlot_52 N b a0 w17))))))
def lbX1_workDay_13_1 (N : Nat) (b : Nat) (c2_13_1 : Int32) : (Int32 × Int32 × AW) → Option ((Int32 × Int32 × AW) ⊕ (Int32 × AW)) := fun s => match s with
  | (x1_13_1, x3_13_1, w_13_1) => (
if c2_13_1 ≤ x3_13_1 then (
some (.inr (x1_13_1, w_13_1)))
else (
if (w_13_1.1 (b + 1) 0) ≤ 0 then (
some (.inr (x1_13_1, w_13_1)))
else (
bd2 (fX1_workSlot N b (w_13_1.1 (b + 10) (0 : Int32).toNatClampNeg) w_13_1) (fun r6 w7 =>
if r6 = 0 then (
some (.inl (x1_13_1, (x3_13_1 + 1), w7)))
else (
some (.inl ((x1_13_1 + 1), (x3_13_1 + 1), w7)))))))
def fX1_workDay (N : Nat) (b : Nat) (w : AW) : Option (Int32 × AW) :=
bd (fX1_slotsOn b (w.1 b 5) w) (fun r2 =>
bd (wh (lbX1_workDay_13_1 N b r2) N (0, 0, w)) (fun q => match q with | (y11, w12) => (
lw (setI w12 b 5 ((w12.1 b 5) + 1)) (fun w13 =>
some (y11, w13)))))
def fX11_goes (N : Nat) (w : AW) : Option (Int32 × AW) :=
if (w.1 1 5) < 60 then (
bd2 (fX1_workDay N 1 w) (fun r3 w4 =>
some (r3, w4)))
else (
some ((-4), w))
def fX11_item (a0 : Int32) (a1 : Int32) (a2 : Int32) (w : AW) : Option (Int32) :=
bd (fX7_isPlace a0 w) (fun r2 =>
if r2 = 0 then (
some (-1))
else (
bd (fX11_within a1 0 3 w) (fun r5 =>
if r5 = 0 then (
some (-1))
else (
gd (inb a0 4) (
if (w.1 68 a0.toNatClampNeg) = (-1) then (
some (-11))
else (
if (w.1 68 a0.toNatClampNeg) = a1 then (
bd (fX11_within a2 0 ((w.1 69 a0.toNatClampNeg) - 1) w) (fun r11 =>
if r11 = 0 then (
some (-12))
else (
gd (inb ((a0 * 40) + a2) 160) (
some (w.1 70 ((a0 * 40) + a2).toNatClampNeg)))))
else (
some (-13))))))))
def fX1_come (b : Nat) (a0 : Int32) (a1 : Int32) (a2 : Int32) (a3 : Int32) (a4 : Int32) (w : AW) : Option (Int32 × AW) :=
if (w.1 (b + 1) 0) < 6 then (
gd (inb (w.1 (b + 1) 0) 6) (
lw (setI w (b + 10) (w.1 (b + 1) 0).toNatClampNeg (w.1 (b + 1) 0)) (fun w3 =>
bd (fX4_add (b + 1) a0 a1 a2 a3 a4 w3) (fun w5 =>
some (((w5.1 (b + 1) 0) - 1), w5)))))
else (
some ((-2), w))
def fX11_job (a0 : Int32) (a1 : Int32) (a2 : Int32) (a3 : Int32) (a4 : Int32) (w : AW) : Option (Int32 × AW) :=
bd (fX11_isJob a0 a1 a2 a3 a4 w) (fun r2 =>
if r2 = 0 then (
some ((-1), w))
else (
bd2 (fX1_come 1 a0 a1 a2 a3 a4 w) (fun r5 w6 =>
some (r5, w6))))
def fX11_jobOf (a0 : Int32) (a1 : Int32) (w : AW) : Option (Int32) :=
bd (fX4_has 2 a0 w) (fun r2 =>
if r2 = 0 then (
some (-1))
else (
if a1 = 0 then (
gd (inb a0 6) (
some (w.1 3 a0.toNatClampNeg)))
else (if a1 = 1 then (
gd (inb a0 6) (
some (w.1 4 a0.toNatClampNeg)))
else (if a1 = 2 then (
gd (inb a0 6) (
some (w.1 5 a0.toNatClampNeg)))
else (if a1 = 3 then (
gd (inb a0 6) (
some (w.1 6 a0.toNatClampNeg)))
else (if a1 = 4 then (
gd (inb a0 6) (
some (w.1 7 a0.toNatClampNeg)))
else (
some (-1))))))))
def lbX6_firstWrong_10_1 (N : Nat) (o0 : Nat) (w_10_1 : AW) : (Int32 × Int32 × Int32 × Int32) → Option ((Int32 × Int32 × Int32 × Int32) ⊕ ((Unit) ⊕ ((Int32) ⊕ ((Int32) ⊕ (Int32))))) := fun s => match s with
  | (x2_10_1, x3_10_1, x4_10_1, x5_10_1) => (
if (w_10_1.1 59 2) ≤ x5_10_1 then (
some (.inr (.inl ())))
else (
gd (inb (x5_10_1 * 3) 18) (
lw (w_10_1.1 60 (x5_10_1 * 3).toNatClampNeg) (fun v3 =>
bd (fX4_has o0 v3 w_10_1) (fun r5 =>
if r5 = 0 then (
some (.inr (.inr (.inl x5_10_1))))
else (
if ((x4_10_1 >>> (v3 &&& 31)) &&& 1) = 0 then (
bd (fX3_usedBehind x2_10_1 x3_10_1 o0 v3 w_10_1) (fun r9 =>
gd (inb v3 6) (
bd (fX3_dayAt r9 w_10_1) (fun r12 =>
gd (inb ((x5_10_1 * 3) + 1) 18) (
if (w_10_1.1 60 ((x5_10_1 * 3) + 1).toNatClampNeg) = r12 then (
gd (inb ((x5_10_1 * 3) + 2) 18) (
bd (fX4_valueOf o0 v3 r12 (w_10_1.1 46 2) w_10_1) (fun r17 =>
if (w_10_1.1 60 ((x5_10_1 * 3) + 2).toNatClampNeg) = r17 then (
some (.inl (r9, (w_10_1.1 (o0 + 3) v3.toNatClampNeg), (x4_10_1 ||| (1 <<< (v3 &&& 31))), (x5_10_1 + 1))))
else (
some (.inr (.inr (.inr (.inr x5_10_1))))))))
else (
some (.inr (.inr (.inr (.inl x5_10_1))))))))))
else (
some (.inr (.inr (.inl x5_10_1))))))))))
def fX6_firstWrong (N : Nat) (o0 : Nat) (w : AW) : Option (Int32) :=
bd (wh (lbX6_firstWrong_10_1 N o0 w) N (0, 0, 0, 0)) (se (fun _ =>
if (w.1 o0 0) ≤ (w.1 59 2) then (
some 0)
else (
some 222)) (se (fun y21 =>
some (y21 + 1)) (se (fun y22 =>
some (y22 + 1)) (fun y23 =>
some (y23 + 1)))))
def fX11_judge (N : Nat) (w : AW) : Option (Int32 × AW) :=
bd (fX3_measure N 1 0 w) (fun w2 =>
bd (fX6_firstWrong N 2 w2) (fun r4 =>
some (r4, w2)))
def fX11_keep (N : Nat) (w : AW) : Option (Int32 × AW) :=
bd (fX1_copy N 12 1 w) (fun w2 =>
bd (fX10_copy N 30 23 w2) (fun w4 =>
lw (setI w4 0 4 1) (fun w5 =>
some (1, w5))))
def lbX11_late_8_1 (N : Nat) (w_8_1 : AW) : (Int32 × Int32) → Option ((Int32 × Int32) ⊕ (Int32)) := fun s => match s with
  | (x1_8_1, x2_8_1) => (
if (w_8_1.1 2 0) ≤ x2_8_1 then (
some (.inr x1_8_1))
else (
gd (inb x2_8_1 6) (
if (w_8_1.1 48 x2_8_1.toNatClampNeg) ≤ (w_8_1.1 6 x2_8_1.toNatClampNeg) then (
some (.inl (x1_8_1, (x2_8_1 + 1))))
else (
some (.inl ((x1_8_1 ||| (1 <<< (x2_8_1 &&& 31))), (x2_8_1 + 1)))))))
def fX11_late (N : Nat) (w : AW) : Option (Int32 × AW) :=
bd (fX11_followPlan N w) (fun w2 =>
bd (wh (lbX11_late_8_1 N w2) N (0, 0)) (fun y7 =>
some (y7, w2)))
def fX11_lose (a0 : Int32) (a1 : Int32) (w : AW) : Option (Int32 × AW) :=
bd (fX11_within a0 0 60 w) (fun r2 =>
if r2 = 0 then (
some ((-1), w))
else (
bd (fX11_within a1 0 9 w) (fun r5 =>
if r5 = 0 then (
some ((-1), w))
else (
gd (inb a0 61) (
lw (setI w 9 a0.toNatClampNeg a1) (fun w8 =>
some ((w.1 9 a0.toNatClampNeg), w8)))))))
def fX11_many (a0 : Int32) (w : AW) : Option (Int32) :=
if a0 = 0 then (
some (w.1 2 0))
else (if a0 = 1 then (
some (w.1 23 0))
else (if a0 = 2 then (
some (w.1 59 2))
else (if a0 = 3 then (
some (w.1 37 1))
else (if a0 = 4 then (
some (w.1 74 5))
else (
some (-1))))))
def fX2_begin (a0 : Int32) (w : AW) : Option (AW) :=
gd (isb a0) (
lw (setI w 52 6 a0) (fun w1 =>
lw (setI w1 53 (1 : Int32).toNatClampNeg 0) (fun w3 =>
lw (setI w3 54 (1 : Int32).toNatClampNeg 1) (fun w4 =>
lw (setI w4 55 (0 : Int32).toNatClampNeg 1) (fun w5 =>
some w5)))))
def lbX2_spread_62_2 (N : Nat) (o0 : Nat) (c2_62_2 : Int32) (c3_62_2 : Int32) (c4_62_2 : Int32) (c5_62_2 : Int32) (c6_62_2 : Int32) (c9_62_2 : Int32) : (Int32 × Int32 × Int32 × Int32 × AW) → Option ((Int32 × Int32 × Int32 × Int32 × AW) ⊕ (Int32 × Int32 × AW)) := fun s => match s with
  | (x7_62_2, x8_62_2, x10_62_2, x11_62_2, w_62_2) => (
if 2 ≤ x11_62_2 then (
some (.inr (x7_62_2, x8_62_2, w_62_2)))
else (
gd (inb (c5_62_2 + c9_62_2) 128) (
if x11_62_2 = 0 then (
lw ((w_62_2.1 54 (c5_62_2 + c9_62_2).toNatClampNeg) * (4 - (w_62_2.1 46 3))) (fun v10 =>
bd (fX3_dayAt x10_62_2 w_62_2) (fun r12 =>
if v10 ≤ 0 then (
gd (inb c4_62_2 6) (
lw (x10_62_2 + (w_62_2.1 (o0 + 2) c4_62_2.toNatClampNeg)) (fun v15 =>
some (.inl (x7_62_2, x8_62_2, v15, (x11_62_2 + 1), w_62_2)))))
else (
if (w_62_2.1 52 6) = 0 then (
gd (inb c4_62_2 6) (
if (w_62_2.1 (o0 + 4) c4_62_2.toNatClampNeg) < r12 then (
lw (x10_62_2 + (w_62_2.1 (o0 + 2) c4_62_2.toNatClampNeg)) (fun v19 =>
some (.inl (x7_62_2, x8_62_2, v19, (x11_62_2 + 1), w_62_2))))
else (
gd (inb (c6_62_2 + x7_62_2) 128) (
lw (setI w_62_2 53 (c6_62_2 + x7_62_2).toNatClampNeg x10_62_2) (fun w21 =>
lw (setI w21 54 (c6_62_2 + x7_62_2).toNatClampNeg v10) (fun w22 =>
bd (fX4_valueOf o0 c4_62_2 r12 (w22.1 46 2) w22) (fun r24 =>
lw (setI w22 52 7 ((w22.1 52 7) + (v10 * r24))) (fun w25 =>
lw (x10_62_2 + (w25.1 (o0 + 2) c4_62_2.toNatClampNeg)) (fun v26 =>
some (.inl ((x7_62_2 + 1), (x8_62_2 + v10), v26, (x11_62_2 + 1), w25)))))))))))
else (
gd (inb (c6_62_2 + x7_62_2) 128) (
lw (setI w_62_2 53 (c6_62_2 + x7_62_2).toNatClampNeg x10_62_2) (fun w28 =>
lw (setI w28 54 (c6_62_2 + x7_62_2).toNatClampNeg v10) (fun w29 =>
bd (fX4_valueOf o0 c4_62_2 r12 (w29.1 46 2) w29) (fun r31 =>
lw (setI w29 52 7 ((w29.1 52 7) + (v10 * r31))) (fun w32 =>
gd (inb c4_62_2 6) (
lw (x10_62_2 + (w32.1 (o0 + 2) c4_62_2.toNatClampNeg)) (fun v34 =>
some (.inl ((x7_62_2 + 1), (x8_62_2 + v10), v34, (x11_62_2 + 1), w32))))))))))))))
else (
lw ((w_62_2.1 54 (c5_62_2 + c9_62_2).toNatClampNeg) * (w_62_2.1 46 3)) (fun v35 =>
bd (fX3_dayAt x10_62_2 w_62_2) (fun r37 =>
if v35 ≤ 0 then (
gd (inb c4_62_2 6) (
lw (x10_62_2 + (w_62_2.1 (o0 + 2) c4_62_2.toNatClampNeg)) (fun v40 =>
some (.inl (x7_62_2, x8_62_2, v40, (x11_62_2 + 1), w_62_2)))))
else (
if (w_62_2.1 52 6) = 0 then (
gd (inb c4_62_2 6) (
if (w_62_2.1 (o0 + 4) c4_62_2.toNatClampNeg) < r37 then (
lw (x10_62_2 + (w_62_2.1 (o0 + 2) c4_62_2.toNatClampNeg)) (fun v44 =>
some (.inl (x7_62_2, x8_62_2, v44, (x11_62_2 + 1), w_62_2))))
else (
gd (inb (c6_62_2 + x7_62_2) 128) (
lw (setI w_62_2 53 (c6_62_2 + x7_62_2).toNatClampNeg x10_62_2) (fun w46 =>
lw (setI w46 54 (c6_62_2 + x7_62_2).toNatClampNeg v35) (fun w47 =>
bd (fX4_valueOf o0 c4_62_2 r37 (w47.1 46 2) w47) (fun r49 =>
lw (setI w47 52 7 ((w47.1 52 7) + (v35 * r49))) (fun w50 =>
lw (x10_62_2 + (w50.1 (o0 + 2) c4_62_2.toNatClampNeg)) (fun v51 =>
some (.inl ((x7_62_2 + 1), (x8_62_2 + v35), v51, (x11_62_2 + 1), w50)))))))))))
else (
gd (inb (c6_62_2 + x7_62_2) 128) (
lw (setI w_62_2 53 (c6_62_2 + x7_62_2).toNatClampNeg x10_62_2) (fun w53 =>
lw (setI w53 54 (c6_62_2 + x7_62_2).toNatClampNeg v35) (fun w54 =>
bd (fX4_valueOf o0 c4_62_2 r37 (w54.1 46 2) w54) (fun r56 =>
lw (setI w54 52 7 ((w54.1 52 7) + (v35 * r56))) (fun w57 =>
gd (inb c4_62_2 6) (
lw (x10_62_2 + (w57.1 (o0 + 2) c4_62_2.toNatClampNeg)) (fun v59 =>
some (.inl ((x7_62_2 + 1), (x8_62_2 + v35), v59, (x11_62_2 + 1), w57)))))))))))))))))
def lbX2_spread_25_1 (N : Nat) (o0 : Nat) (c2_25_1 : Int32) (c3_25_1 : Int32) (c4_25_1 : Int32) (c5_25_1 : Int32) (c6_25_1 : Int32) : (Int32 × Int32 × Int32 × AW) → Option ((Int32 × Int32 × Int32 × AW) ⊕ (Int32 × Int32 × AW)) := fun s => match s with
  | (x7_25_1, x8_25_1, x9_25_1, w_25_1) => (
gd (inb c2_25_1 7) (
if (w_25_1.1 55 c2_25_1.toNatClampNeg) ≤ x9_25_1 then (
some (.inr (x7_25_1, x8_25_1, w_25_1)))
else (
gd (inb (c5_25_1 + x9_25_1) 128) (
bd (fX3_usedBehind (w_25_1.1 53 (c5_25_1 + x9_25_1).toNatClampNeg) c3_25_1 o0 c4_25_1 w_25_1) (fun r6 =>
bd (wh (lbX2_spread_62_2 N o0 c2_25_1 c3_25_1 c4_25_1 c5_25_1 c6_25_1 x9_25_1) N (x7_25_1, x8_25_1, r6, 0, w_25_1)) (fun q => match q with | (y61, y62, w63) => (
some (.inl (y61, y62, (x9_25_1 + 1), w63)))))))))
def fX2_spread (N : Nat) (o0 : Nat) (a1 : Int32) (a2 : Int32) (a3 : Int32) (w : AW) : Option (Int32 × AW) :=
lw (setI w 52 7 0) (fun w1 =>
bd (wh (lbX2_spread_25_1 N o0 a1 a2 a3 (1 <<< (a1 &&& 31)) ((1 <<< (a1 &&& 31)) * 2)) N (0, 0, 0, w1)) (fun q => match q with | (y65, y66, w67) => (
gd (inb (a1 + 1) 7) (
lw (setI w67 55 (a1 + 1).toNatClampNeg y65) (fun w69 =>
some (y66, w69))))))
def lbX2_meanOf_10_1 (N : Nat) (o0 : Nat) (r1 : Nat) : (Int32 × Int32 × AW) → Option ((Int32 × Int32 × AW) ⊕ (Int32 × AW)) := fun s => match s with
  | (x3_10_1, x4_10_1, w_10_1) => (
if (w_10_1.1 o0 0) ≤ x4_10_1 then (
some (.inr (x3_10_1, w_10_1)))
else (
if x4_10_1 = 0 then (
gd (inb x4_10_1 6) (
bd2 (fX2_spread N o0 x4_10_1 0 (w_10_1.1 r1 x4_10_1.toNatClampNeg) w_10_1) (fun r7 w8 =>
some (.inl (((x3_10_1 * 4) + (w8.1 52 7)), (x4_10_1 + 1), w8)))))
else (
gd (inb (x4_10_1 - 1) 6) (
gd (inb (w_10_1.1 r1 (x4_10_1 - 1).toNatClampNeg) 6) (
gd (inb x4_10_1 6) (
bd2 (fX2_spread N o0 x4_10_1 (w_10_1.1 (o0 + 3) (w_10_1.1 r1 (x4_10_1 - 1).toNatClampNeg).toNatClampNeg) (w_10_1.1 r1 x4_10_1.toNatClampNeg) w_10_1) (fun r14 w15 =>
some (.inl (((x3_10_1 * 4) + (w15.1 52 7)), (x4_10_1 + 1), w15)))))))))
def fX2_meanOf (N : Nat) (o0 : Nat) (r1 : Nat) (w : AW) : Option (Int32 × AW) :=
bd (fX2_begin 1 w) (fun w2 =>
bd (wh (lbX2_meanOf_10_1 N o0 r1) N (0, 0, w2)) (fun q => match q with | (y18, w19) => (
some (y18, w19))))
def fX11_mean (N : Nat) (a0 : Int32) (w : AW) : Option (Int32 × AW) :=
bd (fX11_within a0 0 1 w) (fun r2 =>
if r2 = 0 then (
some ((-2147483648), w))
else (
bd (fX3_measure N 1 0 w) (fun w5 =>
bd2 (fX2_meanOf N 2 11 w5) (fun r7 w8 =>
bd (fX11_partOf N r7 (2 * (w8.1 2 0)) a0 w8) (fun r11 =>
some (r11, w8))))))
def fX11_night (a0 : Int32) (a1 : Int32) (w : AW) : Option (Int32 × AW) :=
bd (fX11_within a0 0 60 w) (fun r2 =>
if r2 = 0 then (
some ((-1), w))
else (
bd (fX11_within a1 0 9 w) (fun r5 =>
if r5 = 0 then (
some ((-1), w))
else (
gd (inb a0 61) (
lw (setI w 10 a0.toNatClampNeg a1) (fun w8 =>
some ((w.1 10 a0.toNatClampNeg), w8)))))))
def lbX11_nights_2_1 (N : Nat) : (Int32 × AW) → Option ((Int32 × AW) ⊕ ((AW) ⊕ (Int32 × AW))) := fun s => match s with
  | (x1_2_1, w_2_1) => (
if 9 < x1_2_1 then (
some (.inr (.inl w_2_1)))
else (
bd (fX3_measure N 1 x1_2_1 w_2_1) (fun w3 =>
bd2 (fX5_fewestLate N 2 w3) (fun r5 w6 =>
if r5 = 0 then (
some (.inr (.inr (x1_2_1, w6))))
else (
some (.inl ((x1_2_1 + 1), w6)))))))
def fX11_nights (N : Nat) (w : AW) : Option (Int32 × AW) :=
bd (wh (lbX11_nights_2_1 N) N (0, w)) (se (fun w10 =>
some ((-3), w10)) (fun q => match q with | (y11, w12) => (
some (y11, w12))))
def lbX1_arrange_24_1 (N : Nat) (b : Nat) (c1_24_1 : Int32) (w_24_1 : AW) : (Int32 × Int32) → Option ((Int32 × Int32) ⊕ (Int32)) := fun s => match s with
  | (x2_24_1, x3_24_1) => (
if (w_24_1.1 (b + 1) 0) ≤ x3_24_1 then (
some (.inr x2_24_1))
else (
lw (x2_24_1 ||| (1 <<< (((c1_24_1 >>> ((3 * x3_24_1) &&& 31)) &&& 7) &&& 31))) (fun v4 =>
some (.inl (v4, (x3_24_1 + 1))))))
def lbX1_arrange_73_2 (N : Nat) (b : Nat) (c1_73_2 : Int32) : (Int32 × AW) → Option ((Int32 × AW) ⊕ (AW)) := fun s => match s with
  | (x3_73_2, w_73_2) => (
if (w_73_2.1 (b + 1) 0) ≤ x3_73_2 then (
some (.inr w_73_2))
else (
gd (inb x3_73_2 6) (
lw (setI w_73_2 (b + 10) x3_73_2.toNatClampNeg ((c1_73_2 >>> ((3 * x3_73_2) &&& 31)) &&& 7)) (fun w10 =>
some (.inl ((x3_73_2 + 1), w10))))))
def fX1_arrange (N : Nat) (b : Nat) (a0 : Int32) (w : AW) : Option (Int32 × AW) :=
if a0 < 0 then (
some (0, w))
else (
if (a0 >>> ((3 * (w.1 (b + 1) 0)) &&& 31)) = 0 then (
bd (wh (lbX1_arrange_24_1 N b a0 w) N (0, 0)) (fun y6 =>
if y6 = ((1 <<< ((w.1 (b + 1) 0) &&& 31)) - 1) then (
bd (wh (lbX1_arrange_73_2 N b a0) N (0, w)) (fun w12 =>
some (1, w12)))
else (
some (0, w))))
else (
some (0, w)))
def fX11_plan (N : Nat) (a0 : Int32) (w : AW) : Option (Int32 × AW) :=
bd2 (fX1_arrange N 1 a0 w) (fun r2 w3 =>
if r2 = 0 then (
some ((-1), w3))
else (
some (1, w3)))
def fX11_planOf (a0 : Int32) (w : AW) : Option (Int32) :=
bd (fX4_has 2 a0 w) (fun r2 =>
if r2 = 0 then (
some (-1))
else (
gd (inb a0 6) (
some (w.1 11 a0.toNatClampNeg))))
def fX11_press (a0 : Int32) (w : AW) : Option (Int32) :=
if a0 = 0 then (
some (w.1 1 5))
else (if a0 = 1 then (
some (w.1 1 6))
else (if a0 = 2 then (
some (w.1 1 7))
else (
some (-1))))
def lbX6_fill_19_1 (N : Nat) (o0 : Nat) (r1 : Nat) : (Int32 × AW) → Option ((Int32 × AW) ⊕ (AW)) := fun s => match s with
  | (x3_19_1, w_19_1) => (
if (w_19_1.1 o0 0) ≤ x3_19_1 then (
some (.inr w_19_1))
else (
gd (inb x3_19_1 6) (
gd (inb (x3_19_1 * 3) 18) (
lw (setI w_19_1 60 (x3_19_1 * 3).toNatClampNeg (w_19_1.1 r1 x3_19_1.toNatClampNeg)) (fun w7 =>
gd (inb (w_19_1.1 r1 x3_19_1.toNatClampNeg) 6) (
gd (inb ((x3_19_1 * 3) + 1) 18) (
lw (setI w7 60 ((x3_19_1 * 3) + 1).toNatClampNeg (w7.1 48 (w_19_1.1 r1 x3_19_1.toNatClampNeg).toNatClampNeg)) (fun w10 =>
bd (fX4_valueOf o0 (w_19_1.1 r1 x3_19_1.toNatClampNeg) (w10.1 48 (w_19_1.1 r1 x3_19_1.toNatClampNeg).toNatClampNeg) (w10.1 46 2) w10) (fun r12 =>
gd (inb ((x3_19_1 * 3) + 2) 18) (
lw (setI w10 60 ((x3_19_1 * 3) + 2).toNatClampNeg r12) (fun w14 =>
some (.inl ((x3_19_1 + 1), w14)))))))))))))
def fX6_fill (N : Nat) (o0 : Nat) (r1 : Nat) (w : AW) : Option (AW) :=
bd (fX3_follow N o0 r1 w) (fun w2 =>
lw (setI w2 59 2 (w2.1 o0 0)) (fun w3 =>
bd (wh (lbX6_fill_19_1 N o0 r1) N (0, w3)) (fun w16 =>
some w16)))
def fX11_prove (N : Nat) (w : AW) : Option (Int32 × AW) :=
bd (fX3_measure N 1 0 w) (fun w2 =>
bd2 (fX5_mostWorth N 2 (-9) w2) (fun r4 w5 =>
bd (fX6_fill N 2 51 w5) (fun w8 =>
some ((w8.1 59 2), w8))))
def fX7_narrowed (a0 : Int32) (a1 : Int32) (w : AW) : Option (Int32) :=
if a1 = 0 then (
some a0.toInt8.toInt32)
else (
if a1 = 1 then (
some a0.toInt16.toInt32)
else (
some a0))
def fX11_put (a0 : Int32) (a1 : Int32) (a2 : Int32) (w : AW) : Option (Int32 × AW) :=
bd (fX7_isPlace a0 w) (fun r2 =>
if r2 = 0 then (
some ((-1), w))
else (
gd (inb a0 4) (
if (w.1 68 a0.toNatClampNeg) = (-1) then (
some ((-11), w))
else (
bd (fX11_within a1 0 ((w.1 69 a0.toNatClampNeg) - 1) w) (fun r7 =>
if r7 = 0 then (
some ((-12), w))
else (
bd (fX7_narrowed a2 (w.1 68 a0.toNatClampNeg) w) (fun r10 =>
gd (inb ((a0 * 40) + a1) 160) (
lw (setI w 70 ((a0 * 40) + a1).toNatClampNeg r10) (fun w12 =>
some (1, w12))))))))))
def fX11_row (a0 : Int32) (a1 : Int32) (w : AW) : Option (Int32) :=
bd (fX6_has a0 a1 w) (fun r2 =>
if r2 = 0 then (
some (-2147483648))
else (
gd (inb ((a0 * 3) + a1) 18) (
some (w.1 60 ((a0 * 3) + a1).toNatClampNeg))))
def lbX2_walk_52_1 (N : Nat) (rec : Nat → Int32 → Int32 → Int32 → Int32 → AW → Option (AW)) (o0 : Nat) (c2_52_1 : Int32) (c3_52_1 : Int32) (c4_52_1 : Int32) : (Int32 × AW) → Option ((Int32 × AW) ⊕ (AW)) := fun s => match s with
  | (x6_52_1, w_52_1) => (
if (w_52_1.1 o0 0) ≤ x6_52_1 then (
some (.inr w_52_1))
else (
if ((c4_52_1 >>> (x6_52_1 &&& 31)) &&& 1) = 0 then (
gd (inb c2_52_1 6) (
lw (setI w_52_1 56 c2_52_1.toNatClampNeg x6_52_1) (fun w6 =>
gd (inb x6_52_1 6) (
bd2 (fX2_spread N o0 c2_52_1 c3_52_1 x6_52_1 w6) (fun r9 w10 =>
bd (rec o0 (c2_52_1 + 1) (w6.1 (o0 + 3) x6_52_1.toNatClampNeg) (c4_52_1 ||| (1 <<< (x6_52_1 &&& 31))) r9 w10) (fun w13 =>
some (.inl ((x6_52_1 + 1), w13))))))))
else (
some (.inl ((x6_52_1 + 1), w_52_1)))))
def fX2_walk_b (N : Nat) (rec : Nat → Int32 → Int32 → Int32 → Int32 → AW → Option (AW)) (o0 : Nat) (a1 : Int32) (a2 : Int32) (a3 : Int32) (a4 : Int32) (w : AW) : Option (AW) :=
if (w.1 52 8) < (a4 <<< ((2 * ((w.1 o0 0) - a1)) &&& 31)) then (
if a1 < (w.1 o0 0) then (
bd (wh (lbX2_walk_52_1 N rec o0 a1 a2 a3) N (0, w)) (fun w15 =>
some w15))
else (
lw (setI w 52 8 a4) (fun w16 =>
lw (cpyI w16 56 (0 : Int32).toNatClampNeg 57 (0 : Int32).toNatClampNeg (6 : Int32).toNatClampNeg) (fun w17 =>
some w17))))
else (
some w)
def fX2_walk (N : Nat) : Nat → Nat → Int32 → Int32 → Int32 → Int32 → AW → Option (AW)
  | 0, o0, a1, a2, a3, a4, w => none
  | n + 1, o0, a1, a2, a3, a4, w => fX2_walk_b N (fun o0 a1 a2 a3 a4 w => fX2_walk N n o0 a1 a2 a3 a4 w) o0 a1 a2 a3 a4 w
def fX2_surest (N : Nat) (o0 : Nat) (w : AW) : Option (Int32 × AW) :=
bd (fX2_begin 0 w) (fun w2 =>
lw (setI w2 52 8 (-1)) (fun w3 =>
bd (fX2_walk N 8 o0 0 0 0 1 w3) (fun w5 =>
some ((w5.1 52 8), w5))))
def fX11_safest (N : Nat) (a0 : Int32) (w : AW) : Option (Int32 × AW) :=
bd (fX11_within a0 0 2 w) (fun r2 =>
if r2 = 0 then (
some ((-1), w))
else (
bd (fX3_measure N 1 0 w) (fun w5 =>
bd2 (fX2_surest N 2 w5) (fun r7 w8 =>
if a0 = 0 then (
bd (fX11_digitsOf N 57 (w8.1 2 0) w8) (fun r12 =>
some (r12, w8)))
else (
bd (fX11_partOf N r7 (2 * (w8.1 2 0)) (a0 - 1) w8) (fun r14 =>
some (r14, w8)))))))
def fX11_seed (a0 : Int32) (w : AW) : Option (Int32 × AW) :=
lw (setI w 23 1 a0) (fun w1 =>
some ((w.1 23 1), w1))
def fX11_set (a0 : Int32) (a1 : Int32) (w : AW) : Option (Int32 × AW) :=
bd (fX11_within a0 0 3 w) (fun r2 =>
if r2 = 0 then (
some ((-1), w))
else (
gd (inb a0 4) (
gd (inb a0 4) (
bd (fX11_within a1 (leastS a0.toNatClampNeg) (mostS a0.toNatClampNeg) w) (fun r7 =>
if r7 = 0 then (
some ((-1), w))
else (
gd (inb a0 4) (
lw (setI w 8 a0.toNatClampNeg a1) (fun w10 =>
some ((w.1 8 a0.toNatClampNeg), w10)))))))))
def lbX7_lay_26_1 (N : Nat) (c1_26_1 : Int32) : (Int32 × AW) → Option ((Int32 × AW) ⊕ (AW)) := fun s => match s with
  | (x4_26_1, w_26_1) => (
if 40 ≤ x4_26_1 then (
some (.inr w_26_1))
else (
gd (inb ((c1_26_1 * 40) + x4_26_1) 160) (
lw (setI w_26_1 70 ((c1_26_1 * 40) + x4_26_1).toNatClampNeg 0) (fun w7 =>
some (.inl ((x4_26_1 + 1), w7))))))
def lbX7_lay_26_2 (N : Nat) (c1_26_2 : Int32) : (Int32 × AW) → Option ((Int32 × AW) ⊕ (AW)) := fun s => match s with
  | (x4_26_2, w_26_2) => (
if 40 ≤ x4_26_2 then (
some (.inr w_26_2))
else (
gd (inb ((c1_26_2 * 40) + x4_26_2) 160) (
lw (setI w_26_2 70 ((c1_26_2 * 40) + x4_26_2).toNatClampNeg 0) (fun w13 =>
some (.inl ((x4_26_2 + 1), w13))))))
def fX7_lay (N : Nat) (a0 : Int32) (a1 : Int32) (a2 : Int32) (w : AW) : Option (AW) :=
gd (inb a0 4) (
lw (setI w 68 a0.toNatClampNeg a1) (fun w2 =>
if a1 = (-1) then (
lw (setI w2 69 a0.toNatClampNeg 0) (fun w4 =>
bd (wh (lbX7_lay_26_1 N a0) N (0, w4)) (fun w9 =>
some w9)))
else (
lw (setI w2 69 a0.toNatClampNeg a2) (fun w10 =>
bd (wh (lbX7_lay_26_2 N a0) N (0, w10)) (fun w15 =>
some w15)))))
def fX11_sheet (N : Nat) (a0 : Int32) (a1 : Int32) (a2 : Int32) (w : AW) : Option (Int32 × AW) :=
bd (fX7_isPlace a0 w) (fun r2 =>
if r2 = 0 then (
some ((-1), w))
else (
bd (fX11_within a1 (-1) 3 w) (fun r5 =>
if r5 = 0 then (
some ((-1), w))
else (
if a1 = (-1) then (
if a1 = (-1) then (
bd (fX7_lay N a0 a1 a2 w) (fun w10 =>
some (1, w10)))
else (
if 0 ≤ a2 then (
bd (fX7_lay N a0 a1 a2 w) (fun w13 =>
some (1, w13)))
else (
some ((-14), w))))
else (
if a2 ≤ 40 then (
if a1 = (-1) then (
bd (fX7_lay N a0 a1 a2 w) (fun w17 =>
some (1, w17)))
else (
if 0 ≤ a2 then (
bd (fX7_lay N a0 a1 a2 w) (fun w20 =>
some (1, w20)))
else (
some ((-14), w))))
else (
some ((-1), w)))))))
def fX7_holdJob (a0 : Int32) (a1 : Int32) (w : AW) : Option (AW) :=
gd (inb a0 4) (
lw (setI w 71 a0.toNatClampNeg 1) (fun w2 =>
lw (setI w2 73 a0.toNatClampNeg a1) (fun w3 =>
some w3)))
def fX7_holdNothing (a0 : Int32) (w : AW) : Option (AW) :=
gd (inb a0 4) (
lw (setI w 71 a0.toNatClampNeg 0) (fun w2 =>
some w2))
def fX7_holdRow (a0 : Int32) (a1 : Int32) (w : AW) : Option (AW) :=
gd (inb a1 4) (
if (w.1 68 a1.toNatClampNeg) = (-1) then (
gd (inb a0 4) (
lw (setI w 71 a0.toNatClampNeg 0) (fun w4 =>
lw (setI w4 72 a0.toNatClampNeg (w4.1 68 a1.toNatClampNeg)) (fun w5 =>
lw (setI w5 73 a0.toNatClampNeg (w5.1 69 a1.toNatClampNeg)) (fun w6 =>
some w6)))))
else (
gd (inb a0 4) (
lw (setI w 71 a0.toNatClampNeg 2) (fun w8 =>
lw (setI w8 72 a0.toNatClampNeg (w8.1 68 a1.toNatClampNeg)) (fun w9 =>
lw (setI w9 73 a0.toNatClampNeg (w9.1 69 a1.toNatClampNeg)) (fun w10 =>
some w10))))))
def fX11_shelf (a0 : Int32) (a1 : Int32) (a2 : Int32) (w : AW) : Option (Int32 × AW) :=
bd (fX7_isPlace a0 w) (fun r2 =>
if r2 = 0 then (
some ((-1), w))
else (
if a1 = 0 then (
bd (fX4_has 2 a2 w) (fun r6 =>
if r6 = 0 then (
some ((-1), w))
else (
bd (fX7_holdJob a0 a2 w) (fun w9 =>
some (1, w9)))))
else (if a1 = 1 then (
bd (fX7_isPlace a2 w) (fun r12 =>
if r12 = 0 then (
some ((-1), w))
else (
bd (fX7_holdRow a0 a2 w) (fun w15 =>
some (1, w15)))))
else (if a1 = 2 then (
bd (fX7_holdNothing a0 w) (fun w18 =>
some (1, w18)))
else (
some ((-1), w))))))
def fX11_slots (a0 : Int32) (w : AW) : Option (Int32) :=
bd (fX11_within a0 0 99 w) (fun r2 =>
if r2 = 0 then (
some (-1))
else (
bd (fX1_slotsOn 1 a0 w) (fun r5 =>
some r5)))
def fX5_soonestEnd (N : Nat) (o0 : Nat) (w : AW) : Option (Int32 × AW) :=
bd2 (fX5_leastLost N 2 o0 (-9) w) (fun r2 w3 =>
some (r2, w3))
def fX11_soonest (N : Nat) (a0 : Int32) (a1 : Int32) (a2 : Int32) (w : AW) : Option (Int32 × AW) :=
bd (fX11_isJob a0 a1 a2 0 0 w) (fun r2 =>
if r2 = 0 then (
some ((-1), w))
else (
if (w.1 2 0) < 6 then (
bd (fX3_measure N 1 0 w) (fun w6 =>
bd (fX4_copy N 61 2 w6) (fun w8 =>
bd (fX4_add 61 a0 a1 a2 60 0 w8) (fun w10 =>
bd2 (fX5_soonestEnd N 61 w10) (fun r12 w13 =>
if 60 < r12 then (
some ((-3), w13))
else (
some (r12, w13)))))))
else (
some ((-2), w))))
def lbX2_sureOf_10_1 (N : Nat) (o0 : Nat) (r1 : Nat) : (Int32 × Int32 × AW) → Option ((Int32 × Int32 × AW) ⊕ (Int32 × AW)) := fun s => match s with
  | (x3_10_1, x4_10_1, w_10_1) => (
if (w_10_1.1 o0 0) ≤ x4_10_1 then (
some (.inr (x3_10_1, w_10_1)))
else (
if x4_10_1 = 0 then (
gd (inb x4_10_1 6) (
bd2 (fX2_spread N o0 x4_10_1 0 (w_10_1.1 r1 x4_10_1.toNatClampNeg) w_10_1) (fun r7 w8 =>
some (.inl (r7, (x4_10_1 + 1), w8)))))
else (
gd (inb (x4_10_1 - 1) 6) (
gd (inb (w_10_1.1 r1 (x4_10_1 - 1).toNatClampNeg) 6) (
gd (inb x4_10_1 6) (
bd2 (fX2_spread N o0 x4_10_1 (w_10_1.1 (o0 + 3) (w_10_1.1 r1 (x4_10_1 - 1).toNatClampNeg).toNatClampNeg) (w_10_1.1 r1 x4_10_1.toNatClampNeg) w_10_1) (fun r14 w15 =>
some (.inl (r14, (x4_10_1 + 1), w15)))))))))
def fX2_sureOf (N : Nat) (o0 : Nat) (r1 : Nat) (w : AW) : Option (Int32 × AW) :=
bd (fX2_begin 0 w) (fun w2 =>
bd (wh (lbX2_sureOf_10_1 N o0 r1) N (1, 0, w2)) (fun q => match q with | (y18, w19) => (
some (y18, w19))))
def fX11_sure (N : Nat) (a0 : Int32) (w : AW) : Option (Int32 × AW) :=
bd (fX11_within a0 0 1 w) (fun r2 =>
if r2 = 0 then (
some ((-1), w))
else (
bd (fX3_measure N 1 0 w) (fun w5 =>
bd2 (fX2_sureOf N 2 11 w5) (fun r7 w8 =>
bd (fX11_partOf N r7 (2 * (w8.1 2 0)) a0 w8) (fun r11 =>
some (r11, w8))))))
def fX7_holdsRow (a0 : Int32) (w : AW) : Option (Int32) :=
gd (inb a0 4) (
if (w.1 71 a0.toNatClampNeg) = 2 then (
some 1)
else (
some 0))
def bX11_taken_31 (p1_31 : Int32) (p2_31 : Int32) (p3_31 : Int32) (w : AW) : Option (Int32) :=
bd (fX7_jobOn p1_31 w) (fun r11 =>
bd (fX7_holdsRow p1_31 w) (fun r13 =>
if r13 = 0 then (
bd (fX4_has 2 r11 w) (fun r16 =>
if r16 = 0 then (
some (-11))
else (
if p3_31 = 0 then (
gd (inb r11 6) (
bd (fX11_isUnder (w.1 3 r11.toNatClampNeg) p2_31 w) (fun r21 =>
if r21 = 0 then (
some (-13))
else (
some r11))))
else (
some (-13)))))
else (
if p3_31 = 0 then (
some (-13))
else (
gd (inb p1_31 4) (
if (w.1 72 p1_31.toNatClampNeg) = (p2_31 - 10) then (
some (w.1 73 p1_31.toNatClampNeg))
else (
some (-13)))))))
def fX11_taken (a0 : Int32) (a1 : Int32) (w : AW) : Option (Int32) :=
bd (fX11_within a1 10 13 w) (fun r2 =>
bd (fX7_isPlace a0 w) (fun r4 =>
if r4 = 0 then (
some (-1))
else (
if r2 = 0 then (
bd (fX11_within a1 0 5 w) (fun r8 =>
if r8 = 0 then (
some (-1))
else (
bX11_taken_31 a0 a1 r2 w)))
else (
bX11_taken_31 a0 a1 r2 w))))
def fX11_till (w : AW) : Option (Int32) :=
some (w.1 1 8)
def fX11_trace (a0 : Int32) (w : AW) : Option (Int32) :=
bd (fX11_within a0 0 ((w.1 74 5) - 1) w) (fun r2 =>
if r2 = 0 then (
some (-3))
else (
gd (inb a0 30) (
some (w.1 75 a0.toNatClampNeg))))
def fX10_add (t : Nat) (a0 : Int32) (a1 : Int32) (a2 : Int32) (a3 : Int32) (a4 : Int32) (a5 : Int32) (w : AW) : Option (Int32 × AW) :=
if (w.1 t 0) < 3 then (
gd (inb (w.1 t 0) 3) (
lw (setI w (t + 1) (w.1 t 0).toNatClampNeg a0) (fun w3 =>
gd (inb (w3.1 t 0) 3) (
lw (setI w3 (t + 2) (w3.1 t 0).toNatClampNeg a1) (fun w5 =>
gd (inb (w5.1 t 0) 3) (
lw (setI w5 (t + 3) (w5.1 t 0).toNatClampNeg a2) (fun w7 =>
gd (inb (w7.1 t 0) 3) (
lw (setI w7 (t + 4) (w7.1 t 0).toNatClampNeg a3) (fun w9 =>
gd (inb (w9.1 t 0) 3) (
lw (setI w9 (t + 5) (w9.1 t 0).toNatClampNeg a4) (fun w11 =>
gd (inb (w11.1 t 0) 3) (
lw (setI w11 (t + 6) (w11.1 t 0).toNatClampNeg a5) (fun w13 =>
lw (setI w13 t 0 ((w13.1 t 0) + 1)) (fun w14 =>
some (((w14.1 t 0) - 1), w14)))))))))))))))
else (
some ((-2), w))
def fX11_type (N : Nat) (a0 : Int32) (a1 : Int32) (a2 : Int32) (a3 : Int32) (a4 : Int32) (a5 : Int32) (w : AW) : Option (Int32 × AW) :=
bd (fX11_isJob a0 a1 a2 0 a4 w) (fun r2 =>
if r2 = 0 then (
some ((-1), w))
else (
bd (fX11_within a3 0 20 w) (fun r5 =>
if r5 = 0 then (
some ((-1), w))
else (
bd (fX11_within a5 1 4 w) (fun r8 =>
if r8 = 0 then (
some ((-1), w))
else (
bd (fX10_oddsOfAll N 23 w) (fun r11 =>
if (r11 + a5) ≤ 4 then (
bd2 (fX10_add 23 a0 a1 a2 a3 a4 a5 w) (fun r14 w15 =>
some (r14, w15)))
else (
some ((-4), w)))))))))
def fX11_typeOf (a0 : Int32) (a1 : Int32) (w : AW) : Option (Int32) :=
bd (fX11_within a0 0 ((w.1 23 0) - 1) w) (fun r2 =>
if r2 = 0 then (
some (-1))
else (
if a1 = 0 then (
gd (inb a0 3) (
some (w.1 24 a0.toNatClampNeg)))
else (if a1 = 1 then (
gd (inb a0 3) (
some (w.1 25 a0.toNatClampNeg)))
else (if a1 = 2 then (
gd (inb a0 3) (
some (w.1 26 a0.toNatClampNeg)))
else (if a1 = 3 then (
gd (inb a0 3) (
some (w.1 27 a0.toNatClampNeg)))
else (if a1 = 4 then (
gd (inb a0 3) (
some (w.1 28 a0.toNatClampNeg)))
else (if a1 = 5 then (
gd (inb a0 3) (
some (w.1 29 a0.toNatClampNeg)))
else (
some (-1)))))))))
def lbX11_worth_8_1 (N : Nat) (w_8_1 : AW) : (Int32 × Int32) → Option ((Int32 × Int32) ⊕ (Int32)) := fun s => match s with
  | (x1_8_1, x2_8_1) => (
if (w_8_1.1 2 0) ≤ x2_8_1 then (
some (.inr x1_8_1))
else (
gd (inb x2_8_1 6) (
bd (fX4_valueOf 2 x2_8_1 (w_8_1.1 48 x2_8_1.toNatClampNeg) (w_8_1.1 46 2) w_8_1) (fun r6 =>
some (.inl ((x1_8_1 + r6), (x2_8_1 + 1)))))))
def fX11_worth (N : Nat) (w : AW) : Option (Int32 × AW) :=
bd (fX11_followPlan N w) (fun w2 =>
bd (wh (lbX11_worth_8_1 N w2) N (0, 0)) (fun y8 =>
some (y8, w2)))
def fX12_in (a0 : Int32) (a1 : Int32) (a2 : Int32) (w : AW) : Option (Int32) :=
if a0 < a1 then (
some 0)
else (
if a2 < a0 then (
some 0)
else (
some 1))
def fX12_isSide (a0 : Int32) (w : AW) : Option (Int32) :=
bd (fX12_in a0 0 1 w) (fun r2 =>
gd (isb r2) (
some r2))
def fX12_its (a0 : Int32) (a1 : Int32) (w : AW) : Option (Int32) :=
gd (inb ((5 * a0) + a1) 50) (
some (w.1 1 ((5 * a0) + a1).toNatClampNeg))
def lbX12_firstOrder_5_1 (N : Nat) (c1_5_1 : Int32) (c2_5_1 : Int32) : (Int32 × Int32 × AW) → Option ((Int32 × Int32 × AW) ⊕ (Int32 × AW)) := fun s => match s with
  | (x3_5_1, x4_5_1, w_5_1) => (
if c1_5_1 ≤ x4_5_1 then (
some (.inr (x3_5_1, w_5_1)))
else (
if x4_5_1 = c2_5_1 then (
some (.inl (x3_5_1, (x4_5_1 + 1), w_5_1)))
else (
gd (inb x3_5_1 8) (
lw (setI w_5_1 12 x3_5_1.toNatClampNeg x4_5_1) (fun w4 =>
some (.inl ((x3_5_1 + 1), (x4_5_1 + 1), w4)))))))
def fX12_firstOrder (N : Nat) (a0 : Int32) (a1 : Int32) (w : AW) : Option (Int32 × AW) :=
bd (wh (lbX12_firstOrder_5_1 N a0 a1) N (0, 0, w)) (fun q => match q with | (y6, w7) => (
some (y6, w7)))
def lbX12_keepsOrder_2_1 (N : Nat) (c1_2_1 : Int32) : (Int32 × AW) → Option ((Int32 × AW) ⊕ (AW)) := fun s => match s with
  | (x2_2_1, w_2_1) => (
if c1_2_1 ≤ x2_2_1 then (
some (.inr w_2_1))
else (
gd (inb x2_2_1 8) (
lw (setI w_2_1 15 x2_2_1.toNatClampNeg (w_2_1.1 12 x2_2_1.toNatClampNeg)) (fun w3 =>
some (.inl ((x2_2_1 + 1), w3))))))
def fX12_keepsOrder (N : Nat) (a0 : Int32) (w : AW) : Option (AW) :=
bd (wh (lbX12_keepsOrder_2_1 N a0) N (0, w)) (fun w5 =>
some w5)
def fX12_swaps (a0 : Int32) (a1 : Int32) (w : AW) : Option (AW) :=
gd (inb a0 8) (
gd (inb a1 8) (
lw (setI w 12 a0.toNatClampNeg (w.1 12 a1.toNatClampNeg)) (fun w3 =>
lw (setI w3 12 a1.toNatClampNeg (w.1 12 a0.toNatClampNeg)) (fun w4 =>
some w4))))
def lbX12_nextOrder_4_1 (N : Nat) (c1_4_1 : Int32) (w_4_1 : AW) : (Int32) → Option ((Int32) ⊕ (Int32)) := fun s => match s with
  | x2_4_1 => (
if x2_4_1 < 0 then (
some (.inr x2_4_1))
else (
gd (inb x2_4_1 8) (
gd (inb (x2_4_1 + 1) 8) (
if (w_4_1.1 12 x2_4_1.toNatClampNeg) ≤ (w_4_1.1 12 (x2_4_1 + 1).toNatClampNeg) then (
some (.inr x2_4_1))
else (
some (.inl (x2_4_1 + (-1))))))))
def lbX12_nextOrder_41_2 (N : Nat) (c1_41_2 : Int32) (c2_41_2 : Int32) (w_41_2 : AW) : (Int32) → Option ((Int32) ⊕ (Int32)) := fun s => match s with
  | x3_41_2 => (
gd (inb x3_41_2 8) (
gd (inb c2_41_2 8) (
if (w_41_2.1 12 c2_41_2.toNatClampNeg) ≤ (w_41_2.1 12 x3_41_2.toNatClampNeg) then (
some (.inr x3_41_2))
else (
some (.inl (x3_41_2 + (-1)))))))
def lbX12_nextOrder_73_3 (N : Nat) : (Int32 × Int32 × AW) → Option ((Int32 × Int32 × AW) ⊕ (AW)) := fun s => match s with
  | (x2_73_3, x4_73_3, w_73_3) => (
if x4_73_3 ≤ (x2_73_3 + 1) then (
some (.inr w_73_3))
else (
bd (fX12_swaps (x2_73_3 + 1) x4_73_3 w_73_3) (fun w17 =>
some (.inl ((x2_73_3 + 1), (x4_73_3 + (-1)), w17)))))
def fX12_nextOrder (N : Nat) (a0 : Int32) (w : AW) : Option (Int32 × AW) :=
bd (wh (lbX12_nextOrder_4_1 N a0 w) N (a0 - 2)) (fun y6 =>
if 0 ≤ y6 then (
bd (wh (lbX12_nextOrder_41_2 N a0 y6 w) N (a0 - 1)) (fun y12 =>
bd (fX12_swaps y6 y12 w) (fun w14 =>
bd (wh (lbX12_nextOrder_73_3 N) N (y6, (a0 - 1), w14)) (fun w19 =>
some (1, w19)))))
else (
some (0, w)))
def lbX12_lends_2_1 (N : Nat) (c1_2_1 : Int32) (c2_2_1 : Int32) : (Int32 × AW) → Option ((Int32 × AW) ⊕ (AW)) := fun s => match s with
  | (x3_2_1, w_2_1) => (
if c1_2_1 ≤ x3_2_1 then (
some (.inr w_2_1))
else (
if ((c2_2_1 >>> (x3_2_1 &&& 31)) &&& 1) = 1 then (
bd (fX12_its x3_2_1 1 w_2_1) (fun r4 =>
gd (inb x3_2_1 8) (
lw (setI w_2_1 13 x3_2_1.toNatClampNeg (2 * r4)) (fun w6 =>
some (.inl ((x3_2_1 + 1), w6))))))
else (
bd (fX12_its x3_2_1 1 w_2_1) (fun r8 =>
gd (inb x3_2_1 8) (
lw (setI w_2_1 13 x3_2_1.toNatClampNeg r8) (fun w10 =>
some (.inl ((x3_2_1 + 1), w10))))))))
def fX12_lends (N : Nat) (a0 : Int32) (a1 : Int32) (w : AW) : Option (AW) :=
bd (wh (lbX12_lends_2_1 N a0 a1) N (0, w)) (fun w12 =>
lw (setI w12 0 29 (w12.1 0 6)) (fun w13 =>
lw (setI w13 0 30 (w13.1 0 7)) (fun w14 =>
some w14)))
def fX12_slotsOf (a0 : Int32) (w : AW) : Option (Int32) :=
if a0 ≤ 60 then (
gd (inb a0 61) (
if (w.1 2 (0 : Int32).toNatClampNeg) ≤ (w.1 5 a0.toNatClampNeg) then (
some (0 + (w.1 6 a0.toNatClampNeg)))
else (
some (((w.1 2 (0 : Int32).toNatClampNeg) - (w.1 5 a0.toNatClampNeg)) + (w.1 6 a0.toNatClampNeg)))))
else (
some (w.1 2 (0 : Int32).toNatClampNeg))
def fX12_works (a0 : Int32) (w : AW) : Option (Int32 × AW) :=
bd (fX12_its a0 2 w) (fun r2 =>
if r2 = (w.1 0 29) then (
if (w.1 0 30) ≤ 0 then (
gd (inb a0 8) (
lw (setI w 13 a0.toNatClampNeg ((w.1 13 a0.toNatClampNeg) - 1)) (fun w6 =>
if (w6.1 13 a0.toNatClampNeg) = 0 then (
some (1, w6))
else (
some (0, w6)))))
else (
lw (setI w 0 30 ((w.1 0 30) - 1)) (fun w8 =>
some (0, w8))))
else (
bd (fX12_its a0 2 w) (fun r10 =>
lw (setI w 0 29 r10) (fun w11 =>
lw (setI w11 0 30 (w11.1 2 (1 : Int32).toNatClampNeg)) (fun w12 =>
if (w12.1 0 30) ≤ 0 then (
gd (inb a0 8) (
lw (setI w12 13 a0.toNatClampNeg ((w12.1 13 a0.toNatClampNeg) - 1)) (fun w15 =>
if (w15.1 13 a0.toNatClampNeg) = 0 then (
some (1, w15))
else (
some (0, w15)))))
else (
lw (setI w12 0 30 ((w12.1 0 30) - 1)) (fun w17 =>
some (0, w17))))))))
def lbX12_worksMany_48_3 (N : Nat) (c1_48_3 : Int32) (c4_48_3 : Int32) (c7_48_3 : Int32) (w_48_3 : AW) : (Int32 × Int32) → Option ((Int32 × Int32) ⊕ (Int32 × Int32)) := fun s => match s with
  | (x5_48_3, x6_48_3) => (
if x6_48_3 = 0 then (
bd (fX12_slotsOf (x5_48_3 + 1) w_48_3) (fun r10 =>
if c4_48_3 ≤ ((x5_48_3 + 1) - (w_48_3.1 0 5)) then (
some (.inl ((x5_48_3 + 1), (r10 + 0))))
else (
some (.inl ((x5_48_3 + 1), (r10 + 1))))))
else (
some (.inr (x5_48_3, x6_48_3))))
def lbX12_worksMany_43_2 (N : Nat) (c1_43_2 : Int32) (c4_43_2 : Int32) (c7_43_2 : Int32) : (Int32 × Int32 × Int32 × AW) → Option ((Int32 × Int32 × Int32 × AW) ⊕ (Int32 × Int32 × AW)) := fun s => match s with
  | (x5_43_2, x6_43_2, x8_43_2, w_43_2) => (
if x8_43_2 = 0 then (
bd (wh (lbX12_worksMany_48_3 N c1_43_2 c4_43_2 c7_43_2 w_43_2) N (x5_43_2, x6_43_2)) (fun q => match q with | (y13, y14) => (
gd (inb c7_43_2 8) (
bd2 (fX12_works (w_43_2.1 12 c7_43_2.toNatClampNeg) w_43_2) (fun r17 w18 =>
some (.inl (y13, (y14 + (-1)), r17, w18)))))))
else (
some (.inr (x5_43_2, x6_43_2, w_43_2))))
def lbX12_worksMany_34_1 (N : Nat) (c1_34_1 : Int32) (c4_34_1 : Int32) : (Int32 × Int32 × Int32 × AW) → Option ((Int32 × Int32 × Int32 × AW) ⊕ (AW)) := fun s => match s with
  | (x5_34_1, x6_34_1, x7_34_1, w_34_1) => (
if c1_34_1 ≤ x7_34_1 then (
some (.inr w_34_1))
else (
bd (wh (lbX12_worksMany_43_2 N c1_34_1 c4_34_1 x7_34_1) N (x5_34_1, x6_34_1, 0, w_34_1)) (fun q => match q with | (y21, y22, w23) => (
gd (inb x7_34_1 8) (
gd (inb (w23.1 12 x7_34_1.toNatClampNeg) 8) (
lw (setI w23 14 (w23.1 12 x7_34_1.toNatClampNeg).toNatClampNeg y21) (fun w26 =>
some (.inl (y21, y22, (x7_34_1 + 1), w26)))))))))
def bX12_worksMany_28 (N : Nat) (p1_28 : Int32) (p4_28 : Int32) (p5_28 : Int32) (q0_28 : Int32) (q1_28 : Int32) (w : AW) : Option (AW) :=
bd (wh (lbX12_worksMany_34_1 N p1_28 p4_28) N (p5_28, (q1_28 + q0_28), 0, w)) (fun w28 =>
some w28)
def fX12_worksMany (N : Nat) (a0 : Int32) (a1 : Int32) (a2 : Int32) (a3 : Int32) (w : AW) : Option (AW) :=
bd (fX12_lends N a1 a2 w) (fun w2 =>
bd (fX12_slotsOf (w2.1 0 5) w2) (fun r4 =>
if a3 ≤ 0 then (
bX12_worksMany_28 N a0 a3 (w2.1 0 5) 0 r4 w2)
else (
bX12_worksMany_28 N a0 a3 (w2.1 0 5) 1 r4 w2)))
def fX12_isLate (a0 : Int32) (w : AW) : Option (Int32) :=
gd (inb a0 8) (
bd (fX12_its a0 3 w) (fun r3 =>
if (w.1 14 a0.toNatClampNeg) ≤ r3 then (
some 0)
else (
some 1)))
def fX12_worthOf (a0 : Int32) (w : AW) : Option (Int32) :=
bd (fX12_its a0 4 w) (fun r2 =>
bd (fX12_isLate a0 w) (fun r4 =>
if r4 = 0 then (
some r2)
else (
bd (fX12_its a0 0 w) (fun r7 =>
if r7 = 1 then (
some ((-2) * (w.1 2 (2 : Int32).toNatClampNeg)))
else (if r7 = 2 then (
some (r2 / 2))
else (if r7 = 3 then (
some ((r2 / 2) - (w.1 2 (2 : Int32).toNatClampNeg)))
else (if r7 = 4 then (
gd (inb a0 8) (
bd (fX12_its a0 3 w) (fun r14 =>
if (w.1 14 a0.toNatClampNeg) = (r14 + 1) then (
some 0)
else (
some ((-2) * (w.1 2 (2 : Int32).toNatClampNeg))))))
else (
some (-(w.1 2 (2 : Int32).toNatClampNeg))))))))))
def lbX12_worthAll_4_1 (N : Nat) (c1_4_1 : Int32) (w_4_1 : AW) : (Int32 × Int32) → Option ((Int32 × Int32) ⊕ (Int32)) := fun s => match s with
  | (x2_4_1, x3_4_1) => (
if c1_4_1 ≤ x3_4_1 then (
some (.inr x2_4_1))
else (
gd (inb x3_4_1 8) (
bd (fX12_worthOf (w_4_1.1 12 x3_4_1.toNatClampNeg) w_4_1) (fun r4 =>
some (.inl ((x2_4_1 + r4), (x3_4_1 + 1)))))))
def fX12_worthAll (N : Nat) (a0 : Int32) (w : AW) : Option (Int32) :=
bd (wh (lbX12_worthAll_4_1 N a0 w) N (0, 0)) (fun y6 =>
some y6)
def lbX12_mostOfAll_15_1 (N : Nat) (c1_15_1 : Int32) (c3_15_1 : Int32) : (Int32 × Int32 × AW) → Option ((Int32 × Int32 × AW) ⊕ (Int32 × AW)) := fun s => match s with
  | (x4_15_1, x5_15_1, w_15_1) => (
if x5_15_1 = 0 then (
some (.inr (x4_15_1, w_15_1)))
else (
bd (fX12_worksMany N c3_15_1 c1_15_1 0 0 w_15_1) (fun w7 =>
bd (fX12_worthAll N c3_15_1 w7) (fun r9 =>
if r9 ≤ x4_15_1 then (
bd2 (fX12_nextOrder N c3_15_1 w7) (fun r12 w13 =>
some (.inl (x4_15_1, r12, w13))))
else (
bd (fX12_keepsOrder N c3_15_1 w7) (fun w16 =>
bd2 (fX12_nextOrder N c3_15_1 w16) (fun r18 w19 =>
some (.inl (r9, r18, w19)))))))))
def fX12_mostOfAll (N : Nat) (a0 : Int32) (a1 : Int32) (w : AW) : Option (Int32 × AW) :=
bd2 (fX12_firstOrder N a0 a1 w) (fun r2 w3 =>
bd (wh (lbX12_mostOfAll_15_1 N a0 r2) N ((-2147483648), 1, w3)) (fun q => match q with | (y22, w23) => (
some (y22, w23))))
def lbX12_across_27_1 (N : Nat) (c1_27_1 : Int32) : (Int32 × Int32 × Int32 × AW) → Option ((Int32 × Int32 × Int32 × AW) ⊕ (Int32 × Int32 × AW)) := fun s => match s with
  | (x2_27_1, x3_27_1, x4_27_1, w_27_1) => (
if (w_27_1.1 0 0) ≤ x4_27_1 then (
some (.inr (x2_27_1, x3_27_1, w_27_1)))
else (
bd2 (fX12_mostOfAll N (w_27_1.1 0 0) x4_27_1 w_27_1) (fun r10 w11 =>
bd (fX12_its x4_27_1 4 w11) (fun r14 =>
if (r10 + (r14 / 2)) ≤ x3_27_1 then (
if (r10 + (r14 / 2)) ≤ x3_27_1 then (
some (.inl (x2_27_1, x3_27_1, (x4_27_1 + 1), w11)))
else (
some (.inl (x2_27_1, (r10 + (r14 / 2)), (x4_27_1 + 1), w11))))
else (
if (r10 + (r14 / 2)) ≤ x3_27_1 then (
some (.inl (x4_27_1, x3_27_1, (x4_27_1 + 1), w11)))
else (
some (.inl (x4_27_1, (r10 + (r14 / 2)), (x4_27_1 + 1), w11))))))))
def fX12_across (N : Nat) (a0 : Int32) (w : AW) : Option (Int32 × AW) :=
bd (fX12_isSide a0 w) (fun r2 =>
if r2 = 0 then (
some ((-2147483648), w))
else (
bd2 (fX12_mostOfAll N (w.1 0 0) (-1) w) (fun r5 w6 =>
bd (wh (lbX12_across_27_1 N a0) N ((-9), r5, 0, w6)) (fun q => match q with | (y19, y20, w21) => (
if a0 = 0 then (
some (y19, w21))
else (
some (y20, w21)))))))
def fX12_isShelf (a0 : Int32) (w : AW) : Option (Int32) :=
bd (fX12_in a0 0 3 w) (fun r2 =>
gd (isb r2) (
some r2))
def fX12_isJob (a0 : Int32) (w : AW) : Option (Int32) :=
bd (fX12_in a0 0 ((w.1 0 0) - 1) w) (fun r2 =>
gd (isb r2) (
some r2))
def fX12_kindOn (a0 : Int32) (w : AW) : Option (Int32) :=
gd (inb a0 4) (
if (w.1 22 a0.toNatClampNeg) = 0 then (
bd (fX12_isJob (w.1 23 a0.toNatClampNeg) w) (fun r4 =>
if r4 = 0 then (
some (-1))
else (
bd (fX12_its (w.1 23 a0.toNatClampNeg) 0 w) (fun r7 =>
some r7))))
else (
if 0 ≤ (w.1 22 a0.toNatClampNeg) then (
some 9)
else (
some (-1))))
def fX12_ran (a0 : Int32) (w : AW) : Option (AW) :=
if 30 ≤ (w.1 0 48) then (
some w)
else (
gd (inb (w.1 0 48) 30) (
lw (setI w 25 (w.1 0 48).toNatClampNeg a0) (fun w3 =>
lw (setI w3 0 48 ((w3.1 0 48) + 1)) (fun w4 =>
some w4))))
def fX12_plainPrints (a0 : Int32) (w : AW) : Option (Int32 × AW) :=
bd (fX12_ran 10 w) (fun w2 =>
some ((a0 + (w2.1 0 45)), w2))
def fX12_posterPrints (a0 : Int32) (w : AW) : Option (Int32 × AW) :=
bd (fX12_ran 30 w) (fun w2 =>
bd2 (fX12_plainPrints a0 w2) (fun r4 w5 =>
some ((r4 * 3), w5)))
def fX12_printsIt (a0 : Int32) (w : AW) : Option (Int32 × AW) :=
if (w.1 0 44) = 2 then (
bd2 (fX12_posterPrints a0 w) (fun r3 w4 =>
some (r3, w4)))
else (if (w.1 0 44) = 3 then (
bd (fX12_ran 41 w) (fun w8 =>
bd2 (fX12_posterPrints a0 w8) (fun r10 w11 =>
some ((r10 - (w11.1 0 45)), w11))))
else (if (w.1 0 44) = 4 then (
bd (fX12_ran 50 w) (fun w15 =>
bd2 (fX12_plainPrints a0 w15) (fun r17 w18 =>
some ((0 - r17), w18))))
else (
bd2 (fX12_plainPrints a0 w) (fun r21 w22 =>
some (r21, w22)))))
def fX12_plainSets (a0 : Int32) (w : AW) : Option (Int32 × AW) :=
bd (fX12_ran 11 w) (fun w2 =>
bd2 (fX12_printsIt a0 w2) (fun r4 w5 =>
some ((r4 * 2), w5)))
def fX12_weddingSets (a0 : Int32) (w : AW) : Option (Int32 × AW) :=
bd (fX12_ran 20 w) (fun w2 =>
bd2 (fX12_plainSets a0 w2) (fun r4 w5 =>
some ((r4 - (w5.1 0 46)), w5)))
def fX12_setsIt (a0 : Int32) (w : AW) : Option (Int32 × AW) :=
if (w.1 0 44) = 4 then (
bd (fX12_ran 51 w) (fun w3 =>
bd2 (fX12_weddingSets a0 w3) (fun r5 w6 =>
bd2 (fX12_printsIt (w6.1 0 45) w6) (fun r9 w10 =>
some ((r5 + r9), w10)))))
else (
if (w.1 0 44) = 1 then (
bd2 (fX12_weddingSets a0 w) (fun r14 w15 =>
some (r14, w15)))
else (
bd2 (fX12_plainSets a0 w) (fun r18 w19 =>
some (r18, w19))))
def fX12_plainShares (a0 : Int32) (w : AW) : Option (Int32 × AW) :=
bd (fX12_ran 12 w) (fun w2 =>
if (w2.1 0 46) = (w2.1 0 45) then (
lw (setI w2 0 49 1) (fun w4 =>
some (0, w4)))
else (
gd (decide (¬ ((w2.1 0 46) - (w2.1 0 45)) = 0)) (
some ((a0 / ((w2.1 0 46) - (w2.1 0 45))), w2))))
def fX12_sharesIt (a0 : Int32) (w : AW) : Option (Int32 × AW) :=
if (w.1 0 44) = 3 then (
bd (fX12_ran 40 w) (fun w3 =>
bd2 (fX12_plainShares (a0 + 2) w3) (fun r5 w6 =>
some ((r5 ^^^ 1), w6))))
else (
if (w.1 0 44) = 5 then (
bd (fX12_ran 61 w) (fun w10 =>
bd2 (fX12_plainShares a0 w10) (fun r12 w13 =>
if (w13.1 0 49) = 0 then (
bd2 (fX12_printsIt (w13.1 0 46) w13) (fun r17 w18 =>
some ((r12 + r17), w18)))
else (
some (0, w13)))))
else (
bd2 (fX12_plainShares a0 w) (fun r21 w22 =>
some (r21, w22))))
def fX12_plainTells (a0 : Int32) (w : AW) : Option (Int32 × AW) :=
bd (fX12_ran 13 w) (fun w2 =>
bd2 (fX12_setsIt a0 w2) (fun r4 w5 =>
some ((r4 ^^^ (w5.1 0 46)), w5)))
def fX12_tellsIt (a0 : Int32) (w : AW) : Option (Int32 × AW) :=
if (w.1 0 44) = 2 then (
bd (fX12_ran 31 w) (fun w3 =>
bd2 (fX12_plainTells a0 w3) (fun r5 w6 =>
bd2 (fX12_sharesIt (w6.1 0 45) w6) (fun r9 w10 =>
some ((r5 + r9), w10)))))
else (
if (w.1 0 44) = 3 then (
bd (fX12_ran 31 w) (fun w14 =>
bd2 (fX12_plainTells a0 w14) (fun r16 w17 =>
bd2 (fX12_sharesIt (w17.1 0 45) w17) (fun r20 w21 =>
some ((r16 + r20), w21)))))
else (
if (w.1 0 44) = 5 then (
bd (fX12_ran 60 w) (fun w25 =>
bd2 (fX12_plainTells a0 w25) (fun r27 w28 =>
some ((r27 * 2), w28))))
else (
bd2 (fX12_plainTells a0 w) (fun r31 w32 =>
some (r31, w32)))))
def bX12_act_21 (p1_21 : Int32) (p2_21 : Int32) (p3_21 : Int32) (q0_21 : Int32) (w : AW) : Option (Int32 × AW) :=
bd (fX12_in p2_21 0 3 w) (fun r6 =>
if r6 = 0 then (
some (0, w))
else (
bd (fX12_in q0_21 0 5 w) (fun r9 =>
if r9 = 0 then (
some (0, w))
else (
lw (setI w 0 44 q0_21) (fun w11 =>
gd (inb p1_21 4) (
lw (setI w11 0 45 (w11.1 23 p1_21.toNatClampNeg)) (fun w13 =>
bd (fX12_its (w13.1 0 45) 4 w13) (fun r15 =>
lw (setI w13 0 46 r15) (fun w16 =>
lw (setI w16 0 49 0) (fun w17 =>
if p2_21 = 0 then (
bd2 (fX12_printsIt p3_21 w17) (fun r20 w21 =>
if (w21.1 0 49) = 0 then (
some (r20, w21))
else (
some ((-15), w21))))
else (
if p2_21 = 1 then (
bd2 (fX12_setsIt p3_21 w17) (fun r26 w27 =>
if (w27.1 0 49) = 0 then (
some (r26, w27))
else (
some ((-15), w27))))
else (
if p2_21 = 2 then (
bd2 (fX12_sharesIt p3_21 w17) (fun r32 w33 =>
if (w33.1 0 49) = 0 then (
some (r32, w33))
else (
some ((-15), w33))))
else (
bd2 (fX12_tellsIt p3_21 w17) (fun r37 w38 =>
if (w38.1 0 49) = 0 then (
some (r37, w38))
else (
some ((-15), w38))))))))))))))))
def fX12_act (a0 : Int32) (a1 : Int32) (a2 : Int32) (w : AW) : Option (Int32 × AW) :=
lw (setI w 0 48 0) (fun w1 =>
bd (fX12_isShelf a0 w1) (fun r3 =>
if r3 = 0 then (
bX12_act_21 a0 a1 a2 (-1) w1)
else (
bd (fX12_kindOn a0 w1) (fun r42 =>
bX12_act_21 a0 a1 a2 r42 w1))))
def fX12_byteAt (a0 : Int32) (w : AW) : Option (Int32) :=
if (w.1 0 16) ≤ a0 then (
some (-1))
else (
gd (inb a0 200) (
some (w.1 9 a0.toNatClampNeg)))
def fX12_isDigit (a0 : Int32) (w : AW) : Option (Int32) :=
bd (fX12_in a0 48 57 w) (fun r2 =>
gd (isb r2) (
some r2))
def fX12_isLetter (a0 : Int32) (w : AW) : Option (Int32) :=
bd (fX12_in a0 97 122 w) (fun r2 =>
gd (isb r2) (
some r2))
def lbX12_advance_8_1 (N : Nat) : (AW) → Option ((AW) ⊕ (AW)) := fun s => match s with
  | w_8_1 => (
bd (fX12_byteAt (w_8_1.1 0 18) w_8_1) (fun r3 =>
if r3 = 32 then (
lw (setI w_8_1 0 18 ((w_8_1.1 0 18) + 1)) (fun w5 =>
some (.inl w5)))
else (
some (.inr w_8_1))))
def lbX12_advance_126_2 (N : Nat) : (AW) → Option ((AW) ⊕ (AW)) := fun s => match s with
  | w_126_2 => (
if (w_126_2.1 0 17) = 1 then (
bd (fX12_byteAt (w_126_2.1 0 19) w_126_2) (fun r26 =>
bd (fX12_isLetter r26 w_126_2) (fun r28 =>
if r28 = 0 then (
some (.inr w_126_2))
else (
if 8 ≤ ((w_126_2.1 0 19) - (w_126_2.1 0 18)) then (
lw (setL w_126_2 0 20 (-1)) (fun w31 =>
lw (setI w31 0 19 ((w31.1 0 19) + 1)) (fun w32 =>
some (.inl w32))))
else (
bd (fX12_byteAt (w_126_2.1 0 19) w_126_2) (fun r34 =>
lw (setL w_126_2 0 20 (((27 * (w_126_2.2 0 20)) + r34.toInt64) - 96)) (fun w35 =>
lw (setI w35 0 19 ((w35.1 0 19) + 1)) (fun w36 =>
some (.inl w36)))))))))
else (
some (.inr w_126_2)))
def lbX12_advance_207_3 (N : Nat) : (AW) → Option ((AW) ⊕ (AW)) := fun s => match s with
  | w_207_3 => (
if (w_207_3.1 0 17) = 2 then (
bd (fX12_byteAt (w_207_3.1 0 19) w_207_3) (fun r41 =>
bd (fX12_isDigit r41 w_207_3) (fun r43 =>
if r43 = 0 then (
some (.inr w_207_3))
else (
if 2 ≤ ((w_207_3.1 0 19) - (w_207_3.1 0 18)) then (
lw (setI w_207_3 0 21 (-1)) (fun w46 =>
lw (setI w46 0 19 ((w46.1 0 19) + 1)) (fun w47 =>
some (.inl w47))))
else (
bd (fX12_byteAt (w_207_3.1 0 19) w_207_3) (fun r49 =>
lw (setI w_207_3 0 21 (((10 * (w_207_3.1 0 21)) + r49) - 48)) (fun w50 =>
lw (setI w50 0 19 ((w50.1 0 19) + 1)) (fun w51 =>
some (.inl w51)))))))))
else (
some (.inr w_207_3)))
def lbX12_advance_126_4 (N : Nat) : (AW) → Option ((AW) ⊕ (AW)) := fun s => match s with
  | w_126_4 => (
if (w_126_4.1 0 17) = 1 then (
bd (fX12_byteAt (w_126_4.1 0 19) w_126_4) (fun r56 =>
bd (fX12_isLetter r56 w_126_4) (fun r58 =>
if r58 = 0 then (
some (.inr w_126_4))
else (
if 8 ≤ ((w_126_4.1 0 19) - (w_126_4.1 0 18)) then (
lw (setL w_126_4 0 20 (-1)) (fun w61 =>
lw (setI w61 0 19 ((w61.1 0 19) + 1)) (fun w62 =>
some (.inl w62))))
else (
bd (fX12_byteAt (w_126_4.1 0 19) w_126_4) (fun r64 =>
lw (setL w_126_4 0 20 (((27 * (w_126_4.2 0 20)) + r64.toInt64) - 96)) (fun w65 =>
lw (setI w65 0 19 ((w65.1 0 19) + 1)) (fun w66 =>
some (.inl w66)))))))))
else (
some (.inr w_126_4)))
def lbX12_advance_207_5 (N : Nat) : (AW) → Option ((AW) ⊕ (AW)) := fun s => match s with
  | w_207_5 => (
if (w_207_5.1 0 17) = 2 then (
bd (fX12_byteAt (w_207_5.1 0 19) w_207_5) (fun r71 =>
bd (fX12_isDigit r71 w_207_5) (fun r73 =>
if r73 = 0 then (
some (.inr w_207_5))
else (
if 2 ≤ ((w_207_5.1 0 19) - (w_207_5.1 0 18)) then (
lw (setI w_207_5 0 21 (-1)) (fun w76 =>
lw (setI w76 0 19 ((w76.1 0 19) + 1)) (fun w77 =>
some (.inl w77))))
else (
bd (fX12_byteAt (w_207_5.1 0 19) w_207_5) (fun r79 =>
lw (setI w_207_5 0 21 (((10 * (w_207_5.1 0 21)) + r79) - 48)) (fun w80 =>
lw (setI w80 0 19 ((w80.1 0 19) + 1)) (fun w81 =>
some (.inl w81)))))))))
else (
some (.inr w_207_5)))
def bX12_advance_105 (N : Nat) (q0_105 : Int32) (w : AW) : Option (AW) :=
lw (setI w 0 21 q0_105) (fun w21 =>
if (w21.1 0 17) = 3 then (
lw (setI w21 0 19 ((w21.1 0 19) + 1)) (fun w23 =>
bd (wh (lbX12_advance_126_2 N) N w23) (fun w38 =>
bd (wh (lbX12_advance_207_3 N) N w38) (fun w53 =>
some w53))))
else (
bd (wh (lbX12_advance_126_4 N) N w21) (fun w68 =>
bd (wh (lbX12_advance_207_5 N) N w68) (fun w83 =>
some w83))))
def bX12_advance_83 (N : Nat) (p1_83 : Int32) (q0_83 : Int32) (w : AW) : Option (AW) :=
lw (setI w 0 17 q0_83) (fun w18 =>
lw (setL w18 0 20 0) (fun w19 =>
if (w19.1 0 17) = 2 then (
bX12_advance_105 N 0 w19)
else (
bX12_advance_105 N p1_83 w19)))
def fX12_advance (N : Nat) (w : AW) : Option (AW) :=
lw (setI w 0 18 (w.1 0 19)) (fun w1 =>
bd (wh (lbX12_advance_8_1 N) N w1) (fun w7 =>
lw (setI w7 0 19 (w7.1 0 18)) (fun w8 =>
bd (fX12_byteAt (w8.1 0 18) w8) (fun r10 =>
if 0 ≤ r10 then (
bd (fX12_isLetter r10 w8) (fun r13 =>
if r13 = 0 then (
bd (fX12_isDigit r10 w8) (fun r16 =>
if r16 = 0 then (
bX12_advance_83 N r10 3 w8)
else (
bX12_advance_83 N r10 2 w8)))
else (
bX12_advance_83 N r10 1 w8)))
else (
bX12_advance_83 N r10 0 w8)))))
def lbX12_move_3_1 (N : Nat) (r0 : Nat) (l0 : Nat) (c2_3_1 : Int32) (c3_3_1 : Int32) : (Int32 × AW) → Option ((Int32 × AW) ⊕ (AW)) := fun s => match s with
  | (x4_3_1, w_3_1) => (
if c2_3_1 ≤ x4_3_1 then (
some (.inr w_3_1))
else (
if c3_3_1 = 0 then (
gd (inb (w_3_1.1 0 52) 260) (
gd (inb x4_3_1 l0) (
lw (setI w_3_1 r0 x4_3_1.toNatClampNeg (w_3_1.1 26 (w_3_1.1 0 52).toNatClampNeg)) (fun w5 =>
lw (setI w5 0 52 ((w5.1 0 52) + 1)) (fun w6 =>
some (.inl ((x4_3_1 + 1), w6)))))))
else (
gd (inb x4_3_1 l0) (
gd (inb (w_3_1.1 0 52) 260) (
lw (setI w_3_1 26 (w_3_1.1 0 52).toNatClampNeg (w_3_1.1 r0 x4_3_1.toNatClampNeg)) (fun w9 =>
lw (setI w9 0 52 ((w9.1 0 52) + 1)) (fun w10 =>
some (.inl ((x4_3_1 + 1), w10)))))))))
def fX12_move (N : Nat) (r0 : Nat) (l0 : Nat) (a1 : Int32) (a2 : Int32) (w : AW) : Option (AW) :=
bd (wh (lbX12_move_3_1 N r0 l0 a1 a2) N (0, w)) (fun w12 =>
some w12)
def fX12_moveAll (N : Nat) (a0 : Int32) (w : AW) : Option (AW) :=
lw (setI w 0 52 0) (fun w1 =>
lw (setI w1 27 (0 : Int32).toNatClampNeg (w1.1 0 0)) (fun w2 =>
lw (setI w2 27 (1 : Int32).toNatClampNeg (w2.1 0 5)) (fun w3 =>
lw (setI w3 27 (2 : Int32).toNatClampNeg (w3.1 0 6)) (fun w4 =>
lw (setI w4 27 (3 : Int32).toNatClampNeg (w4.1 0 7)) (fun w5 =>
lw (setI w5 27 (4 : Int32).toNatClampNeg (w5.1 0 8)) (fun w6 =>
lw (setI w6 27 (5 : Int32).toNatClampNeg (w6.1 0 12)) (fun w7 =>
lw (setI w7 27 (6 : Int32).toNatClampNeg (w7.1 0 14)) (fun w8 =>
bd (fX12_move N 27 7 7 a0 w8) (fun w10 =>
bd (fX12_move N 1 50 50 a0 w10) (fun w12 =>
bd (fX12_move N 2 4 4 a0 w12) (fun w14 =>
bd (fX12_move N 5 61 61 a0 w14) (fun w16 =>
bd (fX12_move N 6 61 61 a0 w16) (fun w18 =>
bd (fX12_move N 7 8 8 a0 w18) (fun w20 =>
bd (fX12_move N 8 18 18 a0 w20) (fun w22 =>
some w22)))))))))))))))
def fX12_again (N : Nat) (w : AW) : Option (Int32 × AW) :=
if (w.1 0 50) = 0 then (
some ((-3), w))
else (
bd (fX12_moveAll N 0 w) (fun w3 =>
lw (setI w3 0 0 (w3.1 27 (0 : Int32).toNatClampNeg)) (fun w4 =>
lw (setI w4 0 5 (w4.1 27 (1 : Int32).toNatClampNeg)) (fun w5 =>
lw (setI w5 0 6 (w5.1 27 (2 : Int32).toNatClampNeg)) (fun w6 =>
lw (setI w6 0 7 (w6.1 27 (3 : Int32).toNatClampNeg)) (fun w7 =>
lw (setI w7 0 8 (w7.1 27 (4 : Int32).toNatClampNeg)) (fun w8 =>
lw (setI w8 0 12 (w8.1 27 (5 : Int32).toNatClampNeg)) (fun w9 =>
lw (setI w9 0 14 (w9.1 27 (6 : Int32).toNatClampNeg)) (fun w10 =>
some ((w10.1 0 0), w10))))))))))
def lbX12_isTaken_2_1 (N : Nat) (w_2_1 : AW) : (Int32) → Option ((Int32) ⊕ ((Unit) ⊕ (Unit))) := fun s => match s with
  | x2_2_1 => (
if x2_2_1 = 0 then (
some (.inr (.inl ())))
else (
if (x2_2_1 - x2_2_1 / 4 * 4) = 0 then (
some (.inr (.inr ())))
else (
if (x2_2_1 - x2_2_1 / 4 * 4) ≤ (w_2_1.1 0 12) then (
some (.inl (x2_2_1 / 4)))
else (
some (.inr (.inr ()))))))
def fX12_isTaken (N : Nat) (a0 : Int32) (w : AW) : Option (Int32) :=
bd (wh (lbX12_isTaken_2_1 N w) N a0) (se (fun _ =>
some 1) (fun _ =>
some 0))
def lbX12_lowest_14_1 (N : Nat) (c1_14_1 : Int32) (c2_14_1 : Int32) (w_14_1 : AW) : (Int32 × Int32) → Option ((Int32 × Int32) ⊕ (Int32)) := fun s => match s with
  | (x3_14_1, x4_14_1) => (
if x4_14_1 = 0 then (
some (.inr x3_14_1))
else (
gd (decide (¬ x4_14_1 = 0)) (
lw (x3_14_1 - x3_14_1 / x4_14_1 * x4_14_1) (fun v4 =>
some (.inl (x4_14_1, v4))))))
def lbX12_lowest_14_2 (N : Nat) (c1_14_2 : Int32) (c2_14_2 : Int32) (w_14_2 : AW) : (Int32 × Int32) → Option ((Int32 × Int32) ⊕ (Int32)) := fun s => match s with
  | (x3_14_2, x4_14_2) => (
if x4_14_2 = 0 then (
some (.inr x3_14_2))
else (
gd (decide (¬ x4_14_2 = 0)) (
lw (x3_14_2 - x3_14_2 / x4_14_2 * x4_14_2) (fun v13 =>
some (.inl (x4_14_2, v13))))))
def fX12_lowest (N : Nat) (a0 : Int32) (a1 : Int32) (w : AW) : Option (AW) :=
if 0 ≤ a0 then (
bd (wh (lbX12_lowest_14_1 N a0 a1 w) N (a0, a1)) (fun y6 =>
gd (decide (¬ y6 = 0)) (
lw (setI w 0 32 (a0 / y6)) (fun w8 =>
gd (decide (¬ y6 = 0)) (
lw (setI w8 0 33 (a1 / y6)) (fun w10 =>
some w10))))))
else (
bd (wh (lbX12_lowest_14_2 N a0 a1 w) N ((-a0), a1)) (fun y15 =>
gd (decide (¬ y15 = 0)) (
lw (setI w 0 32 (a0 / y15)) (fun w17 =>
gd (decide (¬ y15 = 0)) (
lw (setI w17 0 33 (a1 / y15)) (fun w19 =>
some w19))))))
def fX12_typeIts (a0 : Int32) (a1 : Int32) (w : AW) : Option (Int32) :=
gd (inb ((6 * a0) + a1) 18) (
some (w.1 8 ((6 * a0) + a1).toNatClampNeg))
def lbX12_oddsOfTypes_4_1 (N : Nat) (w_4_1 : AW) : (Int32 × Int32) → Option ((Int32 × Int32) ⊕ (Int32)) := fun s => match s with
  | (x1_4_1, x2_4_1) => (
if (w_4_1.1 0 12) ≤ x2_4_1 then (
some (.inr x1_4_1))
else (
bd (fX12_typeIts x2_4_1 5 w_4_1) (fun r3 =>
some (.inl ((x1_4_1 + r3), (x2_4_1 + 1))))))
def fX12_oddsOfTypes (N : Nat) (w : AW) : Option (Int32) :=
bd (wh (lbX12_oddsOfTypes_4_1 N w) N (0, 0)) (fun y5 =>
some y5)
def fX12_takenMany (a0 : Int32) (w : AW) : Option (Int32) :=
if a0 = 0 then (
some 0)
else (
if 4 ≤ a0 then (
if 16 ≤ a0 then (
some 3)
else (
some 2))
else (
some 1))
def fX12_restOf (a0 : Int32) (a1 : Int32) (w : AW) : Option (Int32) :=
if a0 = 5 then (
some ((a1 + 1) / 2))
else (
some a1)
def fX12_lay (a0 : Int32) (a1 : Int32) (a2 : Int32) (a3 : Int32) (a4 : Int32) (a5 : Int32) (w : AW) : Option (AW) :=
gd (inb (5 * a0) 50) (
lw (setI w 1 (5 * a0).toNatClampNeg a1) (fun w2 =>
bd (fX12_restOf a1 a2 w2) (fun r4 =>
gd (inb ((5 * a0) + 1) 50) (
lw (setI w2 1 ((5 * a0) + 1).toNatClampNeg r4) (fun w6 =>
gd (inb ((5 * a0) + 2) 50) (
lw (setI w6 1 ((5 * a0) + 2).toNatClampNeg a3) (fun w8 =>
gd (inb ((5 * a0) + 3) 50) (
lw (setI w8 1 ((5 * a0) + 3).toNatClampNeg a4) (fun w10 =>
gd (inb ((5 * a0) + 4) 50) (
lw (setI w10 1 ((5 * a0) + 4).toNatClampNeg a5) (fun w12 =>
some w12)))))))))))
def lbX12_worthWith_7_1 (N : Nat) : (Int32 × Int32 × AW) → Option ((Int32 × Int32 × AW) ⊕ (Int32 × AW)) := fun s => match s with
  | (x2_7_1, x3_7_1, w_7_1) => (
if x3_7_1 = 0 then (
some (.inr (x2_7_1, w_7_1)))
else (
bd (fX12_typeIts ((x3_7_1 - x3_7_1 / 4 * 4) - 1) 0 w_7_1) (fun r3 =>
bd (fX12_typeIts ((x3_7_1 - x3_7_1 / 4 * 4) - 1) 1 w_7_1) (fun r5 =>
bd (fX12_typeIts ((x3_7_1 - x3_7_1 / 4 * 4) - 1) 2 w_7_1) (fun r7 =>
bd (fX12_typeIts ((x3_7_1 - x3_7_1 / 4 * 4) - 1) 3 w_7_1) (fun r9 =>
bd (fX12_typeIts ((x3_7_1 - x3_7_1 / 4 * 4) - 1) 4 w_7_1) (fun r11 =>
bd (fX12_lay x2_7_1 r3 r5 r7 ((w_7_1.1 0 5) + r9) r11 w_7_1) (fun w13 =>
some (.inl ((x2_7_1 + 1), (x3_7_1 / 4), w13))))))))))
def fX12_worthWith (N : Nat) (a0 : Int32) (w : AW) : Option (Int32 × AW) :=
bd (wh (lbX12_worthWith_7_1 N) N ((w.1 0 0), a0, w)) (fun q => match q with | (y15, w16) => (
bd2 (fX12_mostOfAll N y15 (-1) w16) (fun r18 w19 =>
some (r18, w19))))
def lbX12_ahead_63_1 (N : Nat) (c1_63_1 : Int32) (c2_63_1 : Int32) : (Int32 × AW) → Option ((Int32 × AW) ⊕ (AW)) := fun s => match s with
  | (x4_63_1, w_63_1) => (
if 1 ≤ x4_63_1 then (
some (.inr w_63_1))
else (
bd (fX12_isTaken N x4_63_1 w_63_1) (fun r11 =>
if r11 = 0 then (
gd (inb x4_63_1 64) (
lw (setI w_63_1 16 x4_63_1.toNatClampNeg 0) (fun w14 =>
some (.inl ((x4_63_1 + 1), w14)))))
else (
bd2 (fX12_worthWith N x4_63_1 w_63_1) (fun r16 w17 =>
gd (inb x4_63_1 64) (
lw (setI w17 16 x4_63_1.toNatClampNeg r16) (fun w20 =>
some (.inl ((x4_63_1 + 1), w20)))))))))
def lbX12_ahead_171_4 (N : Nat) (c1_171_4 : Int32) (c2_171_4 : Int32) (c4_171_4 : Int32) (c5_171_4 : Int32) (w_171_4 : AW) : (Int32 × Int32) → Option ((Int32 × Int32) ⊕ (Int32)) := fun s => match s with
  | (x6_171_4, x7_171_4) => (
if (w_171_4.1 0 12) ≤ x7_171_4 then (
some (.inr x6_171_4))
else (
gd (inb (((4 * c5_171_4) + x7_171_4) + 1) 64) (
lw (w_171_4.1 16 (((4 * c5_171_4) + x7_171_4) + 1).toNatClampNeg) (fun v38 =>
bd (fX12_typeIts x7_171_4 5 w_171_4) (fun r40 =>
gd (inb c5_171_4 64) (
if v38 ≤ (w_171_4.1 16 c5_171_4.toNatClampNeg) then (
lw (x6_171_4 + (r40 * (w_171_4.1 16 c5_171_4.toNatClampNeg))) (fun v43 =>
some (.inl (v43, (x7_171_4 + 1)))))
else (
some (.inl ((x6_171_4 + (r40 * v38)), (x7_171_4 + 1))))))))))
def lbX12_ahead_113_3 (N : Nat) (c1_113_3 : Int32) (c2_113_3 : Int32) (c4_113_3 : Int32) : (Int32 × AW) → Option ((Int32 × AW) ⊕ (AW)) := fun s => match s with
  | (x5_113_3, w_113_3) => (
if 1 ≤ x5_113_3 then (
some (.inr w_113_3))
else (
gd (inb x5_113_3 64) (
lw (setI w_113_3 17 x5_113_3.toNatClampNeg 0) (fun w26 =>
bd (fX12_isTaken N x5_113_3 w26) (fun r28 =>
if r28 = 0 then (
some (.inl ((x5_113_3 + 1), w26)))
else (
bd (fX12_takenMany x5_113_3 w26) (fun r31 =>
if r31 ≤ (c1_113_3 - c4_113_3) then (
bd (fX12_oddsOfTypes N w26) (fun r34 =>
lw ((4 - r34) * (w26.1 16 x5_113_3.toNatClampNeg)) (fun v35 =>
bd (wh (lbX12_ahead_171_4 N c1_113_3 c2_113_3 c4_113_3 x5_113_3 w26) N (v35, 0)) (fun y45 =>
lw (setI w26 17 x5_113_3.toNatClampNeg y45) (fun w46 =>
some (.inl ((x5_113_3 + 1), w46)))))))
else (
some (.inl ((x5_113_3 + 1), w26))))))))))
def lbX12_ahead_257_5 (N : Nat) (c1_257_5 : Int32) (c2_257_5 : Int32) (c4_257_5 : Int32) : (Int32 × AW) → Option ((Int32 × AW) ⊕ (AW)) := fun s => match s with
  | (x5_257_5, w_257_5) => (
if 1 ≤ x5_257_5 then (
some (.inr w_257_5))
else (
gd (inb x5_257_5 64) (
lw (setI w_257_5 16 x5_257_5.toNatClampNeg (w_257_5.1 17 x5_257_5.toNatClampNeg)) (fun w51 =>
some (.inl ((x5_257_5 + 1), w51))))))
def lbX12_ahead_104_2 (N : Nat) (c1_104_2 : Int32) (c2_104_2 : Int32) : (Int32 × AW) → Option ((Int32 × AW) ⊕ (AW)) := fun s => match s with
  | (x4_104_2, w_104_2) => (
if c1_104_2 < x4_104_2 then (
some (.inr w_104_2))
else (
bd (wh (lbX12_ahead_113_3 N c1_104_2 c2_104_2 x4_104_2) N (0, w_104_2)) (fun w48 =>
bd (wh (lbX12_ahead_257_5 N c1_104_2 c2_104_2 x4_104_2) N (0, w48)) (fun w53 =>
some (.inl ((x4_104_2 + 1), w53))))))
def lbX12_ahead_63_6 (N : Nat) (c1_63_6 : Int32) (c2_63_6 : Int32) : (Int32 × AW) → Option ((Int32 × AW) ⊕ (AW)) := fun s => match s with
  | (x4_63_6, w_63_6) => (
if 4 ≤ x4_63_6 then (
some (.inr w_63_6))
else (
bd (fX12_isTaken N x4_63_6 w_63_6) (fun r62 =>
if r62 = 0 then (
gd (inb x4_63_6 64) (
lw (setI w_63_6 16 x4_63_6.toNatClampNeg 0) (fun w65 =>
some (.inl ((x4_63_6 + 1), w65)))))
else (
bd2 (fX12_worthWith N x4_63_6 w_63_6) (fun r67 w68 =>
gd (inb x4_63_6 64) (
lw (setI w68 16 x4_63_6.toNatClampNeg r67) (fun w71 =>
some (.inl ((x4_63_6 + 1), w71)))))))))
def lbX12_ahead_171_9 (N : Nat) (c1_171_9 : Int32) (c2_171_9 : Int32) (c4_171_9 : Int32) (c5_171_9 : Int32) (w_171_9 : AW) : (Int32 × Int32) → Option ((Int32 × Int32) ⊕ (Int32)) := fun s => match s with
  | (x6_171_9, x7_171_9) => (
if (w_171_9.1 0 12) ≤ x7_171_9 then (
some (.inr x6_171_9))
else (
gd (inb (((4 * c5_171_9) + x7_171_9) + 1) 64) (
lw (w_171_9.1 16 (((4 * c5_171_9) + x7_171_9) + 1).toNatClampNeg) (fun v89 =>
bd (fX12_typeIts x7_171_9 5 w_171_9) (fun r91 =>
gd (inb c5_171_9 64) (
if v89 ≤ (w_171_9.1 16 c5_171_9.toNatClampNeg) then (
lw (x6_171_9 + (r91 * (w_171_9.1 16 c5_171_9.toNatClampNeg))) (fun v94 =>
some (.inl (v94, (x7_171_9 + 1)))))
else (
some (.inl ((x6_171_9 + (r91 * v89)), (x7_171_9 + 1))))))))))
def lbX12_ahead_113_8 (N : Nat) (c1_113_8 : Int32) (c2_113_8 : Int32) (c4_113_8 : Int32) : (Int32 × AW) → Option ((Int32 × AW) ⊕ (AW)) := fun s => match s with
  | (x5_113_8, w_113_8) => (
if 4 ≤ x5_113_8 then (
some (.inr w_113_8))
else (
gd (inb x5_113_8 64) (
lw (setI w_113_8 17 x5_113_8.toNatClampNeg 0) (fun w77 =>
bd (fX12_isTaken N x5_113_8 w77) (fun r79 =>
if r79 = 0 then (
some (.inl ((x5_113_8 + 1), w77)))
else (
bd (fX12_takenMany x5_113_8 w77) (fun r82 =>
if r82 ≤ (c1_113_8 - c4_113_8) then (
bd (fX12_oddsOfTypes N w77) (fun r85 =>
lw ((4 - r85) * (w77.1 16 x5_113_8.toNatClampNeg)) (fun v86 =>
bd (wh (lbX12_ahead_171_9 N c1_113_8 c2_113_8 c4_113_8 x5_113_8 w77) N (v86, 0)) (fun y96 =>
lw (setI w77 17 x5_113_8.toNatClampNeg y96) (fun w97 =>
some (.inl ((x5_113_8 + 1), w97)))))))
else (
some (.inl ((x5_113_8 + 1), w77))))))))))
def lbX12_ahead_257_10 (N : Nat) (c1_257_10 : Int32) (c2_257_10 : Int32) (c4_257_10 : Int32) : (Int32 × AW) → Option ((Int32 × AW) ⊕ (AW)) := fun s => match s with
  | (x5_257_10, w_257_10) => (
if 4 ≤ x5_257_10 then (
some (.inr w_257_10))
else (
gd (inb x5_257_10 64) (
lw (setI w_257_10 16 x5_257_10.toNatClampNeg (w_257_10.1 17 x5_257_10.toNatClampNeg)) (fun w102 =>
some (.inl ((x5_257_10 + 1), w102))))))
def lbX12_ahead_104_7 (N : Nat) (c1_104_7 : Int32) (c2_104_7 : Int32) : (Int32 × AW) → Option ((Int32 × AW) ⊕ (AW)) := fun s => match s with
  | (x4_104_7, w_104_7) => (
if c1_104_7 < x4_104_7 then (
some (.inr w_104_7))
else (
bd (wh (lbX12_ahead_113_8 N c1_104_7 c2_104_7 x4_104_7) N (0, w_104_7)) (fun w99 =>
bd (wh (lbX12_ahead_257_10 N c1_104_7 c2_104_7 x4_104_7) N (0, w99)) (fun w104 =>
some (.inl ((x4_104_7 + 1), w104))))))
def lbX12_ahead_63_11 (N : Nat) (c1_63_11 : Int32) (c2_63_11 : Int32) : (Int32 × AW) → Option ((Int32 × AW) ⊕ (AW)) := fun s => match s with
  | (x4_63_11, w_63_11) => (
if 16 ≤ x4_63_11 then (
some (.inr w_63_11))
else (
bd (fX12_isTaken N x4_63_11 w_63_11) (fun r113 =>
if r113 = 0 then (
gd (inb x4_63_11 64) (
lw (setI w_63_11 16 x4_63_11.toNatClampNeg 0) (fun w116 =>
some (.inl ((x4_63_11 + 1), w116)))))
else (
bd2 (fX12_worthWith N x4_63_11 w_63_11) (fun r118 w119 =>
gd (inb x4_63_11 64) (
lw (setI w119 16 x4_63_11.toNatClampNeg r118) (fun w122 =>
some (.inl ((x4_63_11 + 1), w122)))))))))
def lbX12_ahead_171_14 (N : Nat) (c1_171_14 : Int32) (c2_171_14 : Int32) (c4_171_14 : Int32) (c5_171_14 : Int32) (w_171_14 : AW) : (Int32 × Int32) → Option ((Int32 × Int32) ⊕ (Int32)) := fun s => match s with
  | (x6_171_14, x7_171_14) => (
if (w_171_14.1 0 12) ≤ x7_171_14 then (
some (.inr x6_171_14))
else (
gd (inb (((4 * c5_171_14) + x7_171_14) + 1) 64) (
lw (w_171_14.1 16 (((4 * c5_171_14) + x7_171_14) + 1).toNatClampNeg) (fun v140 =>
bd (fX12_typeIts x7_171_14 5 w_171_14) (fun r142 =>
gd (inb c5_171_14 64) (
if v140 ≤ (w_171_14.1 16 c5_171_14.toNatClampNeg) then (
lw (x6_171_14 + (r142 * (w_171_14.1 16 c5_171_14.toNatClampNeg))) (fun v145 =>
some (.inl (v145, (x7_171_14 + 1)))))
else (
some (.inl ((x6_171_14 + (r142 * v140)), (x7_171_14 + 1))))))))))
def lbX12_ahead_113_13 (N : Nat) (c1_113_13 : Int32) (c2_113_13 : Int32) (c4_113_13 : Int32) : (Int32 × AW) → Option ((Int32 × AW) ⊕ (AW)) := fun s => match s with
  | (x5_113_13, w_113_13) => (
if 16 ≤ x5_113_13 then (
some (.inr w_113_13))
else (
gd (inb x5_113_13 64) (
lw (setI w_113_13 17 x5_113_13.toNatClampNeg 0) (fun w128 =>
bd (fX12_isTaken N x5_113_13 w128) (fun r130 =>
if r130 = 0 then (
some (.inl ((x5_113_13 + 1), w128)))
else (
bd (fX12_takenMany x5_113_13 w128) (fun r133 =>
if r133 ≤ (c1_113_13 - c4_113_13) then (
bd (fX12_oddsOfTypes N w128) (fun r136 =>
lw ((4 - r136) * (w128.1 16 x5_113_13.toNatClampNeg)) (fun v137 =>
bd (wh (lbX12_ahead_171_14 N c1_113_13 c2_113_13 c4_113_13 x5_113_13 w128) N (v137, 0)) (fun y147 =>
lw (setI w128 17 x5_113_13.toNatClampNeg y147) (fun w148 =>
some (.inl ((x5_113_13 + 1), w148)))))))
else (
some (.inl ((x5_113_13 + 1), w128))))))))))
def lbX12_ahead_257_15 (N : Nat) (c1_257_15 : Int32) (c2_257_15 : Int32) (c4_257_15 : Int32) : (Int32 × AW) → Option ((Int32 × AW) ⊕ (AW)) := fun s => match s with
  | (x5_257_15, w_257_15) => (
if 16 ≤ x5_257_15 then (
some (.inr w_257_15))
else (
gd (inb x5_257_15 64) (
lw (setI w_257_15 16 x5_257_15.toNatClampNeg (w_257_15.1 17 x5_257_15.toNatClampNeg)) (fun w153 =>
some (.inl ((x5_257_15 + 1), w153))))))
def lbX12_ahead_104_12 (N : Nat) (c1_104_12 : Int32) (c2_104_12 : Int32) : (Int32 × AW) → Option ((Int32 × AW) ⊕ (AW)) := fun s => match s with
  | (x4_104_12, w_104_12) => (
if c1_104_12 < x4_104_12 then (
some (.inr w_104_12))
else (
bd (wh (lbX12_ahead_113_13 N c1_104_12 c2_104_12 x4_104_12) N (0, w_104_12)) (fun w150 =>
bd (wh (lbX12_ahead_257_15 N c1_104_12 c2_104_12 x4_104_12) N (0, w150)) (fun w155 =>
some (.inl ((x4_104_12 + 1), w155))))))
def lbX12_ahead_63_16 (N : Nat) (c1_63_16 : Int32) (c2_63_16 : Int32) : (Int32 × AW) → Option ((Int32 × AW) ⊕ (AW)) := fun s => match s with
  | (x4_63_16, w_63_16) => (
if 64 ≤ x4_63_16 then (
some (.inr w_63_16))
else (
bd (fX12_isTaken N x4_63_16 w_63_16) (fun r163 =>
if r163 = 0 then (
gd (inb x4_63_16 64) (
lw (setI w_63_16 16 x4_63_16.toNatClampNeg 0) (fun w166 =>
some (.inl ((x4_63_16 + 1), w166)))))
else (
bd2 (fX12_worthWith N x4_63_16 w_63_16) (fun r168 w169 =>
gd (inb x4_63_16 64) (
lw (setI w169 16 x4_63_16.toNatClampNeg r168) (fun w172 =>
some (.inl ((x4_63_16 + 1), w172)))))))))
def lbX12_ahead_171_19 (N : Nat) (c1_171_19 : Int32) (c2_171_19 : Int32) (c4_171_19 : Int32) (c5_171_19 : Int32) (w_171_19 : AW) : (Int32 × Int32) → Option ((Int32 × Int32) ⊕ (Int32)) := fun s => match s with
  | (x6_171_19, x7_171_19) => (
if (w_171_19.1 0 12) ≤ x7_171_19 then (
some (.inr x6_171_19))
else (
gd (inb (((4 * c5_171_19) + x7_171_19) + 1) 64) (
lw (w_171_19.1 16 (((4 * c5_171_19) + x7_171_19) + 1).toNatClampNeg) (fun v190 =>
bd (fX12_typeIts x7_171_19 5 w_171_19) (fun r192 =>
gd (inb c5_171_19 64) (
if v190 ≤ (w_171_19.1 16 c5_171_19.toNatClampNeg) then (
lw (x6_171_19 + (r192 * (w_171_19.1 16 c5_171_19.toNatClampNeg))) (fun v195 =>
some (.inl (v195, (x7_171_19 + 1)))))
else (
some (.inl ((x6_171_19 + (r192 * v190)), (x7_171_19 + 1))))))))))
def lbX12_ahead_113_18 (N : Nat) (c1_113_18 : Int32) (c2_113_18 : Int32) (c4_113_18 : Int32) : (Int32 × AW) → Option ((Int32 × AW) ⊕ (AW)) := fun s => match s with
  | (x5_113_18, w_113_18) => (
if 64 ≤ x5_113_18 then (
some (.inr w_113_18))
else (
gd (inb x5_113_18 64) (
lw (setI w_113_18 17 x5_113_18.toNatClampNeg 0) (fun w178 =>
bd (fX12_isTaken N x5_113_18 w178) (fun r180 =>
if r180 = 0 then (
some (.inl ((x5_113_18 + 1), w178)))
else (
bd (fX12_takenMany x5_113_18 w178) (fun r183 =>
if r183 ≤ (c1_113_18 - c4_113_18) then (
bd (fX12_oddsOfTypes N w178) (fun r186 =>
lw ((4 - r186) * (w178.1 16 x5_113_18.toNatClampNeg)) (fun v187 =>
bd (wh (lbX12_ahead_171_19 N c1_113_18 c2_113_18 c4_113_18 x5_113_18 w178) N (v187, 0)) (fun y197 =>
lw (setI w178 17 x5_113_18.toNatClampNeg y197) (fun w198 =>
some (.inl ((x5_113_18 + 1), w198)))))))
else (
some (.inl ((x5_113_18 + 1), w178))))))))))
def lbX12_ahead_257_20 (N : Nat) (c1_257_20 : Int32) (c2_257_20 : Int32) (c4_257_20 : Int32) : (Int32 × AW) → Option ((Int32 × AW) ⊕ (AW)) := fun s => match s with
  | (x5_257_20, w_257_20) => (
if 64 ≤ x5_257_20 then (
some (.inr w_257_20))
else (
gd (inb x5_257_20 64) (
lw (setI w_257_20 16 x5_257_20.toNatClampNeg (w_257_20.1 17 x5_257_20.toNatClampNeg)) (fun w203 =>
some (.inl ((x5_257_20 + 1), w203))))))
def lbX12_ahead_104_17 (N : Nat) (c1_104_17 : Int32) (c2_104_17 : Int32) : (Int32 × AW) → Option ((Int32 × AW) ⊕ (AW)) := fun s => match s with
  | (x4_104_17, w_104_17) => (
if c1_104_17 < x4_104_17 then (
some (.inr w_104_17))
else (
bd (wh (lbX12_ahead_113_18 N c1_104_17 c2_104_17 x4_104_17) N (0, w_104_17)) (fun w200 =>
bd (wh (lbX12_ahead_257_20 N c1_104_17 c2_104_17 x4_104_17) N (0, w200)) (fun w205 =>
some (.inl ((x4_104_17 + 1), w205))))))
def fX12_ahead (N : Nat) (a0 : Int32) (a1 : Int32) (w : AW) : Option (Int32 × AW) :=
bd (fX12_in a0 0 3 w) (fun r2 =>
if r2 = 0 then (
some ((-2147483648), w))
else (
bd (fX12_isSide a1 w) (fun r5 =>
if r5 = 0 then (
some ((-2147483648), w))
else (
if ((w.1 0 0) + a0) ≤ 5 then (
if a0 = 0 then (
bd (wh (lbX12_ahead_63_1 N a0 a1) N (0, w)) (fun w22 =>
bd (wh (lbX12_ahead_104_2 N a0 a1) N (1, w22)) (fun w55 =>
bd (fX12_lowest N (w55.1 16 (0 : Int32).toNatClampNeg) (1 <<< ((2 * a0) &&& 31)) w55) (fun w57 =>
if a1 = 0 then (
some ((w57.1 0 32), w57))
else (
some ((w57.1 0 33), w57))))))
else (
if a0 = 1 then (
bd (wh (lbX12_ahead_63_6 N a0 a1) N (0, w)) (fun w73 =>
bd (wh (lbX12_ahead_104_7 N a0 a1) N (1, w73)) (fun w106 =>
bd (fX12_lowest N (w106.1 16 (0 : Int32).toNatClampNeg) (1 <<< ((2 * a0) &&& 31)) w106) (fun w108 =>
if a1 = 0 then (
some ((w108.1 0 32), w108))
else (
some ((w108.1 0 33), w108))))))
else (
if a0 = 2 then (
bd (wh (lbX12_ahead_63_11 N a0 a1) N (0, w)) (fun w124 =>
bd (wh (lbX12_ahead_104_12 N a0 a1) N (1, w124)) (fun w157 =>
bd (fX12_lowest N (w157.1 16 (0 : Int32).toNatClampNeg) (1 <<< ((2 * a0) &&& 31)) w157) (fun w159 =>
if a1 = 0 then (
some ((w159.1 0 32), w159))
else (
some ((w159.1 0 33), w159))))))
else (
bd (wh (lbX12_ahead_63_16 N a0 a1) N (0, w)) (fun w174 =>
bd (wh (lbX12_ahead_104_17 N a0 a1) N (1, w174)) (fun w207 =>
bd (fX12_lowest N (w207.1 16 (0 : Int32).toNatClampNeg) (1 <<< ((2 * a0) &&& 31)) w207) (fun w209 =>
if a1 = 0 then (
some ((w209.1 0 32), w209))
else (
some ((w209.1 0 33), w209)))))))))
else (
some ((-2147483648), w))))))
def fX12_isRow (a0 : Int32) (a1 : Int32) (w : AW) : Option (Int32) :=
bd (fX12_in a0 0 ((w.1 0 37) - 1) w) (fun r2 =>
if r2 = 0 then (
some 0)
else (
bd (fX12_in a1 0 2 w) (fun r5 =>
if r5 = 0 then (
some 0)
else (
some 1))))
def fX12_alterRow (a0 : Int32) (a1 : Int32) (a2 : Int32) (w : AW) : Option (Int32 × AW) :=
bd (fX12_isRow a0 a1 w) (fun r2 =>
if r2 = 0 then (
some ((-2147483648), w))
else (
gd (inb ((3 * a0) + a1) 18) (
lw (w.1 18 ((3 * a0) + a1).toNatClampNeg) (fun v5 =>
lw (setI w 18 ((3 * a0) + a1).toNatClampNeg a2) (fun w6 =>
some (v5, w6))))))
def lbX12_digitsOf_4_1 (N : Nat) (c1_4_1 : Int32) (w_4_1 : AW) : (Int32 × Int32) → Option ((Int32 × Int32) ⊕ (Int32)) := fun s => match s with
  | (x2_4_1, x3_4_1) => (
if c1_4_1 ≤ x3_4_1 then (
some (.inr x2_4_1))
else (
gd (inb x3_4_1 8) (
lw (x2_4_1 ||| ((w_4_1.1 15 x3_4_1.toNatClampNeg) <<< ((3 * x3_4_1) &&& 31))) (fun v3 =>
some (.inl (v3, (x3_4_1 + 1)))))))
def fX12_digitsOf (N : Nat) (a0 : Int32) (w : AW) : Option (Int32) :=
bd (wh (lbX12_digitsOf_4_1 N a0 w) N (0, 0)) (fun y5 =>
some y5)
def fX12_best (N : Nat) (a0 : Int32) (w : AW) : Option (Int32 × AW) :=
bd (fX12_isSide a0 w) (fun r2 =>
if r2 = 0 then (
some ((-2147483648), w))
else (
bd2 (fX12_mostOfAll N (w.1 0 0) (-1) w) (fun r5 w6 =>
if a0 = 0 then (
some (r5, w6))
else (
bd (fX12_digitsOf N (w6.1 0 0) w6) (fun r10 =>
some (r10, w6))))))
def fX12_isWord (a0 : Int64) (w : AW) : Option (Int32) :=
if (w.1 0 17) = 1 then (
if (lg_cmp (w.2 0 20) a0) = 0 then (
some 1)
else (
some 0))
else (
some 0)
def fX12_kindHere (w : AW) : Option (Int32) :=
bd (fX12_isWord 7697 w) (fun r2 =>
if r2 = 0 then (
bd (fX12_isWord 8984627224 w) (fun r5 =>
if r5 = 0 then (
bd (fX12_isWord 237942837 w) (fun r8 =>
if r8 = 0 then (
bd (fX12_isWord 291828332 w) (fun r11 =>
if r11 = 0 then (
bd (fX12_isWord 311034809 w) (fun r14 =>
if r14 = 0 then (
bd (fX12_isWord 158523 w) (fun r17 =>
if r17 = 0 then (
some (-1))
else (
some 5)))
else (
some 4)))
else (
some 3)))
else (
some 2)))
else (
some 1)))
else (
some 0))
def fX12_lawHere (w : AW) : Option (Int32) :=
bd (fX12_isWord 10345069 w) (fun r2 =>
if r2 = 0 then (
bd (fX12_isWord 125042 w) (fun r5 =>
if r5 = 0 then (
bd (fX12_isWord 7443763252 w) (fun r8 =>
if r8 = 0 then (
some (-1))
else (
some 1)))
else (
some 2)))
else (
some 0))
def fX12_isMark (a0 : Int32) (w : AW) : Option (Int32) :=
if (w.1 0 17) = 3 then (
if (w.1 0 21) = a0 then (
some 1)
else (
some 0))
else (
some 0)
def fX12_wantEnd (N : Nat) (w : AW) : Option (AW) :=
if (w.1 0 22) = 0 then (
lw (setI w 0 22 0) (fun w2 =>
if (w2.1 0 22) = 0 then (
some w2)
else (
bd (fX12_advance N w2) (fun w5 =>
some w5))))
else (
bd (fX12_isMark 59 w) (fun r7 =>
if r7 = 0 then (
lw (setI w 0 22 0) (fun w9 =>
if (w9.1 0 22) = 0 then (
some w9)
else (
bd (fX12_advance N w9) (fun w12 =>
some w12))))
else (
lw (setI w 0 22 1) (fun w13 =>
if (w13.1 0 22) = 0 then (
some w13)
else (
bd (fX12_advance N w13) (fun w16 =>
some w16))))))
def fX12_wantNumber (N : Nat) (a0 : Int32) (a1 : Int32) (w : AW) : Option (Int32 × AW) :=
if (w.1 0 22) = 0 then (
lw (setI w 0 22 0) (fun w2 =>
if (w2.1 0 22) = 0 then (
some ((w.1 0 21), w2))
else (
bd (fX12_advance N w2) (fun w5 =>
some ((w.1 0 21), w5)))))
else (
if (w.1 0 17) = 2 then (
bd (fX12_in (w.1 0 21) a0 a1 w) (fun r8 =>
if r8 = 0 then (
lw (setI w 0 22 0) (fun w10 =>
if (w10.1 0 22) = 0 then (
some ((w.1 0 21), w10))
else (
bd (fX12_advance N w10) (fun w13 =>
some ((w.1 0 21), w13)))))
else (
lw (setI w 0 22 1) (fun w14 =>
if (w14.1 0 22) = 0 then (
some ((w.1 0 21), w14))
else (
bd (fX12_advance N w14) (fun w17 =>
some ((w.1 0 21), w17)))))))
else (
lw (setI w 0 22 0) (fun w18 =>
if (w18.1 0 22) = 0 then (
some ((w.1 0 21), w18))
else (
bd (fX12_advance N w18) (fun w21 =>
some ((w.1 0 21), w21))))))
def fX12_wantWord (N : Nat) (a0 : Int64) (w : AW) : Option (AW) :=
if (w.1 0 22) = 0 then (
lw (setI w 0 22 0) (fun w2 =>
if (w2.1 0 22) = 0 then (
some w2)
else (
bd (fX12_advance N w2) (fun w5 =>
some w5))))
else (
bd (fX12_isWord a0 w) (fun r7 =>
if r7 = 0 then (
lw (setI w 0 22 0) (fun w9 =>
if (w9.1 0 22) = 0 then (
some w9)
else (
bd (fX12_advance N w9) (fun w12 =>
some w12))))
else (
lw (setI w 0 22 1) (fun w13 =>
if (w13.1 0 22) = 0 then (
some w13)
else (
bd (fX12_advance N w13) (fun w16 =>
some w16))))))
def bX12_wantJob_76 (N : Nat) (p1_76 : Int32) (p2_76 : Int32) (p3_76 : Int32) (w : AW) : Option (AW) :=
bd (fX12_wantWord N 79 w) (fun w12 =>
bd2 (fX12_wantNumber N 0 60 w12) (fun r14 w15 =>
bd (fX12_wantWord N 4797 w15) (fun w18 =>
bd2 (fX12_wantNumber N 0 99 w18) (fun r20 w21 =>
bd (fX12_wantEnd N w21) (fun w24 =>
if (w24.1 0 22) = 0 then (
some w24)
else (
gd (inb (5 * (w24.1 0 25)) 30) (
lw (setI w24 10 (5 * (w24.1 0 25)).toNatClampNeg p1_76) (fun w27 =>
gd (inb ((5 * (w24.1 0 25)) + 1) 30) (
lw (setI w27 10 ((5 * (w24.1 0 25)) + 1).toNatClampNeg p2_76) (fun w29 =>
if p3_76 = 0 then (
gd (inb ((5 * (w24.1 0 25)) + 2) 30) (
lw (setI w29 10 ((5 * (w24.1 0 25)) + 2).toNatClampNeg 0) (fun w32 =>
gd (inb ((5 * (w24.1 0 25)) + 3) 30) (
lw (setI w32 10 ((5 * (w24.1 0 25)) + 3).toNatClampNeg r14) (fun w34 =>
gd (inb ((5 * (w24.1 0 25)) + 4) 30) (
lw (setI w34 10 ((5 * (w24.1 0 25)) + 4).toNatClampNeg r20) (fun w36 =>
lw (setI w36 0 25 ((w36.1 0 25) + 1)) (fun w37 =>
some w37))))))))
else (
gd (inb ((5 * (w24.1 0 25)) + 2) 30) (
lw (setI w29 10 ((5 * (w24.1 0 25)) + 2).toNatClampNeg 1) (fun w39 =>
gd (inb ((5 * (w24.1 0 25)) + 3) 30) (
lw (setI w39 10 ((5 * (w24.1 0 25)) + 3).toNatClampNeg r14) (fun w41 =>
gd (inb ((5 * (w24.1 0 25)) + 4) 30) (
lw (setI w41 10 ((5 * (w24.1 0 25)) + 4).toNatClampNeg r20) (fun w43 =>
lw (setI w43 0 25 ((w43.1 0 25) + 1)) (fun w44 =>
some w44))))))))))))))))))
def bX12_wantJob_67 (N : Nat) (p1_67 : Int32) (p2_67 : Int32) (q0_67 : Int32) (w : AW) : Option (AW) :=
if q0_67 = 0 then (
bX12_wantJob_76 N p1_67 p2_67 q0_67 w)
else (
bd (fX12_advance N w) (fun w46 =>
bX12_wantJob_76 N p1_67 p2_67 q0_67 w46))
def bX12_wantJob_66 (N : Nat) (p1_66 : Int32) (p2_66 : Int32) (w : AW) : Option (AW) :=
bX12_wantJob_67 N p1_66 p2_66 0 w
def bX12_wantJob_37 (N : Nat) (p1_37 : Int32) (w : AW) : Option (AW) :=
bd2 (fX12_wantNumber N 1 9 w) (fun r6 w7 =>
if (w7.1 0 22) = 0 then (
bX12_wantJob_66 N p1_37 r6 w7)
else (
bd (fX12_isWord 1299899 w7) (fun r48 =>
if r48 = 0 then (
bX12_wantJob_66 N p1_37 r6 w7)
else (
bX12_wantJob_67 N p1_37 r6 1 w7))))
def bX12_wantJob_15 (N : Nat) (p1_15 : Int32) (q0_15 : Int32) (w : AW) : Option (AW) :=
gd (isb q0_15) (
lw (setI w 0 22 q0_15) (fun w2 =>
if (w2.1 0 22) = 0 then (
bX12_wantJob_37 N p1_15 w2)
else (
if (w2.1 0 17) = 1 then (
bd (fX12_advance N w2) (fun w52 =>
bX12_wantJob_37 N p1_15 w52))
else (
bX12_wantJob_37 N p1_15 w2))))
def fX12_wantJob (N : Nat) (a0 : Int32) (w : AW) : Option (AW) :=
if 6 ≤ (w.1 0 25) then (
bX12_wantJob_15 N a0 0 w)
else (
bX12_wantJob_15 N a0 1 w)
def fX12_wantLaw (N : Nat) (a0 : Int32) (w : AW) : Option (AW) :=
bd (fX12_advance N w) (fun w2 =>
gd (inb a0 4) (
bd2 (fX12_wantNumber N (w2.1 3 a0.toNatClampNeg) (w2.1 4 a0.toNatClampNeg) w2) (fun r5 w6 =>
bd (fX12_wantEnd N w6) (fun w9 =>
if (w9.1 0 22) = 0 then (
lw (setI w9 11 a0.toNatClampNeg (w9.1 11 a0.toNatClampNeg)) (fun w11 =>
some w11))
else (
lw (setI w9 11 a0.toNatClampNeg r5) (fun w12 =>
some w12))))))
def lbX12_board_17_1 (N : Nat) : (Int32 × AW) → Option ((Int32 × AW) ⊕ (AW)) := fun s => match s with
  | (x1_17_1, w_17_1) => (
if 4 ≤ x1_17_1 then (
some (.inr w_17_1))
else (
gd (inb x1_17_1 4) (
lw (setI w_17_1 11 x1_17_1.toNatClampNeg (w_17_1.1 2 x1_17_1.toNatClampNeg)) (fun w6 =>
some (.inl ((x1_17_1 + 1), w6))))))
def lbX12_board_44_2 (N : Nat) : (AW) → Option ((AW) ⊕ (AW)) := fun s => match s with
  | w_44_2 => (
if (w_44_2.1 0 22) = 0 then (
some (.inr w_44_2))
else (
if (w_44_2.1 0 17) = 0 then (
some (.inr w_44_2))
else (
bd (fX12_kindHere w_44_2) (fun r14 =>
if 0 ≤ r14 then (
if (w_44_2.1 0 17) = 2 then (
bd (fX12_wantJob N 0 w_44_2) (fun w18 =>
some (.inl w18)))
else (
bd (fX12_kindHere w_44_2) (fun r20 =>
bd (fX12_wantJob N r20 w_44_2) (fun w22 =>
some (.inl w22)))))
else (
if (w_44_2.1 0 17) = 2 then (
if (w_44_2.1 0 17) = 2 then (
bd (fX12_wantJob N 0 w_44_2) (fun w26 =>
some (.inl w26)))
else (
bd (fX12_kindHere w_44_2) (fun r28 =>
bd (fX12_wantJob N r28 w_44_2) (fun w30 =>
some (.inl w30)))))
else (
bd (fX12_lawHere w_44_2) (fun r32 =>
if r32 < 0 then (
lw (setI w_44_2 0 22 0) (fun w34 =>
some (.inl w34)))
else (
bd (fX12_lawHere w_44_2) (fun r36 =>
bd (fX12_wantLaw N r36 w_44_2) (fun w38 =>
some (.inl w38)))))))))))
def lbX12_board_152_3 (N : Nat) : (Int32 × AW) → Option ((Int32 × AW) ⊕ (AW)) := fun s => match s with
  | (x1_152_3, w_152_3) => (
if (w_152_3.1 0 0) ≤ x1_152_3 then (
some (.inr w_152_3))
else (
gd (inb (5 * x1_152_3) 30) (
gd (inb ((5 * x1_152_3) + 1) 30) (
gd (inb ((5 * x1_152_3) + 2) 30) (
gd (inb ((5 * x1_152_3) + 3) 30) (
gd (inb ((5 * x1_152_3) + 4) 30) (
bd (fX12_lay x1_152_3 (w_152_3.1 10 (5 * x1_152_3).toNatClampNeg) (w_152_3.1 10 ((5 * x1_152_3) + 1).toNatClampNeg) (w_152_3.1 10 ((5 * x1_152_3) + 2).toNatClampNeg) (w_152_3.1 10 ((5 * x1_152_3) + 3).toNatClampNeg) (w_152_3.1 10 ((5 * x1_152_3) + 4).toNatClampNeg) w_152_3) (fun w51 =>
gd (inb x1_152_3 8) (
lw (setI w51 7 x1_152_3.toNatClampNeg x1_152_3) (fun w53 =>
some (.inl ((x1_152_3 + 1), w53))))))))))))
def lbX12_board_222_4 (N : Nat) : (Int32 × AW) → Option ((Int32 × AW) ⊕ (AW)) := fun s => match s with
  | (x1_222_4, w_222_4) => (
if 4 ≤ x1_222_4 then (
some (.inr w_222_4))
else (
gd (inb x1_222_4 4) (
lw (setI w_222_4 2 x1_222_4.toNatClampNeg (w_222_4.1 11 x1_222_4.toNatClampNeg)) (fun w58 =>
some (.inl ((x1_222_4 + 1), w58))))))
def lbX12_board_247_5 (N : Nat) : (Int32 × AW) → Option ((Int32 × AW) ⊕ (AW)) := fun s => match s with
  | (x1_247_5, w_247_5) => (
if 60 < x1_247_5 then (
some (.inr w_247_5))
else (
gd (inb x1_247_5 61) (
lw (setI w_247_5 5 x1_247_5.toNatClampNeg 0) (fun w63 =>
lw (setI w63 6 x1_247_5.toNatClampNeg 0) (fun w64 =>
some (.inl ((x1_247_5 + 1), w64)))))))
def bX12_board_122 (N : Nat) (w : AW) : Option (Int32 × AW) :=
lw (setI w 0 16 0) (fun w41 =>
if (w41.1 0 22) = 0 then (
some (((-100) - (w41.1 0 18)), w41))
else (
lw (setI w41 0 0 (w41.1 0 25)) (fun w43 =>
bd (wh (lbX12_board_152_3 N) N (0, w43)) (fun w55 =>
bd (wh (lbX12_board_222_4 N) N (0, w55)) (fun w60 =>
bd (wh (lbX12_board_247_5 N) N (0, w60)) (fun w66 =>
lw (setI w66 0 5 0) (fun w67 =>
lw (setI w67 0 6 0) (fun w68 =>
lw (setI w68 0 7 0) (fun w69 =>
lw (setI w69 0 8 0) (fun w70 =>
lw (setI w70 0 37 0) (fun w71 =>
some ((w71.1 0 0), w71))))))))))))
def fX12_board (N : Nat) (w : AW) : Option (Int32 × AW) :=
lw (setI w 0 19 0) (fun w1 =>
lw (setI w1 0 22 1) (fun w2 =>
lw (setI w2 0 25 0) (fun w3 =>
bd (wh (lbX12_board_17_1 N) N (0, w3)) (fun w8 =>
bd (fX12_advance N w8) (fun w10 =>
bd (wh (lbX12_board_44_2 N) N w10) (fun w40 =>
bX12_board_122 N w40))))))
def fX12_worksAll (N : Nat) (a0 : Int32) (a1 : Int32) (a2 : Int32) (w : AW) : Option (AW) :=
bd (fX12_worksMany N a0 a0 a1 a2 w) (fun w2 =>
some w2)
def lbX12_byPlan_2_1 (N : Nat) : (Int32 × AW) → Option ((Int32 × AW) ⊕ (AW)) := fun s => match s with
  | (x1_2_1, w_2_1) => (
if (w_2_1.1 0 0) ≤ x1_2_1 then (
some (.inr w_2_1))
else (
gd (inb x1_2_1 8) (
lw (setI w_2_1 12 x1_2_1.toNatClampNeg (w_2_1.1 7 x1_2_1.toNatClampNeg)) (fun w3 =>
some (.inl ((x1_2_1 + 1), w3))))))
def fX12_byPlan (N : Nat) (w : AW) : Option (AW) :=
bd (wh (lbX12_byPlan_2_1 N) N (0, w)) (fun w5 =>
bd (fX12_worksAll N (w5.1 0 0) 0 0 w5) (fun w7 =>
some w7))
def lbX12_comes_30_1 (N : Nat) (c1_30_1 : Int32) (w_30_1 : AW) : (Int32 × Int32) → Option ((Int32 × Int32) ⊕ ((Unit) ⊕ (Int32))) := fun s => match s with
  | (x2_30_1, x3_30_1) => (
if (w_30_1.1 0 12) ≤ x3_30_1 then (
some (.inr (.inl ())))
else (
bd (fX12_typeIts x3_30_1 5 w_30_1) (fun r5 =>
if (x2_30_1 + r5) ≤ c1_30_1 then (
some (.inl ((x2_30_1 + r5), (x3_30_1 + 1))))
else (
some (.inr (.inr x3_30_1))))))
def fX12_comes (N : Nat) (w : AW) : Option (Int32 × AW) :=
lw (setI w 0 14 (((w.1 0 14) * 1103515245) + 12345)) (fun w1 =>
lw ((((w1.1 0 14).toUInt32 >>> ((16 : Int32).toUInt32 &&& Int32.toUInt32 31)).toInt32) - (((w1.1 0 14).toUInt32 >>> ((16 : Int32).toUInt32 &&& Int32.toUInt32 31)).toInt32) / 4 * 4) (fun v2 =>
bd (wh (lbX12_comes_30_1 N v2 w1) N (0, 0)) (se (fun _ =>
some ((-9), w1)) (fun y8 =>
some (y8, w1)))))
def lbX12_goesAway_4_1 (N : Nat) (c1_4_1 : Int32) : (Int32 × AW) → Option ((Int32 × AW) ⊕ (AW)) := fun s => match s with
  | (x2_4_1, w_4_1) => (
if (5 * ((w_4_1.1 0 0) - 1)) ≤ x2_4_1 then (
some (.inr w_4_1))
else (
gd (inb (x2_4_1 + 5) 50) (
gd (inb x2_4_1 50) (
lw (setI w_4_1 1 x2_4_1.toNatClampNeg (w_4_1.1 1 (x2_4_1 + 5).toNatClampNeg)) (fun w4 =>
some (.inl ((x2_4_1 + 1), w4)))))))
def lbX12_goesAway_40_2 (N : Nat) (c1_40_2 : Int32) : (Int32 × Int32 × AW) → Option ((Int32 × Int32 × AW) ⊕ (AW)) := fun s => match s with
  | (x2_40_2, x3_40_2, w_40_2) => (
if (w_40_2.1 0 0) ≤ x3_40_2 then (
some (.inr w_40_2))
else (
gd (inb x3_40_2 8) (
if (w_40_2.1 7 x3_40_2.toNatClampNeg) = c1_40_2 then (
some (.inl (x2_40_2, (x3_40_2 + 1), w_40_2)))
else (
if (w_40_2.1 7 x3_40_2.toNatClampNeg) ≤ c1_40_2 then (
gd (inb x2_40_2 8) (
lw (setI w_40_2 7 x2_40_2.toNatClampNeg (w_40_2.1 7 x3_40_2.toNatClampNeg)) (fun w12 =>
some (.inl ((x2_40_2 + 1), (x3_40_2 + 1), w12)))))
else (
gd (inb x2_40_2 8) (
lw (setI w_40_2 7 x2_40_2.toNatClampNeg ((w_40_2.1 7 x3_40_2.toNatClampNeg) - 1)) (fun w14 =>
some (.inl ((x2_40_2 + 1), (x3_40_2 + 1), w14)))))))))
def fX12_goesAway (N : Nat) (a0 : Int32) (w : AW) : Option (AW) :=
bd (wh (lbX12_goesAway_4_1 N a0) N ((5 * a0), w)) (fun w6 =>
bd (wh (lbX12_goesAway_40_2 N a0) N (0, 0, w6)) (fun w16 =>
lw (setI w16 0 0 ((w16.1 0 0) - 1)) (fun w17 =>
some w17)))
def fX12_drop (N : Nat) (a0 : Int32) (w : AW) : Option (Int32 × AW) :=
bd (fX12_isJob a0 w) (fun r2 =>
if r2 = 0 then (
some ((-1), w))
else (
bd (fX12_goesAway N a0 w) (fun w5 =>
some ((w5.1 0 0), w5))))
def fX12_ends (N : Nat) (a0 : Int32) (w : AW) : Option (Int32 × AW) :=
bd (fX12_isJob a0 w) (fun r2 =>
if r2 = 0 then (
some ((-1), w))
else (
bd (fX12_byPlan N w) (fun w5 =>
gd (inb a0 8) (
some ((w5.1 14 a0.toNatClampNeg), w5)))))
def lbX12_feed_30_1 (N : Nat) (c1_30_1 : Int64) (c3_30_1 : Int32) : (Int32 × AW) → Option ((Int32 × AW) ⊕ (AW)) := fun s => match s with
  | (x4_30_1, w_30_1) => (
if c3_30_1 ≤ x4_30_1 then (
some (.inr w_30_1))
else (
gd (inb (w_30_1.1 0 16) 200) (
lw (setI w_30_1 9 (w_30_1.1 0 16).toNatClampNeg (((c1_30_1 >>> ((8 * x4_30_1).toInt64 &&& 63)) &&& 255).toInt32)) (fun w7 =>
lw (setI w7 0 16 ((w7.1 0 16) + 1)) (fun w8 =>
some (.inl ((x4_30_1 + 1), w8)))))))
def fX12_feed (N : Nat) (a0 : Int64) (a1 : Int32) (w : AW) : Option (Int32 × AW) :=
bd (fX12_in a1 1 8 w) (fun r2 =>
if r2 = 0 then (
some ((-1), w))
else (
if ((w.1 0 16) + a1) ≤ 200 then (
bd (wh (lbX12_feed_30_1 N a0 a1) N (0, w)) (fun w10 =>
some ((w10.1 0 16), w10)))
else (
some ((-2), w))))
def lbX12_lateMany_4_1 (N : Nat) (c1_4_1 : Int32) (w_4_1 : AW) : (Int32 × Int32) → Option ((Int32 × Int32) ⊕ (Int32)) := fun s => match s with
  | (x2_4_1, x3_4_1) => (
if c1_4_1 ≤ x3_4_1 then (
some (.inr x2_4_1))
else (
gd (inb x3_4_1 8) (
bd (fX12_isLate (w_4_1.1 12 x3_4_1.toNatClampNeg) w_4_1) (fun r4 =>
if r4 = 0 then (
some (.inl ((x2_4_1 + 0), (x3_4_1 + 1))))
else (
some (.inl ((x2_4_1 + 1), (x3_4_1 + 1))))))))
def fX12_lateMany (N : Nat) (a0 : Int32) (w : AW) : Option (Int32) :=
bd (wh (lbX12_lateMany_4_1 N a0 w) N (0, 0)) (fun y7 =>
some y7)
def lbX12_fewest_15_1 (N : Nat) (c1_15_1 : Int32) : (Int32 × Int32 × AW) → Option ((Int32 × Int32 × AW) ⊕ (Int32 × AW)) := fun s => match s with
  | (x2_15_1, x3_15_1, w_15_1) => (
if x3_15_1 = 0 then (
some (.inr (x2_15_1, w_15_1)))
else (
bd (fX12_worksAll N c1_15_1 0 0 w_15_1) (fun w7 =>
bd (fX12_lateMany N c1_15_1 w7) (fun r9 =>
if x2_15_1 ≤ r9 then (
bd2 (fX12_nextOrder N c1_15_1 w7) (fun r12 w13 =>
some (.inl (x2_15_1, r12, w13))))
else (
bd2 (fX12_nextOrder N c1_15_1 w7) (fun r16 w17 =>
some (.inl (r9, r16, w17))))))))
def fX12_fewest (N : Nat) (w : AW) : Option (Int32 × AW) :=
bd2 (fX12_firstOrder N (w.1 0 0) (-1) w) (fun r2 w3 =>
bd (wh (lbX12_fewest_15_1 N r2) N (9, 1, w3)) (fun q => match q with | (y20, w21) => (
some (y20, w21))))
def fX12_isLike (a0 : Int32) (a1 : Int32) (a2 : Int32) (w : AW) : Option (Int32) :=
bd (fX12_in a0 0 5 w) (fun r2 =>
if r2 = 0 then (
some 0)
else (
bd (fX12_in a1 1 9 w) (fun r5 =>
if r5 = 0 then (
some 0)
else (
bd (fX12_isSide a2 w) (fun r8 =>
if r8 = 0 then (
some 0)
else (
some 1))))))
def fX12_isPromised (a0 : Int32) (a1 : Int32) (w : AW) : Option (Int32) :=
bd (fX12_in a0 0 60 w) (fun r2 =>
if r2 = 0 then (
some 0)
else (
bd (fX12_in a1 0 99 w) (fun r5 =>
if r5 = 0 then (
some 0)
else (
some 1))))
def fX12_gain (N : Nat) (a0 : Int32) (a1 : Int32) (a2 : Int32) (a3 : Int32) (a4 : Int32) (w : AW) : Option (Int32 × AW) :=
bd (fX12_isLike a0 a1 a2 w) (fun r2 =>
if r2 = 0 then (
some ((-2147483648), w))
else (
bd (fX12_isPromised a3 a4 w) (fun r5 =>
if r5 = 0 then (
some ((-2147483648), w))
else (
if (w.1 0 0) = 6 then (
some ((-2147483648), w))
else (
bd2 (fX12_mostOfAll N (w.1 0 0) (-1) w) (fun r9 w10 =>
bd (fX12_lay (w10.1 0 0) a0 a1 a2 a3 a4 w10) (fun w13 =>
bd2 (fX12_mostOfAll N ((w13.1 0 0) + 1) (-1) w13) (fun r15 w16 =>
some ((r15 - r9), w16)))))))))
def lbX12_goes_34_1 (N : Nat) : (Int32 × Int32 × Int32 × AW) → Option ((Int32 × Int32 × Int32 × AW) ⊕ (Int32 × AW)) := fun s => match s with
  | (x1_34_1, x2_34_1, x3_34_1, w_34_1) => (
if x1_34_1 ≤ 0 then (
some (.inr (x3_34_1, w_34_1)))
else (
if (w_34_1.1 0 0) ≤ x2_34_1 then (
some (.inr (x3_34_1, w_34_1)))
else (
gd (inb x2_34_1 8) (
bd2 (fX12_works (w_34_1.1 7 x2_34_1.toNatClampNeg) w_34_1) (fun r10 w11 =>
if r10 = 0 then (
some (.inl ((x1_34_1 + (-1)), x2_34_1, x3_34_1, w11)))
else (
gd (inb (w11.1 7 x2_34_1.toNatClampNeg) 8) (
lw (setI w11 14 (w11.1 7 x2_34_1.toNatClampNeg).toNatClampNeg (w11.1 0 5)) (fun w15 =>
bd (fX12_worthOf (w15.1 7 x2_34_1.toNatClampNeg) w15) (fun r17 =>
lw (setI w15 0 8 ((w15.1 0 8) + r17)) (fun w18 =>
some (.inl ((x1_34_1 + (-1)), (x2_34_1 + 1), (x3_34_1 + 1), w18))))))))))))
def lbX12_goes_124_2 (N : Nat) (c3_124_2 : Int32) : (Int32 × AW) → Option ((Int32 × AW) ⊕ (AW)) := fun s => match s with
  | (x4_124_2, w_124_2) => (
if (w_124_2.1 0 0) ≤ x4_124_2 then (
some (.inr w_124_2))
else (
gd (inb x4_124_2 8) (
gd (inb ((5 * x4_124_2) + 1) 50) (
lw (setI w_124_2 1 ((5 * x4_124_2) + 1).toNatClampNeg (w_124_2.1 13 x4_124_2.toNatClampNeg)) (fun w27 =>
some (.inl ((x4_124_2 + 1), w27)))))))
def lbX12_goes_165_3 (N : Nat) (c3_165_3 : Int32) : (Int32 × AW) → Option ((Int32 × AW) ⊕ (AW)) := fun s => match s with
  | (x4_165_3, w_165_3) => (
if x4_165_3 < 0 then (
some (.inr w_165_3))
else (
bd (fX12_its x4_165_3 1 w_165_3) (fun r32 =>
if r32 = 0 then (
bd (fX12_goesAway N x4_165_3 w_165_3) (fun w35 =>
some (.inl ((x4_165_3 + (-1)), w35))))
else (
some (.inl ((x4_165_3 + (-1)), w_165_3))))))
def fX12_goes (N : Nat) (w : AW) : Option (Int32 × AW) :=
if (w.1 0 5) = 60 then (
some ((-4), w))
else (
bd (fX12_lends N (w.1 0 0) 0 w) (fun w3 =>
bd (fX12_slotsOf (w3.1 0 5) w3) (fun r5 =>
bd (wh (lbX12_goes_34_1 N) N (r5, 0, 0, w3)) (fun q => match q with | (y20, w21) => (
lw (setI w21 0 6 (w21.1 0 29)) (fun w22 =>
lw (setI w22 0 7 (w22.1 0 30)) (fun w23 =>
bd (wh (lbX12_goes_124_2 N y20) N (0, w23)) (fun w29 =>
bd (wh (lbX12_goes_165_3 N y20) N (((w29.1 0 0) - 1), w29)) (fun w37 =>
lw (setI w37 0 5 ((w37.1 0 5) + 1)) (fun w38 =>
some (y20, w38)))))))))))
def fX12_isHeld (a0 : Int32) (a1 : Int32) (w : AW) : Option (Int32) :=
if a0 = 0 then (
bd (fX12_isJob a1 w) (fun r3 =>
gd (isb r3) (
some r3)))
else (
if a0 = 1 then (
bd (fX12_isShelf a1 w) (fun r7 =>
gd (isb r7) (
some r7)))
else (
if a0 = 2 then (
some 1)
else (
some 0)))
def fX12_isUnder (a0 : Int32) (a1 : Int32) (w : AW) : Option (Int32) :=
if a1 = 0 then (
some 1)
else (
if a1 = a0 then (
some 1)
else (
if a1 = 1 then (
if a0 = 4 then (
some 1)
else (
if a1 = 2 then (
if a0 = 3 then (
some 1)
else (
some 0))
else (
some 0)))
else (
if a1 = 2 then (
if a0 = 3 then (
some 1)
else (
some 0))
else (
some 0))))
def fX12_lacksSort (a0 : Int32) (a1 : Int32) (w : AW) : Option (Int32) :=
gd (inb a0 4) (
if 0 ≤ (w.1 19 a0.toNatClampNeg) then (
if (w.1 19 a0.toNatClampNeg) = a1 then (
some 0)
else (
some (-13)))
else (
some (-11)))
def fX12_item (a0 : Int32) (a1 : Int32) (a2 : Int32) (w : AW) : Option (Int32) :=
bd (fX12_isShelf a0 w) (fun r2 =>
if r2 = 0 then (
some (-1))
else (
bd (fX12_in a1 0 3 w) (fun r5 =>
if r5 = 0 then (
some (-1))
else (
bd (fX12_lacksSort a0 a1 w) (fun r8 =>
if r8 = 0 then (
gd (inb a0 4) (
bd (fX12_in a2 0 ((w.1 20 a0.toNatClampNeg) - 1) w) (fun r12 =>
if r12 = 0 then (
some (-12))
else (
gd (inb ((40 * a0) + a2) 160) (
some ((w.2 21 ((40 * a0) + a2).toNatClampNeg).toInt32))))))
else (
some r8))))))
def fX12_job (a0 : Int32) (a1 : Int32) (a2 : Int32) (a3 : Int32) (a4 : Int32) (w : AW) : Option (Int32 × AW) :=
bd (fX12_isLike a0 a1 a2 w) (fun r2 =>
if r2 = 0 then (
some ((-1), w))
else (
bd (fX12_isPromised a3 a4 w) (fun r5 =>
if r5 = 0 then (
some ((-1), w))
else (
if (w.1 0 0) = 6 then (
some ((-2), w))
else (
bd (fX12_lay (w.1 0 0) a0 a1 a2 a3 a4 w) (fun w9 =>
gd (inb (w9.1 0 0) 8) (
lw (setI w9 7 (w9.1 0 0).toNatClampNeg (w9.1 0 0)) (fun w11 =>
lw (setI w11 0 0 ((w11.1 0 0) + 1)) (fun w12 =>
some (((w12.1 0 0) - 1), w12))))))))))
def fX12_jobOf (a0 : Int32) (a1 : Int32) (w : AW) : Option (Int32) :=
bd (fX12_isJob a0 w) (fun r2 =>
if r2 = 0 then (
some (-1))
else (
bd (fX12_in a1 0 4 w) (fun r5 =>
if r5 = 0 then (
some (-1))
else (
bd (fX12_its a0 a1 w) (fun r8 =>
some r8)))))
def lbX12_judge_4_1 (N : Nat) : (Int32 × Int32 × AW) → Option ((Int32 × Int32 × AW) ⊕ ((AW) ⊕ ((Int32 × AW) ⊕ (Int32 × AW)))) := fun s => match s with
  | (x1_4_1, x2_4_1, w_4_1) => (
if (w_4_1.1 0 37) ≤ x2_4_1 then (
some (.inr (.inl w_4_1)))
else (
gd (inb (3 * x2_4_1) 18) (
lw (w_4_1.1 18 (3 * x2_4_1).toNatClampNeg) (fun v3 =>
bd (fX12_isJob v3 w_4_1) (fun r5 =>
if r5 = 0 then (
some (.inr (.inr (.inl (x2_4_1, w_4_1)))))
else (
if ((x1_4_1 >>> (v3 &&& 31)) &&& 1) = 1 then (
some (.inr (.inr (.inl (x2_4_1, w_4_1)))))
else (
gd (inb x2_4_1 8) (
lw (setI w_4_1 12 x2_4_1.toNatClampNeg v3) (fun w9 =>
bd (fX12_worksMany N (x2_4_1 + 1) (w9.1 0 0) 0 0 w9) (fun w11 =>
gd (inb ((3 * x2_4_1) + 1) 18) (
gd (inb v3 8) (
if (w11.1 18 ((3 * x2_4_1) + 1).toNatClampNeg) = (w11.1 14 v3.toNatClampNeg) then (
gd (inb ((3 * x2_4_1) + 2) 18) (
bd (fX12_worthOf v3 w11) (fun r17 =>
if (w11.1 18 ((3 * x2_4_1) + 2).toNatClampNeg) = r17 then (
some (.inl ((x1_4_1 ||| (1 <<< (v3 &&& 31))), (x2_4_1 + 1), w11)))
else (
some (.inr (.inr (.inr (x2_4_1, w11))))))))
else (
some (.inr (.inr (.inr (x2_4_1, w11)))))))))))))))))
def fX12_judge (N : Nat) (w : AW) : Option (Int32 × AW) :=
bd (wh (lbX12_judge_4_1 N) N (0, 0, w)) (se (fun w20 =>
if (w20.1 0 0) ≤ (w20.1 0 37) then (
some (0, w20))
else (
some (222, w20))) (se (fun q => match q with | (y22, w23) => (
some ((y22 + 1), w23))) (fun q => match q with | (y24, w25) => (
some ((y24 + 1), w25)))))
def fX12_keep (N : Nat) (w : AW) : Option (Int32 × AW) :=
bd (fX12_moveAll N 1 w) (fun w2 =>
lw (setI w2 0 50 1) (fun w3 =>
some (1, w3)))
def lbX12_late_8_1 (N : Nat) (w_8_1 : AW) : (Int32 × Int32) → Option ((Int32 × Int32) ⊕ (Int32)) := fun s => match s with
  | (x1_8_1, x2_8_1) => (
if (w_8_1.1 0 0) ≤ x2_8_1 then (
some (.inr x1_8_1))
else (
bd (fX12_isLate x2_8_1 w_8_1) (fun r5 =>
if r5 = 0 then (
some (.inl ((x1_8_1 ||| 0), (x2_8_1 + 1))))
else (
some (.inl ((x1_8_1 ||| (1 <<< (x2_8_1 &&& 31))), (x2_8_1 + 1)))))))
def fX12_late (N : Nat) (w : AW) : Option (Int32 × AW) :=
bd (fX12_byPlan N w) (fun w2 =>
bd (wh (lbX12_late_8_1 N w2) N (0, 0)) (fun y8 =>
some (y8, w2)))
def fX12_lose (a0 : Int32) (a1 : Int32) (w : AW) : Option (Int32 × AW) :=
bd (fX12_in a0 0 60 w) (fun r2 =>
if r2 = 0 then (
some ((-1), w))
else (
bd (fX12_in a1 0 9 w) (fun r5 =>
if r5 = 0 then (
some ((-1), w))
else (
gd (inb a0 61) (
lw (setI w 5 a0.toNatClampNeg a1) (fun w8 =>
some ((w.1 5 a0.toNatClampNeg), w8)))))))
def fX12_many (a0 : Int32) (w : AW) : Option (Int32) :=
if a0 = 0 then (
some (w.1 0 0))
else (if a0 = 1 then (
some (w.1 0 12))
else (if a0 = 2 then (
some (w.1 0 37))
else (if a0 = 3 then (
some (w.1 0 16))
else (if a0 = 4 then (
some (w.1 0 48))
else (
some (-1))))))
def lbX12_oftenOf_4_1 (N : Nat) (c1_4_1 : Int32) (w_4_1 : AW) : (Int32 × Int32) → Option ((Int32 × Int32) ⊕ (Int32)) := fun s => match s with
  | (x2_4_1, x3_4_1) => (
if (w_4_1.1 0 0) ≤ x3_4_1 then (
some (.inr x2_4_1))
else (
if ((c1_4_1 >>> (x3_4_1 &&& 31)) &&& 1) = 1 then (
lw (x2_4_1 * (w_4_1.1 2 (3 : Int32).toNatClampNeg)) (fun v3 =>
some (.inl (v3, (x3_4_1 + 1)))))
else (
lw (x2_4_1 * (4 - (w_4_1.1 2 (3 : Int32).toNatClampNeg))) (fun v4 =>
some (.inl (v4, (x3_4_1 + 1)))))))
def fX12_oftenOf (N : Nat) (a0 : Int32) (w : AW) : Option (Int32) :=
bd (wh (lbX12_oftenOf_4_1 N a0 w) N (1, 0)) (fun y6 =>
some y6)
def lbX12_orderOfPlan_2_1 (N : Nat) : (Int32 × AW) → Option ((Int32 × AW) ⊕ (AW)) := fun s => match s with
  | (x1_2_1, w_2_1) => (
if (w_2_1.1 0 0) ≤ x1_2_1 then (
some (.inr w_2_1))
else (
gd (inb x1_2_1 8) (
lw (setI w_2_1 12 x1_2_1.toNatClampNeg (w_2_1.1 7 x1_2_1.toNatClampNeg)) (fun w3 =>
some (.inl ((x1_2_1 + 1), w3))))))
def fX12_orderOfPlan (N : Nat) (w : AW) : Option (AW) :=
bd (wh (lbX12_orderOfPlan_2_1 N) N (0, w)) (fun w5 =>
some w5)
def lbX12_mean_19_1 (N : Nat) (c1_19_1 : Int32) : (Int32 × Int32 × AW) → Option ((Int32 × Int32 × AW) ⊕ (Int32 × AW)) := fun s => match s with
  | (x2_19_1, x3_19_1, w_19_1) => (
if (1 <<< ((w_19_1.1 0 0) &&& 31)) ≤ x3_19_1 then (
some (.inr (x2_19_1, w_19_1)))
else (
bd (fX12_oftenOf N x3_19_1 w_19_1) (fun r8 =>
bd (fX12_worksAll N (w_19_1.1 0 0) x3_19_1 0 w_19_1) (fun w10 =>
bd (fX12_worthAll N (w10.1 0 0) w10) (fun r12 =>
some (.inl ((x2_19_1 + (r8 * r12)), (x3_19_1 + 1), w10)))))))
def fX12_mean (N : Nat) (a0 : Int32) (w : AW) : Option (Int32 × AW) :=
bd (fX12_isSide a0 w) (fun r2 =>
if r2 = 0 then (
some ((-2147483648), w))
else (
bd (fX12_orderOfPlan N w) (fun w5 =>
bd (wh (lbX12_mean_19_1 N a0) N (0, 0, w5)) (fun q => match q with | (y14, w15) => (
bd (fX12_lowest N y14 (1 <<< ((2 * (w15.1 0 0)) &&& 31)) w15) (fun w17 =>
if a0 = 0 then (
some ((w17.1 0 32), w17))
else (
some ((w17.1 0 33), w17))))))))
def fX12_night (a0 : Int32) (a1 : Int32) (w : AW) : Option (Int32 × AW) :=
bd (fX12_in a0 0 60 w) (fun r2 =>
if r2 = 0 then (
some ((-1), w))
else (
bd (fX12_in a1 0 9 w) (fun r5 =>
if r5 = 0 then (
some ((-1), w))
else (
gd (inb a0 61) (
lw (setI w 6 a0.toNatClampNeg a1) (fun w8 =>
some ((w.1 6 a0.toNatClampNeg), w8)))))))
def lbX12_nights_20_2 (N : Nat) (c1_20_2 : Int32) (c2_20_2 : Int32) : (Int32 × AW) → Option ((Int32 × AW) ⊕ ((AW) ⊕ (AW))) := fun s => match s with
  | (x3_20_2, w_20_2) => (
if x3_20_2 = 0 then (
some (.inr (.inl w_20_2)))
else (
bd (fX12_worksAll N c2_20_2 0 c1_20_2 w_20_2) (fun w8 =>
bd (fX12_lateMany N c2_20_2 w8) (fun r10 =>
if r10 = 0 then (
some (.inr (.inr w8)))
else (
bd2 (fX12_nextOrder N c2_20_2 w8) (fun r13 w14 =>
some (.inl (r13, w14))))))))
def lbX12_nights_2_1 (N : Nat) : (Int32 × AW) → Option ((Int32 × AW) ⊕ ((AW) ⊕ (Int32 × AW))) := fun s => match s with
  | (x1_2_1, w_2_1) => (
if 10 ≤ x1_2_1 then (
some (.inr (.inl w_2_1)))
else (
bd2 (fX12_firstOrder N (w_2_1.1 0 0) (-1) w_2_1) (fun r3 w4 =>
bd (wh (lbX12_nights_20_2 N x1_2_1 r3) N (1, w4)) (se (fun w17 =>
some (.inl ((x1_2_1 + 1), w17))) (fun w18 =>
some (.inr (.inr (x1_2_1, w18))))))))
def fX12_nights (N : Nat) (w : AW) : Option (Int32 × AW) :=
bd (wh (lbX12_nights_2_1 N) N (0, w)) (se (fun w20 =>
some ((-3), w20)) (fun q => match q with | (y21, w22) => (
some (y21, w22))))
def lbX12_plan_4_1 (N : Nat) (c1_4_1 : Int32) (w_4_1 : AW) : (Int32 × Int32) → Option ((Int32 × Int32) ⊕ (Int32)) := fun s => match s with
  | (x2_4_1, x3_4_1) => (
if (w_4_1.1 0 0) ≤ x3_4_1 then (
some (.inr x2_4_1))
else (
lw (x2_4_1 ||| (1 <<< (((c1_4_1 >>> ((3 * x3_4_1) &&& 31)) &&& 7) &&& 31))) (fun v2 =>
some (.inl (v2, (x3_4_1 + 1))))))
def lbX12_plan_62_2 (N : Nat) (c1_62_2 : Int32) : (Int32 × AW) → Option ((Int32 × AW) ⊕ (AW)) := fun s => match s with
  | (x3_62_2, w_62_2) => (
if (w_62_2.1 0 0) ≤ x3_62_2 then (
some (.inr w_62_2))
else (
gd (inb x3_62_2 8) (
lw (setI w_62_2 7 x3_62_2.toNatClampNeg ((c1_62_2 >>> ((3 * x3_62_2) &&& 31)) &&& 7)) (fun w10 =>
some (.inl ((x3_62_2 + 1), w10))))))
def fX12_plan (N : Nat) (a0 : Int32) (w : AW) : Option (Int32 × AW) :=
bd (wh (lbX12_plan_4_1 N a0 w) N (0, 0)) (fun y4 =>
if a0 < 0 then (
some ((-1), w))
else (
if (a0 >>> ((3 * (w.1 0 0)) &&& 31)) = 0 then (
if y4 = ((1 <<< ((w.1 0 0) &&& 31)) - 1) then (
bd (wh (lbX12_plan_62_2 N a0) N (0, w)) (fun w12 =>
some (1, w12)))
else (
some ((-1), w)))
else (
some ((-1), w))))
def fX12_planOf (a0 : Int32) (w : AW) : Option (Int32) :=
bd (fX12_isJob a0 w) (fun r2 =>
if r2 = 0 then (
some (-1))
else (
gd (inb a0 8) (
some (w.1 7 a0.toNatClampNeg))))
def fX12_press (a0 : Int32) (w : AW) : Option (Int32) :=
if a0 = 0 then (
some (w.1 0 5))
else (
if a0 = 1 then (
some (w.1 0 6))
else (
if a0 = 2 then (
some (w.1 0 7))
else (
some (-1))))
def lbX12_prove_12_1 (N : Nat) : (Int32 × AW) → Option ((Int32 × AW) ⊕ (AW)) := fun s => match s with
  | (x1_12_1, w_12_1) => (
if (w_12_1.1 0 0) ≤ x1_12_1 then (
some (.inr w_12_1))
else (
gd (inb x1_12_1 8) (
lw (setI w_12_1 12 x1_12_1.toNatClampNeg (w_12_1.1 15 x1_12_1.toNatClampNeg)) (fun w7 =>
some (.inl ((x1_12_1 + 1), w7))))))
def lbX12_prove_58_2 (N : Nat) : (Int32 × AW) → Option ((Int32 × AW) ⊕ (AW)) := fun s => match s with
  | (x1_58_2, w_58_2) => (
if (w_58_2.1 0 0) ≤ x1_58_2 then (
some (.inr w_58_2))
else (
gd (inb x1_58_2 8) (
gd (inb (3 * x1_58_2) 18) (
lw (setI w_58_2 18 (3 * x1_58_2).toNatClampNeg (w_58_2.1 12 x1_58_2.toNatClampNeg)) (fun w16 =>
gd (inb (w16.1 12 x1_58_2.toNatClampNeg) 8) (
gd (inb ((3 * x1_58_2) + 1) 18) (
lw (setI w16 18 ((3 * x1_58_2) + 1).toNatClampNeg (w16.1 14 (w16.1 12 x1_58_2.toNatClampNeg).toNatClampNeg)) (fun w19 =>
bd (fX12_worthOf (w19.1 12 x1_58_2.toNatClampNeg) w19) (fun r21 =>
gd (inb ((3 * x1_58_2) + 2) 18) (
lw (setI w19 18 ((3 * x1_58_2) + 2).toNatClampNeg r21) (fun w23 =>
some (.inl ((x1_58_2 + 1), w23)))))))))))))
def fX12_prove (N : Nat) (w : AW) : Option (Int32 × AW) :=
bd2 (fX12_mostOfAll N (w.1 0 0) (-1) w) (fun r2 w3 =>
bd (wh (lbX12_prove_12_1 N) N (0, w3)) (fun w9 =>
bd (fX12_worksAll N (w9.1 0 0) 0 0 w9) (fun w11 =>
lw (setI w11 0 37 (w11.1 0 0)) (fun w12 =>
bd (wh (lbX12_prove_58_2 N) N (0, w12)) (fun w25 =>
some ((w25.1 0 37), w25))))))
def fX12_put (a0 : Int32) (a1 : Int32) (a2 : Int32) (w : AW) : Option (Int32 × AW) :=
bd (fX12_isShelf a0 w) (fun r2 =>
if r2 = 0 then (
some ((-1), w))
else (
gd (inb a0 4) (
if 0 ≤ (w.1 19 a0.toNatClampNeg) then (
bd (fX12_in a1 0 ((w.1 20 a0.toNatClampNeg) - 1) w) (fun r7 =>
if r7 = 0 then (
some ((-12), w))
else (
if (w.1 19 a0.toNatClampNeg) = 0 then (
gd (inb ((40 * a0) + a1) 160) (
lw (setL w 21 ((40 * a0) + a1).toNatClampNeg a2.toInt8.toInt32.toInt64) (fun w11 =>
some (1, w11))))
else (
if (w.1 19 a0.toNatClampNeg) = 1 then (
gd (inb ((40 * a0) + a1) 160) (
lw (setL w 21 ((40 * a0) + a1).toNatClampNeg a2.toInt16.toInt32.toInt64) (fun w14 =>
some (1, w14))))
else (
gd (inb ((40 * a0) + a1) 160) (
lw (setL w 21 ((40 * a0) + a1).toNatClampNeg a2.toInt64) (fun w16 =>
some (1, w16))))))))
else (
some ((-11), w)))))
def fX12_row (a0 : Int32) (a1 : Int32) (w : AW) : Option (Int32) :=
bd (fX12_isRow a0 a1 w) (fun r2 =>
if r2 = 0 then (
some (-2147483648))
else (
gd (inb ((3 * a0) + a1) 18) (
some (w.1 18 ((3 * a0) + a1).toNatClampNeg))))
def lbX12_sureOf_4_1 (N : Nat) : (Int32 × Int32 × AW) → Option ((Int32 × Int32 × AW) ⊕ (Int32 × AW)) := fun s => match s with
  | (x1_4_1, x2_4_1, w_4_1) => (
if (1 <<< ((w_4_1.1 0 0) &&& 31)) ≤ x2_4_1 then (
some (.inr (x1_4_1, w_4_1)))
else (
bd (fX12_oftenOf N x2_4_1 w_4_1) (fun r3 =>
if r3 ≤ 0 then (
some (.inl (x1_4_1, (x2_4_1 + 1), w_4_1)))
else (
bd (fX12_worksAll N (w_4_1.1 0 0) x2_4_1 0 w_4_1) (fun w6 =>
bd (fX12_lateMany N (w6.1 0 0) w6) (fun r8 =>
if r8 = 0 then (
some (.inl ((x1_4_1 + r3), (x2_4_1 + 1), w6)))
else (
some (.inl ((x1_4_1 + 0), (x2_4_1 + 1), w6)))))))))
def fX12_sureOf (N : Nat) (w : AW) : Option (Int32 × AW) :=
bd (wh (lbX12_sureOf_4_1 N) N (0, 0, w)) (fun q => match q with | (y11, w12) => (
some (y11, w12)))
def lbX12_safest_26_1 (N : Nat) (c1_26_1 : Int32) (c2_26_1 : Int32) : (Int32 × Int32 × AW) → Option ((Int32 × Int32 × AW) ⊕ (Int32 × AW)) := fun s => match s with
  | (x3_26_1, x4_26_1, w_26_1) => (
if x4_26_1 = 0 then (
some (.inr (x3_26_1, w_26_1)))
else (
bd2 (fX12_sureOf N w_26_1) (fun r10 w11 =>
if r10 ≤ x3_26_1 then (
bd2 (fX12_nextOrder N c2_26_1 w11) (fun r15 w16 =>
some (.inl (x3_26_1, r15, w16))))
else (
bd (fX12_keepsOrder N c2_26_1 w11) (fun w19 =>
bd2 (fX12_nextOrder N c2_26_1 w19) (fun r21 w22 =>
some (.inl (r10, r21, w22))))))))
def fX12_safest (N : Nat) (a0 : Int32) (w : AW) : Option (Int32 × AW) :=
bd (fX12_in a0 0 2 w) (fun r2 =>
if r2 = 0 then (
some ((-1), w))
else (
bd2 (fX12_firstOrder N (w.1 0 0) (-1) w) (fun r5 w6 =>
bd (wh (lbX12_safest_26_1 N a0 r5) N ((-1), 1, w6)) (fun q => match q with | (y25, w26) => (
bd (fX12_lowest N y25 (1 <<< ((2 * (w26.1 0 0)) &&& 31)) w26) (fun w28 =>
if a0 = 0 then (
bd (fX12_digitsOf N (w28.1 0 0) w28) (fun r31 =>
some (r31, w28)))
else (
if a0 = 1 then (
some ((w28.1 0 32), w28))
else (
some ((w28.1 0 33), w28)))))))))
def fX12_seed (a0 : Int32) (w : AW) : Option (Int32 × AW) :=
lw (setI w 0 14 a0) (fun w1 =>
some ((w.1 0 14), w1))
def fX12_set (a0 : Int32) (a1 : Int32) (w : AW) : Option (Int32 × AW) :=
bd (fX12_in a0 0 3 w) (fun r2 =>
if r2 = 0 then (
if 0 = a0 then (
bd (fX12_in a1 (w.1 3 (0 : Int32).toNatClampNeg) (w.1 4 (0 : Int32).toNatClampNeg) w) (fun r6 =>
if r6 = 0 then (
some ((-1), w))
else (
gd (inb a0 4) (
lw (setI w 2 a0.toNatClampNeg a1) (fun w9 =>
some ((w.1 2 a0.toNatClampNeg), w9))))))
else (
some ((-1), w)))
else (
if a0 = a0 then (
gd (inb a0 4) (
bd (fX12_in a1 (w.1 3 a0.toNatClampNeg) (w.1 4 a0.toNatClampNeg) w) (fun r13 =>
if r13 = 0 then (
some ((-1), w))
else (
lw (setI w 2 a0.toNatClampNeg a1) (fun w15 =>
some ((w.1 2 a0.toNatClampNeg), w15))))))
else (
some ((-1), w))))
def lbX12_sheet_64_1 (N : Nat) (c1_64_1 : Int32) : (Int32 × AW) → Option ((Int32 × AW) ⊕ (AW)) := fun s => match s with
  | (x4_64_1, w_64_1) => (
if 40 ≤ x4_64_1 then (
some (.inr w_64_1))
else (
gd (inb ((40 * c1_64_1) + x4_64_1) 160) (
lw (setL w_64_1 21 ((40 * c1_64_1) + x4_64_1).toNatClampNeg 0) (fun w15 =>
some (.inl ((x4_64_1 + 1), w15))))))
def lbX12_sheet_64_2 (N : Nat) (c1_64_2 : Int32) : (Int32 × AW) → Option ((Int32 × AW) ⊕ (AW)) := fun s => match s with
  | (x4_64_2, w_64_2) => (
if 40 ≤ x4_64_2 then (
some (.inr w_64_2))
else (
gd (inb ((40 * c1_64_2) + x4_64_2) 160) (
lw (setL w_64_2 21 ((40 * c1_64_2) + x4_64_2).toNatClampNeg 0) (fun w21 =>
some (.inl ((x4_64_2 + 1), w21))))))
def bX12_sheet_39 (N : Nat) (p1_39 : Int32) (p2_39 : Int32) (p3_39 : Int32) (w : AW) : Option (Int32 × AW) :=
gd (inb p1_39 4) (
lw (setI w 19 p1_39.toNatClampNeg p2_39) (fun w10 =>
if 0 ≤ p2_39 then (
lw (setI w10 20 p1_39.toNatClampNeg p3_39) (fun w12 =>
bd (wh (lbX12_sheet_64_1 N p1_39) N (0, w12)) (fun w17 =>
some (1, w17))))
else (
lw (setI w10 20 p1_39.toNatClampNeg 0) (fun w18 =>
bd (wh (lbX12_sheet_64_2 N p1_39) N (0, w18)) (fun w23 =>
some (1, w23))))))
def bX12_sheet_28 (N : Nat) (p1_28 : Int32) (p2_28 : Int32) (p3_28 : Int32) (w : AW) : Option (Int32 × AW) :=
if p2_28 < 0 then (
bX12_sheet_39 N p1_28 p2_28 p3_28 w)
else (
if 0 ≤ p3_28 then (
bX12_sheet_39 N p1_28 p2_28 p3_28 w)
else (
some ((-14), w)))
def fX12_sheet (N : Nat) (a0 : Int32) (a1 : Int32) (a2 : Int32) (w : AW) : Option (Int32 × AW) :=
bd (fX12_isShelf a0 w) (fun r2 =>
if r2 = 0 then (
some ((-1), w))
else (
bd (fX12_in a1 (-1) 3 w) (fun r5 =>
if r5 = 0 then (
some ((-1), w))
else (
if a1 < 0 then (
bX12_sheet_28 N a0 a1 a2 w)
else (
if a2 ≤ 40 then (
bX12_sheet_28 N a0 a1 a2 w)
else (
some ((-1), w)))))))
def bX12_shelf_47 (p1_47 : Int32) (p2_47 : Int32) (p3_47 : Int32) (q0_47 : Int32) (q1_47 : Int32) (w : AW) : Option (Int32 × AW) :=
gd (inb q1_47 4) (
lw (setI w 22 q1_47.toNatClampNeg q0_47) (fun w9 =>
if p2_47 = 1 then (
gd (inb p3_47 4) (
gd (inb p1_47 4) (
lw (setI w9 23 p1_47.toNatClampNeg (w9.1 19 p3_47.toNatClampNeg)) (fun w13 =>
if p2_47 = 1 then (
lw (setI w13 24 p1_47.toNatClampNeg (w13.1 20 p3_47.toNatClampNeg)) (fun w15 =>
some (1, w15)))
else (
lw (setI w13 24 p1_47.toNatClampNeg 0) (fun w16 =>
some (1, w16)))))))
else (
gd (inb p1_47 4) (
lw (setI w9 23 p1_47.toNatClampNeg p3_47) (fun w18 =>
if p2_47 = 1 then (
gd (inb p3_47 4) (
lw (setI w18 24 p1_47.toNatClampNeg (w18.1 20 p3_47.toNatClampNeg)) (fun w21 =>
some (1, w21))))
else (
lw (setI w18 24 p1_47.toNatClampNeg 0) (fun w22 =>
some (1, w22))))))))
def bX12_shelf_42 (p1_42 : Int32) (p2_42 : Int32) (p3_42 : Int32) (q0_42 : Int32) (w : AW) : Option (Int32 × AW) :=
bX12_shelf_47 p1_42 p2_42 p3_42 (-1) q0_42 w
def bX12_shelf_46 (p1_46 : Int32) (p2_46 : Int32) (p3_46 : Int32) (q0_46 : Int32) (w : AW) : Option (Int32 × AW) :=
bX12_shelf_47 p1_46 p2_46 p3_46 p2_46 q0_46 w
def fX12_shelf (a0 : Int32) (a1 : Int32) (a2 : Int32) (w : AW) : Option (Int32 × AW) :=
bd (fX12_isShelf a0 w) (fun r2 =>
if r2 = 0 then (
some ((-1), w))
else (
bd (fX12_isHeld a1 a2 w) (fun r5 =>
if r5 = 0 then (
some ((-1), w))
else (
if a1 = 2 then (
bX12_shelf_42 a0 a1 a2 a0 w)
else (
if a1 = 1 then (
gd (inb a2 4) (
if 0 ≤ (w.1 19 a2.toNatClampNeg) then (
bX12_shelf_46 a0 a1 a2 a0 w)
else (
bX12_shelf_42 a0 a1 a2 a0 w)))
else (
bX12_shelf_46 a0 a1 a2 a0 w))))))
def fX12_slots (a0 : Int32) (w : AW) : Option (Int32) :=
bd (fX12_in a0 0 99 w) (fun r2 =>
if r2 = 0 then (
some (-1))
else (
bd (fX12_slotsOf a0 w) (fun r5 =>
some r5)))
def lbX12_soonest_57_1 (N : Nat) (c4_57_1 : Int32) : (Int32 × Int32 × AW) → Option ((Int32 × Int32 × AW) ⊕ (Int32 × AW)) := fun s => match s with
  | (x5_57_1, x6_57_1, w_57_1) => (
if x6_57_1 = 0 then (
some (.inr (x5_57_1, w_57_1)))
else (
bd (fX12_worksAll N c4_57_1 0 0 w_57_1) (fun w13 =>
gd (inb (w13.1 0 0) 8) (
bd (fX12_lateMany N c4_57_1 w13) (fun r16 =>
if r16 = 0 then (
if x5_57_1 < 0 then (
bd2 (fX12_nextOrder N c4_57_1 w13) (fun r20 w21 =>
some (.inl ((w13.1 14 (w13.1 0 0).toNatClampNeg), r20, w21))))
else (
if x5_57_1 ≤ (w13.1 14 (w13.1 0 0).toNatClampNeg) then (
bd2 (fX12_nextOrder N c4_57_1 w13) (fun r25 w26 =>
some (.inl (x5_57_1, r25, w26))))
else (
bd2 (fX12_nextOrder N c4_57_1 w13) (fun r29 w30 =>
some (.inl ((w13.1 14 (w13.1 0 0).toNatClampNeg), r29, w30))))))
else (
bd2 (fX12_nextOrder N c4_57_1 w13) (fun r33 w34 =>
some (.inl (x5_57_1, r33, w34)))))))))
def fX12_soonest (N : Nat) (a0 : Int32) (a1 : Int32) (a2 : Int32) (w : AW) : Option (Int32 × AW) :=
bd (fX12_isLike a0 a1 a2 w) (fun r2 =>
if r2 = 0 then (
some ((-1), w))
else (
if (w.1 0 0) = 6 then (
some ((-2), w))
else (
bd (fX12_lay (w.1 0 0) a0 a1 a2 60 0 w) (fun w6 =>
bd2 (fX12_firstOrder N ((w6.1 0 0) + 1) (-1) w6) (fun r8 w9 =>
bd (wh (lbX12_soonest_57_1 N r8) N ((-3), 1, w9)) (fun q => match q with | (y37, w38) => (
some (y37, w38))))))))
def fX12_sure (N : Nat) (a0 : Int32) (w : AW) : Option (Int32 × AW) :=
bd (fX12_isSide a0 w) (fun r2 =>
if r2 = 0 then (
some ((-1), w))
else (
bd (fX12_orderOfPlan N w) (fun w5 =>
bd2 (fX12_sureOf N w5) (fun r7 w8 =>
bd (fX12_lowest N r7 (1 <<< ((2 * (w8.1 0 0)) &&& 31)) w8) (fun w11 =>
if a0 = 0 then (
some ((w11.1 0 32), w11))
else (
some ((w11.1 0 33), w11)))))))
def bX12_taken_29 (p1_29 : Int32) (p2_29 : Int32) (w : AW) : Option (Int32) :=
bd (fX12_kindOn p1_29 w) (fun r11 =>
if 0 ≤ r11 then (
if r11 = 9 then (
gd (inb p1_29 4) (
if p2_29 = (10 + (w.1 23 p1_29.toNatClampNeg)) then (
some (w.1 24 p1_29.toNatClampNeg))
else (
some (-13))))
else (
if 10 ≤ p2_29 then (
some (-13))
else (
bd (fX12_isUnder r11 p2_29 w) (fun r18 =>
if r18 = 0 then (
some (-13))
else (
gd (inb p1_29 4) (
some (w.1 23 p1_29.toNatClampNeg)))))))
else (
some (-11)))
def fX12_taken (a0 : Int32) (a1 : Int32) (w : AW) : Option (Int32) :=
bd (fX12_isShelf a0 w) (fun r2 =>
if r2 = 0 then (
some (-1))
else (
bd (fX12_in a1 0 5 w) (fun r5 =>
if r5 = 0 then (
bd (fX12_in a1 10 13 w) (fun r8 =>
if r8 = 0 then (
some (-1))
else (
bX12_taken_29 a0 a1 w)))
else (
bX12_taken_29 a0 a1 w))))
def fX12_till (w : AW) : Option (Int32) :=
some (w.1 0 8)
def fX12_trace (a0 : Int32) (w : AW) : Option (Int32) :=
bd (fX12_in a0 0 ((w.1 0 48) - 1) w) (fun r2 =>
if r2 = 0 then (
some (-3))
else (
gd (inb a0 30) (
some (w.1 25 a0.toNatClampNeg))))
def fX12_type (N : Nat) (a0 : Int32) (a1 : Int32) (a2 : Int32) (a3 : Int32) (a4 : Int32) (a5 : Int32) (w : AW) : Option (Int32 × AW) :=
bd (fX12_isLike a0 a1 a2 w) (fun r2 =>
if r2 = 0 then (
some ((-1), w))
else (
bd (fX12_in a3 0 20 w) (fun r5 =>
if r5 = 0 then (
some ((-1), w))
else (
bd (fX12_in a4 0 99 w) (fun r8 =>
if r8 = 0 then (
some ((-1), w))
else (
bd (fX12_in a5 1 4 w) (fun r11 =>
if r11 = 0 then (
some ((-1), w))
else (
bd (fX12_oddsOfTypes N w) (fun r14 =>
if (r14 + a5) ≤ 4 then (
if (w.1 0 12) = 3 then (
some ((-2), w))
else (
gd (inb (6 * (w.1 0 12)) 18) (
lw (setI w 8 (6 * (w.1 0 12)).toNatClampNeg a0) (fun w18 =>
gd (inb ((6 * (w.1 0 12)) + 1) 18) (
lw (setI w18 8 ((6 * (w.1 0 12)) + 1).toNatClampNeg a1) (fun w20 =>
gd (inb ((6 * (w.1 0 12)) + 2) 18) (
lw (setI w20 8 ((6 * (w.1 0 12)) + 2).toNatClampNeg a2) (fun w22 =>
gd (inb ((6 * (w.1 0 12)) + 3) 18) (
lw (setI w22 8 ((6 * (w.1 0 12)) + 3).toNatClampNeg a3) (fun w24 =>
gd (inb ((6 * (w.1 0 12)) + 4) 18) (
lw (setI w24 8 ((6 * (w.1 0 12)) + 4).toNatClampNeg a4) (fun w26 =>
gd (inb ((6 * (w.1 0 12)) + 5) 18) (
lw (setI w26 8 ((6 * (w.1 0 12)) + 5).toNatClampNeg a5) (fun w28 =>
lw (setI w28 0 12 ((w28.1 0 12) + 1)) (fun w29 =>
some (((w29.1 0 12) - 1), w29))))))))))))))))
else (
some ((-4), w)))))))))))
def fX12_typeOf (a0 : Int32) (a1 : Int32) (w : AW) : Option (Int32) :=
bd (fX12_in a0 0 ((w.1 0 12) - 1) w) (fun r2 =>
if r2 = 0 then (
some (-1))
else (
bd (fX12_in a1 0 5 w) (fun r5 =>
if r5 = 0 then (
some (-1))
else (
bd (fX12_typeIts a0 a1 w) (fun r8 =>
some r8)))))
def fX12_worth (N : Nat) (w : AW) : Option (Int32 × AW) :=
bd (fX12_byPlan N w) (fun w2 =>
bd (fX12_worthAll N (w2.1 0 0) w2) (fun r4 =>
some (r4, w2)))
