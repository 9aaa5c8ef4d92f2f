/-! 14: the law's body, as functions of worlds -/
/-- the first half's ends: it returns, or comes to the row of ends -/
def QL (k : Int32 → Int32 → AW → Option (Int32 × AW)) (rZ : Int32) (wZ : AW) : Nat → List (Option Value) → List Value → AW → Prop := fun pc ls st w =>
  Qret cL_law (some .boolean) (some (.int rZ)) wZ pc ls st w ∨ (pc = 872 ∧ st = [] ∧ ∃ x6 x24 : Int32, ls = [some (.retAddr 3), some (.ref 0), none, none, none, some (.ref 79), some (.int x6), none, none, none, none, none, none, none, none, none, none, none, none, none, none, none, none, none, some (.int x24), none, none, none, none, none, none, none, none] ∧ k x6 x24 w = some (rZ, wZ))
def lbL_law1_166_1 (N : Nat) (S : SC) (c6_166_1 : Int32) (c8_166_1 : Int32) (c9_166_1 : Int32) : (Int32 × Int32 × Int32 × AW) → Option ((Int32 × Int32 × Int32 × AW) ⊕ ((Int32 × AW) ⊕ (AW))) := fun s => match s with
  | (x10_166_1, x11_166_1, x12_166_1, w_166_1) => (
if c6_166_1 ≤ x12_166_1 then (
some (.inr (.inl (x10_166_1, w_166_1))))
else (
bd (fX11_row x12_166_1 0 w_166_1) (fun r58 =>
if r58 = ((c9_166_1 >>> ((3 * x12_166_1) &&& 31)) &&& 7) then (
bd (fX11_row x12_166_1 1 w_166_1) (fun r61 =>
bd2 (fX11_ends N ((c9_166_1 >>> ((3 * x12_166_1) &&& 31)) &&& 7) w_166_1) (fun r63 w64 =>
if r61 = r63 then (
bd (fX11_row x12_166_1 1 w64) (fun r68 =>
if x11_166_1 ≤ r68 then (
bd (fX11_row x12_166_1 1 w64) (fun r71 =>
bd (fX11_row x12_166_1 2 w64) (fun r73 =>
some (.inl ((x10_166_1 + r73), r71, (x12_166_1 + 1), w64)))))
else (
some (.inr (.inr w64)))))
else (
some (.inr (.inr w64))))))
else (
some (.inr (.inr w_166_1))))))
def lbL_law1_276_2 (N : Nat) (S : SC) (c6_276_2 : Int32) (c8_276_2 : Int32) : (Int32 × Int32 × Int32 × AW) → Option ((Int32 × Int32 × Int32 × AW) ⊕ (Int32 × Int32 × AW)) := fun s => match s with
  | (x12_276_2, x13_276_2, x14_276_2, w_276_2) => (
if c6_276_2 ≤ x14_276_2 then (
some (.inr (x12_276_2, x13_276_2, w_276_2)))
else (
bd2 (fX11_late N w_276_2) (fun r80 w81 =>
lw (x12_276_2 + ((r80 >>> (x14_276_2 &&& 31)) &&& 1)) (fun v83 =>
gd (inb ((5 * x14_276_2) + 4) 30) (
lw (x13_276_2 + (w81.1 76 ((5 * x14_276_2) + 4).toNatClampNeg)) (fun v85 =>
some (.inl (v83, v85, (x14_276_2 + 1), w81))))))))
def bL_law1_813 (N : Nat) (S : SC) (k : Int32 → Int32 → AW → Option (Int32 × AW)) (p6_813 : Int32) (p22_813 : Int32) (p23_813 : Int32) (q0_813 : Int32) (q1_813 : Int32) (w : AW) : Option (Int32 × AW) :=
if q1_813 = q0_813 then (
if p22_813 < 0 then (
bd2 (fX11_late N w) (fun r196 w197 =>
k p6_813 r196 w197))
else (
bd2 (fX11_drop N p22_813 w) (fun r200 w201 =>
if r200 = (p6_813 - 1) then (
bd2 (fX11_best N 0 w201) (fun r205 w206 =>
gd (inb ((5 * p22_813) + 4) 30) (
if (r205 + ((w206.1 76 ((5 * p22_813) + 4).toNatClampNeg) / 2)) = p23_813 then (
bd2 (fX11_again N w206) (fun r211 w212 =>
if r211 = p6_813 then (
bd2 (fX11_late N w212) (fun r216 w217 =>
k p6_813 r216 w217))
else (
some (0, w212))))
else (
some (0, w206)))))
else (
some (0, w201)))))
else (
some (0, w))
def bL_law1_801 (N : Nat) (S : SC) (k : Int32 → Int32 → AW → Option (Int32 × AW)) (p6_801 : Int32) (p8_801 : Int32) (p22_801 : Int32) (p23_801 : Int32) (q0_801 : Int32) (w : AW) : Option (Int32 × AW) :=
if p23_801 = p8_801 then (
bL_law1_813 N S k p6_801 p22_801 p23_801 1 q0_801 w)
else (
bL_law1_813 N S k p6_801 p22_801 p23_801 0 q0_801 w)
def bL_law1_711 (N : Nat) (S : SC) (k : Int32 → Int32 → AW → Option (Int32 × AW)) (p6_711 : Int32) (p8_711 : Int32) (p17_711 : Int32) (p18_711 : Int32) (p19_711 : Int32) (p21_711 : Int32) (w : AW) : Option (Int32 × AW) :=
bd2 (fX11_job 0 p18_711 ((p17_711 >>> (11 &&& 31)) &&& 1) 60 p19_711 w) (fun r163 w164 =>
if r163 = p6_711 then (
bd2 (fX11_best N 0 w164) (fun r168 w169 =>
if r168 = (p8_711 + p21_711) then (
bd2 (fX11_again N w169) (fun r173 w174 =>
if r173 = p6_711 then (
bd2 (fX11_best N 0 w174) (fun r178 w179 =>
if r178 = p8_711 then (
bd2 (fX11_across N 0 w179) (fun r183 w184 =>
bd2 (fX11_across N 1 w184) (fun r187 w188 =>
if r187 < p8_711 then (
some (0, w188))
else (
if r183 = (-9) then (
bL_law1_801 N S k p6_711 p8_711 r183 r187 1 w188)
else (
bL_law1_801 N S k p6_711 p8_711 r183 r187 0 w188)))))
else (
some (0, w179))))
else (
some (0, w174))))
else (
some (0, w169))))
else (
some (0, w164)))
def bL_law1_600 (N : Nat) (S : SC) (k : Int32 → Int32 → AW → Option (Int32 × AW)) (p6_600 : Int32) (p8_600 : Int32) (p13_600 : Int32) (p17_600 : Int32) (p18_600 : Int32) (p19_600 : Int32) (p20_600 : Int32) (p21_600 : Int32) (w : AW) : Option (Int32 × AW) :=
if p20_600 < 0 then (
bL_law1_711 N S k p6_600 p8_600 p17_600 p18_600 p19_600 p21_600 w)
else (
bd2 (fX11_job 0 p18_600 ((p17_600 >>> (11 &&& 31)) &&& 1) p20_600 p19_600 w) (fun r220 w221 =>
if r220 = p6_600 then (
bd2 (fX11_fewest N w221) (fun r225 w226 =>
if r225 = 0 then (
bd2 (fX11_best N 0 w226) (fun r230 w231 =>
if r230 = (p13_600 + p19_600) then (
bd2 (fX11_drop N p6_600 w231) (fun r235 w236 =>
if r235 = p6_600 then (
if p20_600 ≤ 0 then (
bL_law1_711 N S k p6_600 p8_600 p17_600 p18_600 p19_600 p21_600 w236)
else (
bd2 (fX11_job 0 p18_600 ((p17_600 >>> (11 &&& 31)) &&& 1) (p20_600 - 1) p19_600 w236) (fun r241 w242 =>
if r241 = p6_600 then (
bd2 (fX11_fewest N w242) (fun r246 w247 =>
if r246 = 0 then (
some (0, w247))
else (
bd2 (fX11_drop N p6_600 w247) (fun r251 w252 =>
if r251 = p6_600 then (
bL_law1_711 N S k p6_600 p8_600 p17_600 p18_600 p19_600 p21_600 w252)
else (
some (0, w252))))))
else (
some (0, w242)))))
else (
some (0, w236))))
else (
some (0, w231))))
else (
some (0, w226))))
else (
some (0, w221))))
def bL_law1_595 (N : Nat) (S : SC) (k : Int32 → Int32 → AW → Option (Int32 × AW)) (p6_595 : Int32) (p8_595 : Int32) (p13_595 : Int32) (p17_595 : Int32) (p18_595 : Int32) (p19_595 : Int32) (p20_595 : Int32) (p21_595 : Int32) (q0_595 : Int32) (q1_595 : Int32) (w : AW) : Option (Int32 × AW) :=
if q1_595 = q0_595 then (
bL_law1_600 N S k p6_595 p8_595 p13_595 p17_595 p18_595 p19_595 p20_595 p21_595 w)
else (
some (0, w))
def bL_law1_590 (N : Nat) (S : SC) (k : Int32 → Int32 → AW → Option (Int32 × AW)) (p6_590 : Int32) (p8_590 : Int32) (p13_590 : Int32) (p17_590 : Int32) (p18_590 : Int32) (p19_590 : Int32) (p20_590 : Int32) (p21_590 : Int32) (q0_590 : Int32) (w : AW) : Option (Int32 × AW) :=
bL_law1_595 N S k p6_590 p8_590 p13_590 p17_590 p18_590 p19_590 p20_590 p21_590 1 q0_590 w
def bL_law1_578 (N : Nat) (S : SC) (k : Int32 → Int32 → AW → Option (Int32 × AW)) (p6_578 : Int32) (p8_578 : Int32) (p13_578 : Int32) (p14_578 : Int32) (p17_578 : Int32) (p18_578 : Int32) (p19_578 : Int32) (p20_578 : Int32) (p21_578 : Int32) (q0_578 : Int32) (w : AW) : Option (Int32 × AW) :=
if 0 < p14_578 then (
bL_law1_590 N S k p6_578 p8_578 p13_578 p17_578 p18_578 p19_578 p20_578 p21_578 q0_578 w)
else (
if p20_578 = (-3) then (
bL_law1_590 N S k p6_578 p8_578 p13_578 p17_578 p18_578 p19_578 p20_578 p21_578 q0_578 w)
else (
bL_law1_595 N S k p6_578 p8_578 p13_578 p17_578 p18_578 p19_578 p20_578 p21_578 0 q0_578 w))
def bL_law1_470 (N : Nat) (S : SC) (k : Int32 → Int32 → AW → Option (Int32 × AW)) (p6_470 : Int32) (p8_470 : Int32) (p13_470 : Int32) (p14_470 : Int32) (w : AW) : Option (Int32 × AW) :=
bd2 (fX11_mean N 1 w) (fun r136 w137 =>
if 1 ≤ r136 then (
bd (fL_at S 9 w137) (fun r141 =>
bd (fL_mod r141 9 w137) (fun r143 =>
bd (fL_mod (r141 >>> (4 &&& 31)) 100 w137) (fun r145 =>
bd2 (fX11_soonest N 0 (1 + r143) ((r141 >>> (11 &&& 31)) &&& 1) w137) (fun r147 w148 =>
bd2 (fX11_gain N 0 (1 + r143) ((r141 >>> (11 &&& 31)) &&& 1) 60 r145 w148) (fun r151 w152 =>
bd2 (fX11_keep N w152) (fun r155 w156 =>
if r155 = 1 then (
if r145 < r151 then (
some (0, w156))
else (
if 5 ≤ p6_470 then (
bL_law1_600 N S k p6_470 p8_470 p13_470 r141 (1 + r143) r145 r147 r151 w156)
else (
if 0 ≤ r147 then (
bL_law1_578 N S k p6_470 p8_470 p13_470 p14_470 r141 (1 + r143) r145 r147 r151 0 w156)
else (
bL_law1_578 N S k p6_470 p8_470 p13_470 p14_470 r141 (1 + r143) r145 r147 r151 1 w156))))
else (
some (0, w156)))))))))
else (
some (0, w137)))
def bL_law1_452 (N : Nat) (S : SC) (k : Int32 → Int32 → AW → Option (Int32 × AW)) (p6_452 : Int32) (p8_452 : Int32) (p13_452 : Int32) (p14_452 : Int32) (w : AW) : Option (Int32 × AW) :=
if (w.1 77 (3 : Int32).toNatClampNeg) = 0 then (
bd2 (fX11_mean N 0 w) (fun r127 w128 =>
bd2 (fX11_worth N w128) (fun r131 w132 =>
if r127 = r131 then (
bL_law1_470 N S k p6_452 p8_452 p13_452 p14_452 w132)
else (
some (0, w132)))))
else (
bL_law1_470 N S k p6_452 p8_452 p13_452 p14_452 w)
def bL_law1_449 (N : Nat) (S : SC) (k : Int32 → Int32 → AW → Option (Int32 × AW)) (p6_449 : Int32) (p8_449 : Int32) (p13_449 : Int32) (p14_449 : Int32) (q0_449 : Int32) (q1_449 : Int32) (w : AW) : Option (Int32 × AW) :=
if q1_449 = q0_449 then (
bL_law1_452 N S k p6_449 p8_449 p13_449 p14_449 w)
else (
some (0, w))
def bL_law1_437 (N : Nat) (S : SC) (k : Int32 → Int32 → AW → Option (Int32 × AW)) (p6_437 : Int32) (p8_437 : Int32) (p13_437 : Int32) (p14_437 : Int32) (q0_437 : Int32) (w : AW) : Option (Int32 × AW) :=
bd2 (fX11_late N w) (fun r261 w262 =>
if r261 = 0 then (
bL_law1_449 N S k p6_437 p8_437 p13_437 p14_437 1 q0_437 w262)
else (
bL_law1_449 N S k p6_437 p8_437 p13_437 p14_437 0 q0_437 w262))
def bL_law1_370 (N : Nat) (S : SC) (k : Int32 → Int32 → AW → Option (Int32 × AW)) (p6_370 : Int32) (p8_370 : Int32) (p13_370 : Int32) (p14_370 : Int32) (q0_370 : Int32) (q1_370 : Int32) (w : AW) : Option (Int32 × AW) :=
if q1_370 = q0_370 then (
bd2 (fX11_sure N 0 w) (fun r106 w107 =>
bd2 (fX11_sure N 1 w107) (fun r110 w111 =>
if r106 < 0 then (
some (0, w111))
else (
if r110 < r106 then (
some (0, w111))
else (
bd2 (fX11_safest N 1 w111) (fun r116 w117 =>
bd2 (fX11_safest N 2 w117) (fun r120 w121 =>
if (r116 * r110) < (r106 * r120) then (
some (0, w121))
else (
if 4 ≤ (w121.1 77 (3 : Int32).toNatClampNeg) then (
bL_law1_452 N S k p6_370 p8_370 p13_370 p14_370 w121)
else (
if r106 ≤ 0 then (
bL_law1_437 N S k p6_370 p8_370 p13_370 p14_370 0 w121)
else (
bL_law1_437 N S k p6_370 p8_370 p13_370 p14_370 1 w121))))))))))
else (
some (0, w))
def bL_law1_360 (N : Nat) (S : SC) (k : Int32 → Int32 → AW → Option (Int32 × AW)) (p6_360 : Int32) (p8_360 : Int32) (p13_360 : Int32) (p14_360 : Int32) (q0_360 : Int32) (w : AW) : Option (Int32 × AW) :=
if p14_360 = 0 then (
bL_law1_370 N S k p6_360 p8_360 p13_360 p14_360 1 q0_360 w)
else (
bL_law1_370 N S k p6_360 p8_360 p13_360 p14_360 0 q0_360 w)
def bL_law1_348 (N : Nat) (S : SC) (k : Int32 → Int32 → AW → Option (Int32 × AW)) (p6_348 : Int32) (p8_348 : Int32) (p13_348 : Int32) (p14_348 : Int32) (w : AW) : Option (Int32 × AW) :=
bd2 (fX11_nights N w) (fun r99 w100 =>
if r99 = 0 then (
bL_law1_360 N S k p6_348 p8_348 p13_348 p14_348 1 w100)
else (
bL_law1_360 N S k p6_348 p8_348 p13_348 p14_348 0 w100))
def fL_law1 (N : Nat) (S : SC) (k : Int32 → Int32 → AW → Option (Int32 × AW)) (w : AW) : Option (Int32 × AW) :=
bd (fL_at S 8 w) (fun r2 =>
bd (fL_mod r2 5 w) (fun r4 =>
bd2 (fL_lay N S (1 + r4) w) (fun r6 w7 =>
if r6 = (1 + r4) then (
bd2 (fX11_worth N w7) (fun r11 w12 =>
bd2 (fX11_best N 0 w12) (fun r15 w16 =>
bd2 (fX11_best N 1 w16) (fun r19 w20 =>
if r15 < r11 then (
some (0, w20))
else (
bd (fL_isOrder N r19 (1 + r4) w20) (fun r24 =>
if r24 = 0 then (
some (0, w20))
else (
bd2 (fX11_plan N r19 w20) (fun r27 w28 =>
if r27 = 1 then (
bd2 (fX11_worth N w28) (fun r32 w33 =>
if r32 = r15 then (
bd2 (fX11_best N 0 w33) (fun r37 w38 =>
if r37 = r15 then (
bd2 (fX11_best N 1 w38) (fun r42 w43 =>
if r42 = r19 then (
bd2 (fX11_prove N w43) (fun r47 w48 =>
if r47 = (1 + r4) then (
bd2 (fX11_judge N w48) (fun r52 w53 =>
if r52 = 0 then (
bd (wh (lbL_law1_166_1 N S (1 + r4) r15 r19) N (0, 0, 0, w53)) (se (fun q => match q with | (y75, w76) => (
if y75 = r15 then (
bd (wh (lbL_law1_276_2 N S (1 + r4) r15) N (0, 0, 0, w76)) (fun q => match q with | (y87, y88, w89) => (
bd2 (fX11_fewest N w89) (fun r91 w92 =>
if y87 < r91 then (
some (0, w92))
else (
if y88 < r15 then (
some (0, w92))
else (
if r91 = 0 then (
if r15 = y88 then (
bL_law1_348 N S k (1 + r4) r15 y88 r91 w92)
else (
some (0, w92)))
else (
bL_law1_348 N S k (1 + r4) r15 y88 r91 w92)))))))
else (
some (0, w76)))) (fun w266 =>
some (0, w266))))
else (
some (0, w53))))
else (
some (0, w48))))
else (
some (0, w43))))
else (
some (0, w38))))
else (
some (0, w33))))
else (
some (0, w28))))))))))
else (
some (0, w7)))))
def lbL_law2_881_1 (N : Nat) (S : SC) (c6_881_1 : Int32) (c24_881_1 : Int32) : (Int32 × AW) → Option ((Int32 × AW) ⊕ (AW)) := fun s => match s with
  | (x26_881_1, w_881_1) => (
if c6_881_1 ≤ x26_881_1 then (
some (.inr w_881_1))
else (
bd2 (fX11_ends N x26_881_1 w_881_1) (fun r3 w4 =>
lw (kp w_881_1 w4) (fun w6 =>
gd (inb x26_881_1 6) (
lw (setI w6 80 x26_881_1.toNatClampNeg r3) (fun w8 =>
some (.inl ((x26_881_1 + 1), w8))))))))
def lbL_law2_928_2 (N : Nat) (S : SC) (c6_928_2 : Int32) (c24_928_2 : Int32) : (Int32 × AW) → Option ((Int32 × AW) ⊕ ((AW) ⊕ (AW))) := fun s => match s with
  | (x26_928_2, w_928_2) => (
if c6_928_2 ≤ x26_928_2 then (
some (.inr (.inl w_928_2)))
else (
bd2 (fX11_ends N x26_928_2 w_928_2) (fun r19 w20 =>
lw (kp w_928_2 w20) (fun w22 =>
gd (inb x26_928_2 6) (
if r19 ≤ (w22.1 80 x26_928_2.toNatClampNeg) then (
some (.inl ((x26_928_2 + 1), w22)))
else (
some (.inr (.inr w22))))))))
def lbL_law2_1007_3 (N : Nat) (S : SC) (c6_1007_3 : Int32) (c26_1007_3 : Int32) : (Int32 × Int32 × AW) → Option ((Int32 × Int32 × AW) ⊕ ((Int32 × AW) ⊕ (AW))) := fun s => match s with
  | (x27_1007_3, x28_1007_3, w_1007_3) => (
if c26_1007_3 ≤ x28_1007_3 then (
some (.inr (.inl (x27_1007_3, w_1007_3))))
else (
bd2 (fX11_worth N w_1007_3) (fun r45 w46 =>
lw (kp w_1007_3 w46) (fun w48 =>
bd (fX11_many 0 w48) (fun r50 =>
bd (fX11_till w48) (fun r52 =>
bd2 (fX11_goes N w48) (fun r54 w55 =>
lw (kp w48 w55) (fun w57 =>
if r54 < 0 then (
some (.inr (.inr w57)))
else (
bd (fX11_many 0 w57) (fun r60 =>
if r60 = (r50 - r54) then (
bd (fX11_till w57) (fun r63 =>
bd2 (fX11_worth N w57) (fun r65 w66 =>
lw (kp w57 w66) (fun w68 =>
if (r63 + r65) = (r52 + r45) then (
some (.inl ((x27_1007_3 + r54), (x28_1007_3 + 1), w68)))
else (
some (.inr (.inr w68)))))))
else (
some (.inr (.inr w57)))))))))))))
def fL_law2 (N : Nat) (S : SC) (x6 : Int32) (x24 : Int32) (w : AW) : Option (Int32 × AW) :=
bd (wh (lbL_law2_881_1 N S x6 x24) N (0, w)) (fun w10 =>
bd2 (fX11_night 0 ((w10.1 79 (0 : Int32).toNatClampNeg) + 1) w10) (fun r12 w13 =>
lw (kp w10 w13) (fun w15 =>
if r12 = (w15.1 79 (0 : Int32).toNatClampNeg) then (
bd (wh (lbL_law2_928_2 N S x6 x24) N (0, w15)) (se (fun w26 =>
bd2 (fX11_late N w26) (fun r28 w29 =>
lw (kp w26 w29) (fun w31 =>
if (r28 &&& (x24 ^^^ (-1))) = 0 then (
bd2 (fX11_night 0 (w31.1 79 (0 : Int32).toNatClampNeg) w31) (fun r34 w35 =>
lw (kp w31 w35) (fun w37 =>
if r34 = ((w37.1 79 (0 : Int32).toNatClampNeg) + 1) then (
bd (fL_at S 10 w37) (fun r40 =>
bd (fL_mod r40 5 w37) (fun r42 =>
bd (wh (lbL_law2_1007_3 N S x6 r42) N (0, 0, w37)) (se (fun q => match q with | (y71, w72) => (
bd (fX11_press 0 w72) (fun r74 =>
if r74 = r42 then (
bd (fX11_many 0 w72) (fun r77 =>
if r77 = (x6 - y71) then (
bd2 (fX11_again N w72) (fun r80 w81 =>
lw (kp w72 w81) (fun w83 =>
if r80 = x6 then (
bd (fX11_till w83) (fun r86 =>
if r86 = 0 then (
some (1, w83))
else (
some (0, w83))))
else (
some (0, w83)))))
else (
some (0, w72))))
else (
some (0, w72))))) (fun w88 =>
some (0, w88))))))
else (
some (0, w37)))))
else (
some (0, w31))))) (fun w89 =>
some (0, w89))))
else (
some (0, w15)))))
/-- the row of ends -/
def zr (w : AW) : AW := (fun o k => if o = 80 then 0 else w.1 o k, w.2)
theorem zr_lt {w : AW} : ∀ o, o < 80 → (zr w).1 o = w.1 o ∧ (zr w).2 o = w.2 o := fun o h => ⟨funext fun k => if_neg (by omega), rfl⟩
def N0 : Nat := 4000
