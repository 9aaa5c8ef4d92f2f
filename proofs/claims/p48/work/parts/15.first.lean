/-! 78: the first world -/
def w0C : AW := (fun o => if o = 8 then (upd (upd (upd (upd (fun _ => 0) 0 2) 1 1) 2 5) 3 1) else if o = 19 then (upd (upd (upd (upd (fun _ => 0) 0 2) 1 1) 2 5) 3 1) else if o = 23 then (fun k => if k = 1 then 1 else 0) else if o = 30 then (fun k => if k = 1 then 1 else 0) else if o = 45 then (upd (upd (upd (upd (fun _ => 0) 0 (-1)) 1 (-1)) 2 (-1)) 3 (-1)) else if o = 49 then (fun k => if k = 5 then 1000000 else 0) else if o = 68 then (upd (upd (upd (upd (fun _ => 0) 0 (-1)) 1 (-1)) 2 (-1)) 3 (-1)) else (fun _ => 0), fun _ _ => 0)
def adC (q : Nat) (u : List Nat) (v : List Nat) : Nat → Nat := fun k => if k < 76 then (q :: u).getD k 0 else v.getD (k - 76) 0
def wzL (D : va_G) (cc : C3) (q : Nat) (u v : List Nat) : va_W := wz_RX11 D cc q u ++ [(v.getD 0 0, .inl (cc.2.1, 30, .inl (fun _ => 0))), (v.getD 1 0, .inl (cc.2.1, 4, .inl (fun _ => 0))), (v.getD 2 0, .inl (cc.2.1, 10, .inl (fun _ => 0))), (v.getD 3 0, .inl (cc.2.1, 10, .inl (fun _ => 0)))]
section
variable {D : va_G} {cc : C3} {q : Nat} {u v : List Nat} {ex : (Nat → Nat) × Value} {S : SC}
theorem wz_C_0 : (wl (PC S) (adC q u v, D, cc, ex) w0C)[0]? = (wzL D cc q u v)[0]? := (wl_at sC_0).trans rfl
theorem wz_C_1 : (wl (PC S) (adC q u v, D, cc, ex) w0C)[1]? = (wzL D cc q u v)[1]? := (wl_at sC_1).trans rfl
theorem wz_C_2 : (wl (PC S) (adC q u v, D, cc, ex) w0C)[2]? = (wzL D cc q u v)[2]? := (wl_at sC_2).trans rfl
theorem wz_C_3 : (wl (PC S) (adC q u v, D, cc, ex) w0C)[3]? = (wzL D cc q u v)[3]? := (wl_at sC_3).trans rfl
theorem wz_C_4 : (wl (PC S) (adC q u v, D, cc, ex) w0C)[4]? = (wzL D cc q u v)[4]? := (wl_at sC_4).trans rfl
theorem wz_C_5 : (wl (PC S) (adC q u v, D, cc, ex) w0C)[5]? = (wzL D cc q u v)[5]? := (wl_at sC_5).trans rfl
theorem wz_C_6 : (wl (PC S) (adC q u v, D, cc, ex) w0C)[6]? = (wzL D cc q u v)[6]? := (wl_at sC_6).trans rfl
theorem wz_C_7 : (wl (PC S) (adC q u v, D, cc, ex) w0C)[7]? = (wzL D cc q u v)[7]? := (wl_at sC_7).trans rfl
theorem wz_C_8 : (wl (PC S) (adC q u v, D, cc, ex) w0C)[8]? = (wzL D cc q u v)[8]? := (wl_at sC_8).trans rfl
theorem wz_C_9 : (wl (PC S) (adC q u v, D, cc, ex) w0C)[9]? = (wzL D cc q u v)[9]? := (wl_at sC_9).trans rfl
theorem wz_C_10 : (wl (PC S) (adC q u v, D, cc, ex) w0C)[10]? = (wzL D cc q u v)[10]? := (wl_at sC_10).trans rfl
theorem wz_C_11 : (wl (PC S) (adC q u v, D, cc, ex) w0C)[11]? = (wzL D cc q u v)[11]? := (wl_at sC_11).trans rfl
theorem wz_C_12 : (wl (PC S) (adC q u v, D, cc, ex) w0C)[12]? = (wzL D cc q u v)[12]? := (wl_at sC_12).trans rfl
theorem wz_C_13 : (wl (PC S) (adC q u v, D, cc, ex) w0C)[13]? = (wzL D cc q u v)[13]? := (wl_at sC_13).trans rfl
theorem wz_C_14 : (wl (PC S) (adC q u v, D, cc, ex) w0C)[14]? = (wzL D cc q u v)[14]? := (wl_at sC_14).trans rfl
theorem wz_C_15 : (wl (PC S) (adC q u v, D, cc, ex) w0C)[15]? = (wzL D cc q u v)[15]? := (wl_at sC_15).trans rfl
theorem wz_C_16 : (wl (PC S) (adC q u v, D, cc, ex) w0C)[16]? = (wzL D cc q u v)[16]? := (wl_at sC_16).trans rfl
theorem wz_C_17 : (wl (PC S) (adC q u v, D, cc, ex) w0C)[17]? = (wzL D cc q u v)[17]? := (wl_at sC_17).trans rfl
theorem wz_C_18 : (wl (PC S) (adC q u v, D, cc, ex) w0C)[18]? = (wzL D cc q u v)[18]? := (wl_at sC_18).trans rfl
theorem wz_C_19 : (wl (PC S) (adC q u v, D, cc, ex) w0C)[19]? = (wzL D cc q u v)[19]? := (wl_at sC_19).trans rfl
theorem wz_C_20 : (wl (PC S) (adC q u v, D, cc, ex) w0C)[20]? = (wzL D cc q u v)[20]? := (wl_at sC_20).trans rfl
theorem wz_C_21 : (wl (PC S) (adC q u v, D, cc, ex) w0C)[21]? = (wzL D cc q u v)[21]? := (wl_at sC_21).trans rfl
theorem wz_C_22 : (wl (PC S) (adC q u v, D, cc, ex) w0C)[22]? = (wzL D cc q u v)[22]? := (wl_at sC_22).trans rfl
theorem wz_C_23 : (wl (PC S) (adC q u v, D, cc, ex) w0C)[23]? = (wzL D cc q u v)[23]? := (wl_at sC_23).trans rfl
theorem wz_C_24 : (wl (PC S) (adC q u v, D, cc, ex) w0C)[24]? = (wzL D cc q u v)[24]? := (wl_at sC_24).trans rfl
theorem wz_C_25 : (wl (PC S) (adC q u v, D, cc, ex) w0C)[25]? = (wzL D cc q u v)[25]? := (wl_at sC_25).trans rfl
theorem wz_C_26 : (wl (PC S) (adC q u v, D, cc, ex) w0C)[26]? = (wzL D cc q u v)[26]? := (wl_at sC_26).trans rfl
theorem wz_C_27 : (wl (PC S) (adC q u v, D, cc, ex) w0C)[27]? = (wzL D cc q u v)[27]? := (wl_at sC_27).trans rfl
theorem wz_C_28 : (wl (PC S) (adC q u v, D, cc, ex) w0C)[28]? = (wzL D cc q u v)[28]? := (wl_at sC_28).trans rfl
theorem wz_C_29 : (wl (PC S) (adC q u v, D, cc, ex) w0C)[29]? = (wzL D cc q u v)[29]? := (wl_at sC_29).trans rfl
theorem wz_C_30 : (wl (PC S) (adC q u v, D, cc, ex) w0C)[30]? = (wzL D cc q u v)[30]? := (wl_at sC_30).trans rfl
theorem wz_C_31 : (wl (PC S) (adC q u v, D, cc, ex) w0C)[31]? = (wzL D cc q u v)[31]? := (wl_at sC_31).trans rfl
theorem wz_C_32 : (wl (PC S) (adC q u v, D, cc, ex) w0C)[32]? = (wzL D cc q u v)[32]? := (wl_at sC_32).trans rfl
theorem wz_C_33 : (wl (PC S) (adC q u v, D, cc, ex) w0C)[33]? = (wzL D cc q u v)[33]? := (wl_at sC_33).trans rfl
theorem wz_C_34 : (wl (PC S) (adC q u v, D, cc, ex) w0C)[34]? = (wzL D cc q u v)[34]? := (wl_at sC_34).trans rfl
theorem wz_C_35 : (wl (PC S) (adC q u v, D, cc, ex) w0C)[35]? = (wzL D cc q u v)[35]? := (wl_at sC_35).trans rfl
theorem wz_C_36 : (wl (PC S) (adC q u v, D, cc, ex) w0C)[36]? = (wzL D cc q u v)[36]? := (wl_at sC_36).trans rfl
theorem wz_C_37 : (wl (PC S) (adC q u v, D, cc, ex) w0C)[37]? = (wzL D cc q u v)[37]? := (wl_at sC_37).trans rfl
theorem wz_C_38 : (wl (PC S) (adC q u v, D, cc, ex) w0C)[38]? = (wzL D cc q u v)[38]? := (wl_at sC_38).trans rfl
theorem wz_C_39 : (wl (PC S) (adC q u v, D, cc, ex) w0C)[39]? = (wzL D cc q u v)[39]? := (wl_at sC_39).trans rfl
theorem wz_C_40 : (wl (PC S) (adC q u v, D, cc, ex) w0C)[40]? = (wzL D cc q u v)[40]? := (wl_at sC_40).trans rfl
theorem wz_C_41 : (wl (PC S) (adC q u v, D, cc, ex) w0C)[41]? = (wzL D cc q u v)[41]? := (wl_at sC_41).trans rfl
theorem wz_C_42 : (wl (PC S) (adC q u v, D, cc, ex) w0C)[42]? = (wzL D cc q u v)[42]? := (wl_at sC_42).trans rfl
theorem wz_C_43 : (wl (PC S) (adC q u v, D, cc, ex) w0C)[43]? = (wzL D cc q u v)[43]? := (wl_at sC_43).trans rfl
theorem wz_C_44 : (wl (PC S) (adC q u v, D, cc, ex) w0C)[44]? = (wzL D cc q u v)[44]? := (wl_at sC_44).trans rfl
theorem wz_C_45 : (wl (PC S) (adC q u v, D, cc, ex) w0C)[45]? = (wzL D cc q u v)[45]? := (wl_at sC_45).trans rfl
theorem wz_C_46 : (wl (PC S) (adC q u v, D, cc, ex) w0C)[46]? = (wzL D cc q u v)[46]? := (wl_at sC_46).trans rfl
theorem wz_C_47 : (wl (PC S) (adC q u v, D, cc, ex) w0C)[47]? = (wzL D cc q u v)[47]? := (wl_at sC_47).trans rfl
theorem wz_C_48 : (wl (PC S) (adC q u v, D, cc, ex) w0C)[48]? = (wzL D cc q u v)[48]? := (wl_at sC_48).trans rfl
theorem wz_C_49 : (wl (PC S) (adC q u v, D, cc, ex) w0C)[49]? = (wzL D cc q u v)[49]? := (wl_at sC_49).trans rfl
theorem wz_C_50 : (wl (PC S) (adC q u v, D, cc, ex) w0C)[50]? = (wzL D cc q u v)[50]? := (wl_at sC_50).trans rfl
theorem wz_C_51 : (wl (PC S) (adC q u v, D, cc, ex) w0C)[51]? = (wzL D cc q u v)[51]? := (wl_at sC_51).trans rfl
theorem wz_C_52 : (wl (PC S) (adC q u v, D, cc, ex) w0C)[52]? = (wzL D cc q u v)[52]? := (wl_at sC_52).trans rfl
theorem wz_C_53 : (wl (PC S) (adC q u v, D, cc, ex) w0C)[53]? = (wzL D cc q u v)[53]? := (wl_at sC_53).trans rfl
theorem wz_C_54 : (wl (PC S) (adC q u v, D, cc, ex) w0C)[54]? = (wzL D cc q u v)[54]? := (wl_at sC_54).trans rfl
theorem wz_C_55 : (wl (PC S) (adC q u v, D, cc, ex) w0C)[55]? = (wzL D cc q u v)[55]? := (wl_at sC_55).trans rfl
theorem wz_C_56 : (wl (PC S) (adC q u v, D, cc, ex) w0C)[56]? = (wzL D cc q u v)[56]? := (wl_at sC_56).trans rfl
theorem wz_C_57 : (wl (PC S) (adC q u v, D, cc, ex) w0C)[57]? = (wzL D cc q u v)[57]? := (wl_at sC_57).trans rfl
theorem wz_C_58 : (wl (PC S) (adC q u v, D, cc, ex) w0C)[58]? = (wzL D cc q u v)[58]? := (wl_at sC_58).trans rfl
theorem wz_C_59 : (wl (PC S) (adC q u v, D, cc, ex) w0C)[59]? = (wzL D cc q u v)[59]? := (wl_at sC_59).trans rfl
theorem wz_C_60 : (wl (PC S) (adC q u v, D, cc, ex) w0C)[60]? = (wzL D cc q u v)[60]? := (wl_at sC_60).trans rfl
theorem wz_C_61 : (wl (PC S) (adC q u v, D, cc, ex) w0C)[61]? = (wzL D cc q u v)[61]? := (wl_at sC_61).trans rfl
theorem wz_C_62 : (wl (PC S) (adC q u v, D, cc, ex) w0C)[62]? = (wzL D cc q u v)[62]? := (wl_at sC_62).trans rfl
theorem wz_C_63 : (wl (PC S) (adC q u v, D, cc, ex) w0C)[63]? = (wzL D cc q u v)[63]? := (wl_at sC_63).trans rfl
theorem wz_C_64 : (wl (PC S) (adC q u v, D, cc, ex) w0C)[64]? = (wzL D cc q u v)[64]? := (wl_at sC_64).trans rfl
theorem wz_C_65 : (wl (PC S) (adC q u v, D, cc, ex) w0C)[65]? = (wzL D cc q u v)[65]? := (wl_at sC_65).trans rfl
theorem wz_C_66 : (wl (PC S) (adC q u v, D, cc, ex) w0C)[66]? = (wzL D cc q u v)[66]? := (wl_at sC_66).trans rfl
theorem wz_C_67 : (wl (PC S) (adC q u v, D, cc, ex) w0C)[67]? = (wzL D cc q u v)[67]? := (wl_at sC_67).trans rfl
theorem wz_C_68 : (wl (PC S) (adC q u v, D, cc, ex) w0C)[68]? = (wzL D cc q u v)[68]? := (wl_at sC_68).trans rfl
theorem wz_C_69 : (wl (PC S) (adC q u v, D, cc, ex) w0C)[69]? = (wzL D cc q u v)[69]? := (wl_at sC_69).trans rfl
theorem wz_C_70 : (wl (PC S) (adC q u v, D, cc, ex) w0C)[70]? = (wzL D cc q u v)[70]? := (wl_at sC_70).trans rfl
theorem wz_C_71 : (wl (PC S) (adC q u v, D, cc, ex) w0C)[71]? = (wzL D cc q u v)[71]? := (wl_at sC_71).trans rfl
theorem wz_C_72 : (wl (PC S) (adC q u v, D, cc, ex) w0C)[72]? = (wzL D cc q u v)[72]? := (wl_at sC_72).trans rfl
theorem wz_C_73 : (wl (PC S) (adC q u v, D, cc, ex) w0C)[73]? = (wzL D cc q u v)[73]? := (wl_at sC_73).trans rfl
theorem wz_C_74 : (wl (PC S) (adC q u v, D, cc, ex) w0C)[74]? = (wzL D cc q u v)[74]? := (wl_at sC_74).trans rfl
theorem wz_C_75 : (wl (PC S) (adC q u v, D, cc, ex) w0C)[75]? = (wzL D cc q u v)[75]? := (wl_at sC_75).trans rfl
theorem wz_C_76 : (wl (PC S) (adC q u v, D, cc, ex) w0C)[76]? = (wzL D cc q u v)[76]? := (wl_at sC_76).trans rfl
theorem wz_C_77 : (wl (PC S) (adC q u v, D, cc, ex) w0C)[77]? = (wzL D cc q u v)[77]? := (wl_at sC_77).trans rfl
theorem wz_C_78 : (wl (PC S) (adC q u v, D, cc, ex) w0C)[78]? = (wzL D cc q u v)[78]? := (wl_at sC_78).trans rfl
theorem wz_C_79 : (wl (PC S) (adC q u v, D, cc, ex) w0C)[79]? = (wzL D cc q u v)[79]? := (wl_at sC_79).trans rfl
end
theorem wz_C (D : va_G) (cc : C3) (q : Nat) (u v : List Nat) (ex : (Nat → Nat) × Value) (S : SC) : wl (PC S) (adC q u v, D, cc, ex) w0C = wzL D cc q u v := by
  apply List.ext_getElem?
  intro i
  match i with
  | 0 => exact wz_C_0
  | 1 => exact wz_C_1
  | 2 => exact wz_C_2
  | 3 => exact wz_C_3
  | 4 => exact wz_C_4
  | 5 => exact wz_C_5
  | 6 => exact wz_C_6
  | 7 => exact wz_C_7
  | 8 => exact wz_C_8
  | 9 => exact wz_C_9
  | 10 => exact wz_C_10
  | 11 => exact wz_C_11
  | 12 => exact wz_C_12
  | 13 => exact wz_C_13
  | 14 => exact wz_C_14
  | 15 => exact wz_C_15
  | 16 => exact wz_C_16
  | 17 => exact wz_C_17
  | 18 => exact wz_C_18
  | 19 => exact wz_C_19
  | 20 => exact wz_C_20
  | 21 => exact wz_C_21
  | 22 => exact wz_C_22
  | 23 => exact wz_C_23
  | 24 => exact wz_C_24
  | 25 => exact wz_C_25
  | 26 => exact wz_C_26
  | 27 => exact wz_C_27
  | 28 => exact wz_C_28
  | 29 => exact wz_C_29
  | 30 => exact wz_C_30
  | 31 => exact wz_C_31
  | 32 => exact wz_C_32
  | 33 => exact wz_C_33
  | 34 => exact wz_C_34
  | 35 => exact wz_C_35
  | 36 => exact wz_C_36
  | 37 => exact wz_C_37
  | 38 => exact wz_C_38
  | 39 => exact wz_C_39
  | 40 => exact wz_C_40
  | 41 => exact wz_C_41
  | 42 => exact wz_C_42
  | 43 => exact wz_C_43
  | 44 => exact wz_C_44
  | 45 => exact wz_C_45
  | 46 => exact wz_C_46
  | 47 => exact wz_C_47
  | 48 => exact wz_C_48
  | 49 => exact wz_C_49
  | 50 => exact wz_C_50
  | 51 => exact wz_C_51
  | 52 => exact wz_C_52
  | 53 => exact wz_C_53
  | 54 => exact wz_C_54
  | 55 => exact wz_C_55
  | 56 => exact wz_C_56
  | 57 => exact wz_C_57
  | 58 => exact wz_C_58
  | 59 => exact wz_C_59
  | 60 => exact wz_C_60
  | 61 => exact wz_C_61
  | 62 => exact wz_C_62
  | 63 => exact wz_C_63
  | 64 => exact wz_C_64
  | 65 => exact wz_C_65
  | 66 => exact wz_C_66
  | 67 => exact wz_C_67
  | 68 => exact wz_C_68
  | 69 => exact wz_C_69
  | 70 => exact wz_C_70
  | 71 => exact wz_C_71
  | 72 => exact wz_C_72
  | 73 => exact wz_C_73
  | 74 => exact wz_C_74
  | 75 => exact wz_C_75
  | 76 => exact wz_C_76
  | 77 => exact wz_C_77
  | 78 => exact wz_C_78
  | 79 => exact wz_C_79
  | i + 80 =>
    rw [List.getElem?_eq_none (by simp [wl, PC, shC]), List.getElem?_eq_none (by simp [wzL, wz_RX11])]
