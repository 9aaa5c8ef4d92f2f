/-! 78: the first worlds -/
def w0C : AW := (fun o => if o = 8 then (upd (upd (upd (upd (fun _ => 0) 0 2) 1 1) 2 5) 3 1) else if o = 19 then (upd (upd (upd (upd (fun _ => 0) 0 2) 1 1) 2 5) 3 1) else if o = 23 then (fun k => if k = 1 then 1 else 0) else if o = 30 then (fun k => if k = 1 then 1 else 0) else if o = 45 then (upd (upd (upd (upd (fun _ => 0) 0 (-1)) 1 (-1)) 2 (-1)) 3 (-1)) else if o = 49 then (fun k => if k = 5 then 1000000 else 0) else if o = 68 then (upd (upd (upd (upd (fun _ => 0) 0 (-1)) 1 (-1)) 2 (-1)) 3 (-1)) else (fun _ => 0), fun _ _ => 0)
def w0M : AW := (fun o => if o = 0 then (fun k => if k = 14 then 1 else 0) else if o = 2 then (upd (upd (upd (upd (fun _ => 0) 0 2) 1 1) 2 5) 3 1) else if o = 3 then (upd (upd (upd (upd (fun _ => 0) 0 1) 1 0) 2 0) 3 0) else if o = 4 then (upd (upd (upd (upd (fun _ => 0) 0 4) 1 3) 2 99) 3 4) else if o = 19 then (upd (upd (upd (upd (fun _ => 0) 0 (-1)) 1 (-1)) 2 (-1)) 3 (-1)) else if o = 22 then (upd (upd (upd (upd (fun _ => 0) 0 (-1)) 1 (-1)) 2 (-1)) 3 (-1)) else (fun _ => 0), fun _ _ => 0)
section
variable {D : va_G} {cc : C3} {q : Nat} {u : List Nat} {ex : (Nat → Nat) × Value}
theorem wz_C_0 : (wl PC (fun k => (q :: u).getD k 0, D, cc, ex) w0C)[0]? = (wz_RX11 D cc q u)[0]? := (wl_at sC_0).trans rfl
theorem wz_C_1 : (wl PC (fun k => (q :: u).getD k 0, D, cc, ex) w0C)[1]? = (wz_RX11 D cc q u)[1]? := (wl_at sC_1).trans rfl
theorem wz_C_2 : (wl PC (fun k => (q :: u).getD k 0, D, cc, ex) w0C)[2]? = (wz_RX11 D cc q u)[2]? := (wl_at sC_2).trans rfl
theorem wz_C_3 : (wl PC (fun k => (q :: u).getD k 0, D, cc, ex) w0C)[3]? = (wz_RX11 D cc q u)[3]? := (wl_at sC_3).trans rfl
theorem wz_C_4 : (wl PC (fun k => (q :: u).getD k 0, D, cc, ex) w0C)[4]? = (wz_RX11 D cc q u)[4]? := (wl_at sC_4).trans rfl
theorem wz_C_5 : (wl PC (fun k => (q :: u).getD k 0, D, cc, ex) w0C)[5]? = (wz_RX11 D cc q u)[5]? := (wl_at sC_5).trans rfl
theorem wz_C_6 : (wl PC (fun k => (q :: u).getD k 0, D, cc, ex) w0C)[6]? = (wz_RX11 D cc q u)[6]? := (wl_at sC_6).trans rfl
theorem wz_C_7 : (wl PC (fun k => (q :: u).getD k 0, D, cc, ex) w0C)[7]? = (wz_RX11 D cc q u)[7]? := (wl_at sC_7).trans rfl
theorem wz_C_8 : (wl PC (fun k => (q :: u).getD k 0, D, cc, ex) w0C)[8]? = (wz_RX11 D cc q u)[8]? := (wl_at sC_8).trans rfl
theorem wz_C_9 : (wl PC (fun k => (q :: u).getD k 0, D, cc, ex) w0C)[9]? = (wz_RX11 D cc q u)[9]? := (wl_at sC_9).trans rfl
theorem wz_C_10 : (wl PC (fun k => (q :: u).getD k 0, D, cc, ex) w0C)[10]? = (wz_RX11 D cc q u)[10]? := (wl_at sC_10).trans rfl
theorem wz_C_11 : (wl PC (fun k => (q :: u).getD k 0, D, cc, ex) w0C)[11]? = (wz_RX11 D cc q u)[11]? := (wl_at sC_11).trans rfl
theorem wz_C_12 : (wl PC (fun k => (q :: u).getD k 0, D, cc, ex) w0C)[12]? = (wz_RX11 D cc q u)[12]? := (wl_at sC_12).trans rfl
theorem wz_C_13 : (wl PC (fun k => (q :: u).getD k 0, D, cc, ex) w0C)[13]? = (wz_RX11 D cc q u)[13]? := (wl_at sC_13).trans rfl
theorem wz_C_14 : (wl PC (fun k => (q :: u).getD k 0, D, cc, ex) w0C)[14]? = (wz_RX11 D cc q u)[14]? := (wl_at sC_14).trans rfl
theorem wz_C_15 : (wl PC (fun k => (q :: u).getD k 0, D, cc, ex) w0C)[15]? = (wz_RX11 D cc q u)[15]? := (wl_at sC_15).trans rfl
theorem wz_C_16 : (wl PC (fun k => (q :: u).getD k 0, D, cc, ex) w0C)[16]? = (wz_RX11 D cc q u)[16]? := (wl_at sC_16).trans rfl
theorem wz_C_17 : (wl PC (fun k => (q :: u).getD k 0, D, cc, ex) w0C)[17]? = (wz_RX11 D cc q u)[17]? := (wl_at sC_17).trans rfl
theorem wz_C_18 : (wl PC (fun k => (q :: u).getD k 0, D, cc, ex) w0C)[18]? = (wz_RX11 D cc q u)[18]? := (wl_at sC_18).trans rfl
theorem wz_C_19 : (wl PC (fun k => (q :: u).getD k 0, D, cc, ex) w0C)[19]? = (wz_RX11 D cc q u)[19]? := (wl_at sC_19).trans rfl
theorem wz_C_20 : (wl PC (fun k => (q :: u).getD k 0, D, cc, ex) w0C)[20]? = (wz_RX11 D cc q u)[20]? := (wl_at sC_20).trans rfl
theorem wz_C_21 : (wl PC (fun k => (q :: u).getD k 0, D, cc, ex) w0C)[21]? = (wz_RX11 D cc q u)[21]? := (wl_at sC_21).trans rfl
theorem wz_C_22 : (wl PC (fun k => (q :: u).getD k 0, D, cc, ex) w0C)[22]? = (wz_RX11 D cc q u)[22]? := (wl_at sC_22).trans rfl
theorem wz_C_23 : (wl PC (fun k => (q :: u).getD k 0, D, cc, ex) w0C)[23]? = (wz_RX11 D cc q u)[23]? := (wl_at sC_23).trans rfl
theorem wz_C_24 : (wl PC (fun k => (q :: u).getD k 0, D, cc, ex) w0C)[24]? = (wz_RX11 D cc q u)[24]? := (wl_at sC_24).trans rfl
theorem wz_C_25 : (wl PC (fun k => (q :: u).getD k 0, D, cc, ex) w0C)[25]? = (wz_RX11 D cc q u)[25]? := (wl_at sC_25).trans rfl
theorem wz_C_26 : (wl PC (fun k => (q :: u).getD k 0, D, cc, ex) w0C)[26]? = (wz_RX11 D cc q u)[26]? := (wl_at sC_26).trans rfl
theorem wz_C_27 : (wl PC (fun k => (q :: u).getD k 0, D, cc, ex) w0C)[27]? = (wz_RX11 D cc q u)[27]? := (wl_at sC_27).trans rfl
theorem wz_C_28 : (wl PC (fun k => (q :: u).getD k 0, D, cc, ex) w0C)[28]? = (wz_RX11 D cc q u)[28]? := (wl_at sC_28).trans rfl
theorem wz_C_29 : (wl PC (fun k => (q :: u).getD k 0, D, cc, ex) w0C)[29]? = (wz_RX11 D cc q u)[29]? := (wl_at sC_29).trans rfl
theorem wz_C_30 : (wl PC (fun k => (q :: u).getD k 0, D, cc, ex) w0C)[30]? = (wz_RX11 D cc q u)[30]? := (wl_at sC_30).trans rfl
theorem wz_C_31 : (wl PC (fun k => (q :: u).getD k 0, D, cc, ex) w0C)[31]? = (wz_RX11 D cc q u)[31]? := (wl_at sC_31).trans rfl
theorem wz_C_32 : (wl PC (fun k => (q :: u).getD k 0, D, cc, ex) w0C)[32]? = (wz_RX11 D cc q u)[32]? := (wl_at sC_32).trans rfl
theorem wz_C_33 : (wl PC (fun k => (q :: u).getD k 0, D, cc, ex) w0C)[33]? = (wz_RX11 D cc q u)[33]? := (wl_at sC_33).trans rfl
theorem wz_C_34 : (wl PC (fun k => (q :: u).getD k 0, D, cc, ex) w0C)[34]? = (wz_RX11 D cc q u)[34]? := (wl_at sC_34).trans rfl
theorem wz_C_35 : (wl PC (fun k => (q :: u).getD k 0, D, cc, ex) w0C)[35]? = (wz_RX11 D cc q u)[35]? := (wl_at sC_35).trans rfl
theorem wz_C_36 : (wl PC (fun k => (q :: u).getD k 0, D, cc, ex) w0C)[36]? = (wz_RX11 D cc q u)[36]? := (wl_at sC_36).trans rfl
theorem wz_C_37 : (wl PC (fun k => (q :: u).getD k 0, D, cc, ex) w0C)[37]? = (wz_RX11 D cc q u)[37]? := (wl_at sC_37).trans rfl
theorem wz_C_38 : (wl PC (fun k => (q :: u).getD k 0, D, cc, ex) w0C)[38]? = (wz_RX11 D cc q u)[38]? := (wl_at sC_38).trans rfl
theorem wz_C_39 : (wl PC (fun k => (q :: u).getD k 0, D, cc, ex) w0C)[39]? = (wz_RX11 D cc q u)[39]? := (wl_at sC_39).trans rfl
theorem wz_C_40 : (wl PC (fun k => (q :: u).getD k 0, D, cc, ex) w0C)[40]? = (wz_RX11 D cc q u)[40]? := (wl_at sC_40).trans rfl
theorem wz_C_41 : (wl PC (fun k => (q :: u).getD k 0, D, cc, ex) w0C)[41]? = (wz_RX11 D cc q u)[41]? := (wl_at sC_41).trans rfl
theorem wz_C_42 : (wl PC (fun k => (q :: u).getD k 0, D, cc, ex) w0C)[42]? = (wz_RX11 D cc q u)[42]? := (wl_at sC_42).trans rfl
theorem wz_C_43 : (wl PC (fun k => (q :: u).getD k 0, D, cc, ex) w0C)[43]? = (wz_RX11 D cc q u)[43]? := (wl_at sC_43).trans rfl
theorem wz_C_44 : (wl PC (fun k => (q :: u).getD k 0, D, cc, ex) w0C)[44]? = (wz_RX11 D cc q u)[44]? := (wl_at sC_44).trans rfl
theorem wz_C_45 : (wl PC (fun k => (q :: u).getD k 0, D, cc, ex) w0C)[45]? = (wz_RX11 D cc q u)[45]? := (wl_at sC_45).trans rfl
theorem wz_C_46 : (wl PC (fun k => (q :: u).getD k 0, D, cc, ex) w0C)[46]? = (wz_RX11 D cc q u)[46]? := (wl_at sC_46).trans rfl
theorem wz_C_47 : (wl PC (fun k => (q :: u).getD k 0, D, cc, ex) w0C)[47]? = (wz_RX11 D cc q u)[47]? := (wl_at sC_47).trans rfl
theorem wz_C_48 : (wl PC (fun k => (q :: u).getD k 0, D, cc, ex) w0C)[48]? = (wz_RX11 D cc q u)[48]? := (wl_at sC_48).trans rfl
theorem wz_C_49 : (wl PC (fun k => (q :: u).getD k 0, D, cc, ex) w0C)[49]? = (wz_RX11 D cc q u)[49]? := (wl_at sC_49).trans rfl
theorem wz_C_50 : (wl PC (fun k => (q :: u).getD k 0, D, cc, ex) w0C)[50]? = (wz_RX11 D cc q u)[50]? := (wl_at sC_50).trans rfl
theorem wz_C_51 : (wl PC (fun k => (q :: u).getD k 0, D, cc, ex) w0C)[51]? = (wz_RX11 D cc q u)[51]? := (wl_at sC_51).trans rfl
theorem wz_C_52 : (wl PC (fun k => (q :: u).getD k 0, D, cc, ex) w0C)[52]? = (wz_RX11 D cc q u)[52]? := (wl_at sC_52).trans rfl
theorem wz_C_53 : (wl PC (fun k => (q :: u).getD k 0, D, cc, ex) w0C)[53]? = (wz_RX11 D cc q u)[53]? := (wl_at sC_53).trans rfl
theorem wz_C_54 : (wl PC (fun k => (q :: u).getD k 0, D, cc, ex) w0C)[54]? = (wz_RX11 D cc q u)[54]? := (wl_at sC_54).trans rfl
theorem wz_C_55 : (wl PC (fun k => (q :: u).getD k 0, D, cc, ex) w0C)[55]? = (wz_RX11 D cc q u)[55]? := (wl_at sC_55).trans rfl
theorem wz_C_56 : (wl PC (fun k => (q :: u).getD k 0, D, cc, ex) w0C)[56]? = (wz_RX11 D cc q u)[56]? := (wl_at sC_56).trans rfl
theorem wz_C_57 : (wl PC (fun k => (q :: u).getD k 0, D, cc, ex) w0C)[57]? = (wz_RX11 D cc q u)[57]? := (wl_at sC_57).trans rfl
theorem wz_C_58 : (wl PC (fun k => (q :: u).getD k 0, D, cc, ex) w0C)[58]? = (wz_RX11 D cc q u)[58]? := (wl_at sC_58).trans rfl
theorem wz_C_59 : (wl PC (fun k => (q :: u).getD k 0, D, cc, ex) w0C)[59]? = (wz_RX11 D cc q u)[59]? := (wl_at sC_59).trans rfl
theorem wz_C_60 : (wl PC (fun k => (q :: u).getD k 0, D, cc, ex) w0C)[60]? = (wz_RX11 D cc q u)[60]? := (wl_at sC_60).trans rfl
theorem wz_C_61 : (wl PC (fun k => (q :: u).getD k 0, D, cc, ex) w0C)[61]? = (wz_RX11 D cc q u)[61]? := (wl_at sC_61).trans rfl
theorem wz_C_62 : (wl PC (fun k => (q :: u).getD k 0, D, cc, ex) w0C)[62]? = (wz_RX11 D cc q u)[62]? := (wl_at sC_62).trans rfl
theorem wz_C_63 : (wl PC (fun k => (q :: u).getD k 0, D, cc, ex) w0C)[63]? = (wz_RX11 D cc q u)[63]? := (wl_at sC_63).trans rfl
theorem wz_C_64 : (wl PC (fun k => (q :: u).getD k 0, D, cc, ex) w0C)[64]? = (wz_RX11 D cc q u)[64]? := (wl_at sC_64).trans rfl
theorem wz_C_65 : (wl PC (fun k => (q :: u).getD k 0, D, cc, ex) w0C)[65]? = (wz_RX11 D cc q u)[65]? := (wl_at sC_65).trans rfl
theorem wz_C_66 : (wl PC (fun k => (q :: u).getD k 0, D, cc, ex) w0C)[66]? = (wz_RX11 D cc q u)[66]? := (wl_at sC_66).trans rfl
theorem wz_C_67 : (wl PC (fun k => (q :: u).getD k 0, D, cc, ex) w0C)[67]? = (wz_RX11 D cc q u)[67]? := (wl_at sC_67).trans rfl
theorem wz_C_68 : (wl PC (fun k => (q :: u).getD k 0, D, cc, ex) w0C)[68]? = (wz_RX11 D cc q u)[68]? := (wl_at sC_68).trans rfl
theorem wz_C_69 : (wl PC (fun k => (q :: u).getD k 0, D, cc, ex) w0C)[69]? = (wz_RX11 D cc q u)[69]? := (wl_at sC_69).trans rfl
theorem wz_C_70 : (wl PC (fun k => (q :: u).getD k 0, D, cc, ex) w0C)[70]? = (wz_RX11 D cc q u)[70]? := (wl_at sC_70).trans rfl
theorem wz_C_71 : (wl PC (fun k => (q :: u).getD k 0, D, cc, ex) w0C)[71]? = (wz_RX11 D cc q u)[71]? := (wl_at sC_71).trans rfl
theorem wz_C_72 : (wl PC (fun k => (q :: u).getD k 0, D, cc, ex) w0C)[72]? = (wz_RX11 D cc q u)[72]? := (wl_at sC_72).trans rfl
theorem wz_C_73 : (wl PC (fun k => (q :: u).getD k 0, D, cc, ex) w0C)[73]? = (wz_RX11 D cc q u)[73]? := (wl_at sC_73).trans rfl
theorem wz_C_74 : (wl PC (fun k => (q :: u).getD k 0, D, cc, ex) w0C)[74]? = (wz_RX11 D cc q u)[74]? := (wl_at sC_74).trans rfl
theorem wz_C_75 : (wl PC (fun k => (q :: u).getD k 0, D, cc, ex) w0C)[75]? = (wz_RX11 D cc q u)[75]? := (wl_at sC_75).trans rfl
end
theorem wz_C (D : va_G) (cc : C3) (q : Nat) (u : List Nat) (ex : (Nat → Nat) × Value) : wl PC (fun k => (q :: u).getD k 0, D, cc, ex) w0C = wz_RX11 D cc q u := by
  apply List.ext_getElem?
  intro i
  match i with
  | 0 => exact wz_C_0
  | 1 => exact wz_C_1
  | 2 => exact wz_C_2
  | 3 => exact wz_C_3
  | 4 => exact wz_C_4
  | 5 => exact wz_C_5
  | 6 => exact wz_C_6
  | 7 => exact wz_C_7
  | 8 => exact wz_C_8
  | 9 => exact wz_C_9
  | 10 => exact wz_C_10
  | 11 => exact wz_C_11
  | 12 => exact wz_C_12
  | 13 => exact wz_C_13
  | 14 => exact wz_C_14
  | 15 => exact wz_C_15
  | 16 => exact wz_C_16
  | 17 => exact wz_C_17
  | 18 => exact wz_C_18
  | 19 => exact wz_C_19
  | 20 => exact wz_C_20
  | 21 => exact wz_C_21
  | 22 => exact wz_C_22
  | 23 => exact wz_C_23
  | 24 => exact wz_C_24
  | 25 => exact wz_C_25
  | 26 => exact wz_C_26
  | 27 => exact wz_C_27
  | 28 => exact wz_C_28
  | 29 => exact wz_C_29
  | 30 => exact wz_C_30
  | 31 => exact wz_C_31
  | 32 => exact wz_C_32
  | 33 => exact wz_C_33
  | 34 => exact wz_C_34
  | 35 => exact wz_C_35
  | 36 => exact wz_C_36
  | 37 => exact wz_C_37
  | 38 => exact wz_C_38
  | 39 => exact wz_C_39
  | 40 => exact wz_C_40
  | 41 => exact wz_C_41
  | 42 => exact wz_C_42
  | 43 => exact wz_C_43
  | 44 => exact wz_C_44
  | 45 => exact wz_C_45
  | 46 => exact wz_C_46
  | 47 => exact wz_C_47
  | 48 => exact wz_C_48
  | 49 => exact wz_C_49
  | 50 => exact wz_C_50
  | 51 => exact wz_C_51
  | 52 => exact wz_C_52
  | 53 => exact wz_C_53
  | 54 => exact wz_C_54
  | 55 => exact wz_C_55
  | 56 => exact wz_C_56
  | 57 => exact wz_C_57
  | 58 => exact wz_C_58
  | 59 => exact wz_C_59
  | 60 => exact wz_C_60
  | 61 => exact wz_C_61
  | 62 => exact wz_C_62
  | 63 => exact wz_C_63
  | 64 => exact wz_C_64
  | 65 => exact wz_C_65
  | 66 => exact wz_C_66
  | 67 => exact wz_C_67
  | 68 => exact wz_C_68
  | 69 => exact wz_C_69
  | 70 => exact wz_C_70
  | 71 => exact wz_C_71
  | 72 => exact wz_C_72
  | 73 => exact wz_C_73
  | 74 => exact wz_C_74
  | 75 => exact wz_C_75
  | i + 76 =>
    rw [List.getElem?_eq_none (by simp [wl, PC]), List.getElem?_eq_none (by simp [wz_RX11])]
section
variable {D : va_G} {cc : C3} {q : Nat} {u : List Nat} {ex : (Nat → Nat) × Value}
set_option maxRecDepth 100000 in
set_option maxHeartbeats 8000000 in
theorem wz_M_0 : (wl PM (fun k => (q :: u).getD k 0, D, cc, ex) w0M)[0]? = (wz_RX12 D cc q u)[0]? := by
  rw [wl_at sM_0, ent_obj (by decide)]
  have h : flds (fun k => (q :: u).getD k 0) PM.2 w0M 0 12 = [.int 0, .ref (u.getD 0 0), .ref (u.getD 1 0), .ref (u.getD 2 0), .ref (u.getD 3 0), .int 0, .int 0, .int 0, .int 0, .ref (u.getD 4 0), .ref (u.getD 5 0), .ref (u.getD 6 0), .int 0, .ref (u.getD 7 0), .int 1, .ref (u.getD 8 0), .int 0, .int 0, .int 0, .int 0, .long 0, .int 0, .int 0, .ref (u.getD 9 0), .ref (u.getD 10 0), .int 0, .ref (u.getD 11 0), .ref (u.getD 12 0), .ref (u.getD 13 0), .int 0, .int 0, .ref (u.getD 14 0), .int 0, .int 0, .ref (u.getD 15 0), .ref (u.getD 16 0), .ref (u.getD 17 0), .int 0, .ref (u.getD 18 0), .ref (u.getD 19 0), .ref (u.getD 20 0), .ref (u.getD 21 0), .ref (u.getD 22 0), .ref (u.getD 23 0), .int 0, .int 0, .int 0, .ref (u.getD 24 0), .int 0, .int 0, .int 0, .ref (u.getD 25 0), .int 0, .ref (u.getD 26 0)] := by
    simp only [flds, kd, List.mapIdx_cons, List.mapIdx_nil]
    rfl
  exact congrArg (fun l => some (q, (.inr (12, l) : va_E))) h
theorem wz_M_1 : (wl PM (fun k => (q :: u).getD k 0, D, cc, ex) w0M)[1]? = (wz_RX12 D cc q u)[1]? := (wl_at sM_1).trans rfl
theorem wz_M_2 : (wl PM (fun k => (q :: u).getD k 0, D, cc, ex) w0M)[2]? = (wz_RX12 D cc q u)[2]? := (wl_at sM_2).trans rfl
theorem wz_M_3 : (wl PM (fun k => (q :: u).getD k 0, D, cc, ex) w0M)[3]? = (wz_RX12 D cc q u)[3]? := (wl_at sM_3).trans rfl
theorem wz_M_4 : (wl PM (fun k => (q :: u).getD k 0, D, cc, ex) w0M)[4]? = (wz_RX12 D cc q u)[4]? := (wl_at sM_4).trans rfl
theorem wz_M_5 : (wl PM (fun k => (q :: u).getD k 0, D, cc, ex) w0M)[5]? = (wz_RX12 D cc q u)[5]? := (wl_at sM_5).trans rfl
theorem wz_M_6 : (wl PM (fun k => (q :: u).getD k 0, D, cc, ex) w0M)[6]? = (wz_RX12 D cc q u)[6]? := (wl_at sM_6).trans rfl
theorem wz_M_7 : (wl PM (fun k => (q :: u).getD k 0, D, cc, ex) w0M)[7]? = (wz_RX12 D cc q u)[7]? := (wl_at sM_7).trans rfl
theorem wz_M_8 : (wl PM (fun k => (q :: u).getD k 0, D, cc, ex) w0M)[8]? = (wz_RX12 D cc q u)[8]? := (wl_at sM_8).trans rfl
theorem wz_M_9 : (wl PM (fun k => (q :: u).getD k 0, D, cc, ex) w0M)[9]? = (wz_RX12 D cc q u)[9]? := (wl_at sM_9).trans rfl
theorem wz_M_10 : (wl PM (fun k => (q :: u).getD k 0, D, cc, ex) w0M)[10]? = (wz_RX12 D cc q u)[10]? := (wl_at sM_10).trans rfl
theorem wz_M_11 : (wl PM (fun k => (q :: u).getD k 0, D, cc, ex) w0M)[11]? = (wz_RX12 D cc q u)[11]? := (wl_at sM_11).trans rfl
theorem wz_M_12 : (wl PM (fun k => (q :: u).getD k 0, D, cc, ex) w0M)[12]? = (wz_RX12 D cc q u)[12]? := (wl_at sM_12).trans rfl
theorem wz_M_13 : (wl PM (fun k => (q :: u).getD k 0, D, cc, ex) w0M)[13]? = (wz_RX12 D cc q u)[13]? := (wl_at sM_13).trans rfl
theorem wz_M_14 : (wl PM (fun k => (q :: u).getD k 0, D, cc, ex) w0M)[14]? = (wz_RX12 D cc q u)[14]? := (wl_at sM_14).trans rfl
theorem wz_M_15 : (wl PM (fun k => (q :: u).getD k 0, D, cc, ex) w0M)[15]? = (wz_RX12 D cc q u)[15]? := (wl_at sM_15).trans rfl
theorem wz_M_16 : (wl PM (fun k => (q :: u).getD k 0, D, cc, ex) w0M)[16]? = (wz_RX12 D cc q u)[16]? := (wl_at sM_16).trans rfl
theorem wz_M_17 : (wl PM (fun k => (q :: u).getD k 0, D, cc, ex) w0M)[17]? = (wz_RX12 D cc q u)[17]? := (wl_at sM_17).trans rfl
theorem wz_M_18 : (wl PM (fun k => (q :: u).getD k 0, D, cc, ex) w0M)[18]? = (wz_RX12 D cc q u)[18]? := (wl_at sM_18).trans rfl
theorem wz_M_19 : (wl PM (fun k => (q :: u).getD k 0, D, cc, ex) w0M)[19]? = (wz_RX12 D cc q u)[19]? := (wl_at sM_19).trans rfl
theorem wz_M_20 : (wl PM (fun k => (q :: u).getD k 0, D, cc, ex) w0M)[20]? = (wz_RX12 D cc q u)[20]? := (wl_at sM_20).trans rfl
theorem wz_M_21 : (wl PM (fun k => (q :: u).getD k 0, D, cc, ex) w0M)[21]? = (wz_RX12 D cc q u)[21]? := (wl_at sM_21).trans rfl
theorem wz_M_22 : (wl PM (fun k => (q :: u).getD k 0, D, cc, ex) w0M)[22]? = (wz_RX12 D cc q u)[22]? := (wl_at sM_22).trans rfl
theorem wz_M_23 : (wl PM (fun k => (q :: u).getD k 0, D, cc, ex) w0M)[23]? = (wz_RX12 D cc q u)[23]? := (wl_at sM_23).trans rfl
theorem wz_M_24 : (wl PM (fun k => (q :: u).getD k 0, D, cc, ex) w0M)[24]? = (wz_RX12 D cc q u)[24]? := (wl_at sM_24).trans rfl
theorem wz_M_25 : (wl PM (fun k => (q :: u).getD k 0, D, cc, ex) w0M)[25]? = (wz_RX12 D cc q u)[25]? := (wl_at sM_25).trans rfl
theorem wz_M_26 : (wl PM (fun k => (q :: u).getD k 0, D, cc, ex) w0M)[26]? = (wz_RX12 D cc q u)[26]? := (wl_at sM_26).trans rfl
theorem wz_M_27 : (wl PM (fun k => (q :: u).getD k 0, D, cc, ex) w0M)[27]? = (wz_RX12 D cc q u)[27]? := (wl_at sM_27).trans rfl
end
theorem wz_M (D : va_G) (cc : C3) (q : Nat) (u : List Nat) (ex : (Nat → Nat) × Value) : wl PM (fun k => (q :: u).getD k 0, D, cc, ex) w0M = wz_RX12 D cc q u := by
  apply List.ext_getElem?
  intro i
  match i with
  | 0 => exact wz_M_0
  | 1 => exact wz_M_1
  | 2 => exact wz_M_2
  | 3 => exact wz_M_3
  | 4 => exact wz_M_4
  | 5 => exact wz_M_5
  | 6 => exact wz_M_6
  | 7 => exact wz_M_7
  | 8 => exact wz_M_8
  | 9 => exact wz_M_9
  | 10 => exact wz_M_10
  | 11 => exact wz_M_11
  | 12 => exact wz_M_12
  | 13 => exact wz_M_13
  | 14 => exact wz_M_14
  | 15 => exact wz_M_15
  | 16 => exact wz_M_16
  | 17 => exact wz_M_17
  | 18 => exact wz_M_18
  | 19 => exact wz_M_19
  | 20 => exact wz_M_20
  | 21 => exact wz_M_21
  | 22 => exact wz_M_22
  | 23 => exact wz_M_23
  | 24 => exact wz_M_24
  | 25 => exact wz_M_25
  | 26 => exact wz_M_26
  | 27 => exact wz_M_27
  | i + 28 =>
    rw [List.getElem?_eq_none (by simp [wl, PM]), List.getElem?_eq_none (by simp [wz_RX12])]
