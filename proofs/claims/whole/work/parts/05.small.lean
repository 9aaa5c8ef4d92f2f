/-! 05: small rows for the printed methods; facts of the tables -/
def lw {α β : Type} (a : α) (k : α → β) : β := k a
theorem lw_some {α β : Type} {a : α} {k : α → Option β} {z : β} (h : lw a k = some z) : ∃ y, y = a ∧ k y = some z := ⟨a, rfl, h⟩
def gd {β : Type} (b : Bool) (k : Option β) : Option β := match b with | true => k | false => none
theorem gd_some {β : Type} {b : Bool} {k : Option β} {z : β} (h : gd b k = some z) : b = true ∧ k = some z := by
  cases b with
  | true => exact ⟨rfl, h⟩
  | false => cases h
def bd {α β : Type} (a : Option α) (k : α → Option β) : Option β := match a with | some y => k y | none => none
theorem bd_some {α β : Type} {a : Option α} {k : α → Option β} {z : β} (h : bd a k = some z) : ∃ y, a = some y ∧ k y = some z := by
  cases a with
  | none => cases h
  | some y => exact ⟨y, rfl, h⟩
def bd2 {α γ β : Type} (a : Option (α × γ)) (k : α → γ → Option β) : Option β := match a with | some (y, u) => k y u | none => none
theorem bd2_some {α γ β : Type} {a : Option (α × γ)} {k : α → γ → Option β} {z : β} (h : bd2 a k = some z) : ∃ y u, a = some (y, u) ∧ k y u = some z := by
  cases a with
  | none => cases h
  | some y => obtain ⟨y, u⟩ := y; exact ⟨y, u, rfl, h⟩
theorem ret2 {α γ : Type} {a c : α} {b d : γ} (h : some (a, b) = some (c, d)) : a = c ∧ b = d := by
  injection h with h; injection h with h1 h2; exact ⟨h1, h2⟩
def se {α β : Type} {γ : Sort _} (f : α → γ) (g : β → γ) (e : α ⊕ β) : γ := match e with | .inl a => f a | .inr b => g b
/-- a loop: its body goes on or leaves -/
def wh {σ ε : Type} (body : σ → Option (σ ⊕ ε)) : Nat → σ → Option ε
  | 0, _ => none
  | n + 1, s => match body s with
    | none => none
    | some (.inl s') => wh body n s'
    | some (.inr e) => some e
theorem wh_E {σ ε : Type} {body : σ → Option (σ ⊕ ε)} {K : σ → Prop} {X : ε → Prop} (h : ∀ s z, body s = some z → se K X z → K s) {n : Nat} {s : σ} {e : ε} (hw : wh body n s = some e) (hx : X e) : K s := by
  induction n generalizing s with
  | zero => cases hw
  | succ n ih =>
    unfold wh at hw
    cases hb : body s with
    | none => rw [hb] at hw; cases hw
    | some z =>
      rw [hb] at hw
      cases z with
      | inl s' => exact h s _ hb (ih hw)
      | inr e' =>
        injection hw with hw
        subst hw
        exact h s _ hb hx
def inb (i : Int32) (n : Nat) : Bool := decide (¬ i < 0) && decide (i.toNatClampNeg < n)
theorem inb_in {i : Int32} {n : Nat} (h : inb i n = true) : vp_in i n := by
  simp only [inb, Bool.and_eq_true, decide_eq_true_eq] at h
  rintro (q | q)
  · exact h.1 q
  · omega
def isb (v : Int32) : Bool := v == 0 || v == 1
theorem isb_n {v : Int32} (h : isb v = true) : narrow .boolean (.int v) = .int v := by
  simp only [isb, Bool.or_eq_true, beq_iff_eq] at h
  rcases h with rfl | rfl <;> rfl
def isc (v : Int32) : Bool := (v.toUInt32 % 65536).toInt32 == v
theorem isc_n {v : Int32} (h : isc v = true) : narrow .char (.int v) = .int v := by
  have h1 : (v.toUInt32 % 65536).toInt32 = v := by simpa [isc] using h
  rw [← h1]
  exact pk_nc _
theorem isb_f {v : Int32} (h : isb v = true) : fits .boolean (.int v) = true := by
  simp only [isb, Bool.or_eq_true, beq_iff_eq] at h
  rcases h with rfl | rfl <;> rfl

def PC : PI := ([11, 1, 4, 106, 106, 106, 106, 106, 104, 161, 161, 106, 1, 4, 106, 106, 106, 106, 106, 104, 161, 161, 106, 10, 103, 103, 103, 103, 103, 103, 10, 103, 103, 103, 103, 103, 103, 8, 1200, 4, 106, 106, 106, 106, 106, 104, 3, 227, 106, 5, 106, 106, 2, 228, 228, 107, 106, 106, 0, 6, 118, 4, 106, 106, 106, 106, 106, 7, 104, 104, 260, 104, 104, 104, 9, 130], fun o k => (([[1, 12, 23, 30, 0, 37, 46, 49, 52, 58, 59, 61, 67, 74], [2, 8, 9, 10, 11], [0, 3, 4, 5, 6, 7], [], [], [], [], [], [], [], [], [], [13, 19, 20, 21, 22], [0, 14, 15, 16, 17, 18], [], [], [], [], [], [], [], [], [], [0, 0, 24, 25, 26, 27, 28, 29], [], [], [], [], [], [], [0, 0, 31, 32, 33, 34, 35, 36], [], [], [], [], [], [], [38, 0, 39, 45], [], [0, 40, 41, 42, 43, 44], [], [], [], [], [], [], [47, 48], [], [], [46, 50, 51], [], [], [46, 53, 54, 55, 56, 57], [], [], [], [], [], [49], [46, 60], [], [0, 62, 63, 64, 65, 66], [], [], [], [], [], [68, 69, 70, 71, 72, 73], [], [], [], [], [], [], [0, 0, 0, 0, 75], []] : List (List Nat)).getD o []).getD k 0)
theorem sC_0 : PC.1[0]? = some 11 := rfl
theorem sC_1 : PC.1[1]? = some 1 := rfl
theorem sC_2 : PC.1[2]? = some 4 := rfl
theorem sC_3 : PC.1[3]? = some 106 := rfl
theorem sC_4 : PC.1[4]? = some 106 := rfl
theorem sC_5 : PC.1[5]? = some 106 := rfl
theorem sC_6 : PC.1[6]? = some 106 := rfl
theorem sC_7 : PC.1[7]? = some 106 := rfl
theorem sC_8 : PC.1[8]? = some 104 := rfl
theorem sC_9 : PC.1[9]? = some 161 := rfl
theorem sC_10 : PC.1[10]? = some 161 := rfl
theorem sC_11 : PC.1[11]? = some 106 := rfl
theorem sC_12 : PC.1[12]? = some 1 := rfl
theorem sC_13 : PC.1[13]? = some 4 := rfl
theorem sC_14 : PC.1[14]? = some 106 := rfl
theorem sC_15 : PC.1[15]? = some 106 := rfl
theorem sC_16 : PC.1[16]? = some 106 := rfl
theorem sC_17 : PC.1[17]? = some 106 := rfl
theorem sC_18 : PC.1[18]? = some 106 := rfl
theorem sC_19 : PC.1[19]? = some 104 := rfl
theorem sC_20 : PC.1[20]? = some 161 := rfl
theorem sC_21 : PC.1[21]? = some 161 := rfl
theorem sC_22 : PC.1[22]? = some 106 := rfl
theorem sC_23 : PC.1[23]? = some 10 := rfl
theorem sC_24 : PC.1[24]? = some 103 := rfl
theorem sC_25 : PC.1[25]? = some 103 := rfl
theorem sC_26 : PC.1[26]? = some 103 := rfl
theorem sC_27 : PC.1[27]? = some 103 := rfl
theorem sC_28 : PC.1[28]? = some 103 := rfl
theorem sC_29 : PC.1[29]? = some 103 := rfl
theorem sC_30 : PC.1[30]? = some 10 := rfl
theorem sC_31 : PC.1[31]? = some 103 := rfl
theorem sC_32 : PC.1[32]? = some 103 := rfl
theorem sC_33 : PC.1[33]? = some 103 := rfl
theorem sC_34 : PC.1[34]? = some 103 := rfl
theorem sC_35 : PC.1[35]? = some 103 := rfl
theorem sC_36 : PC.1[36]? = some 103 := rfl
theorem sC_37 : PC.1[37]? = some 8 := rfl
theorem sC_38 : PC.1[38]? = some 1200 := rfl
theorem sC_39 : PC.1[39]? = some 4 := rfl
theorem sC_40 : PC.1[40]? = some 106 := rfl
theorem sC_41 : PC.1[41]? = some 106 := rfl
theorem sC_42 : PC.1[42]? = some 106 := rfl
theorem sC_43 : PC.1[43]? = some 106 := rfl
theorem sC_44 : PC.1[44]? = some 106 := rfl
theorem sC_45 : PC.1[45]? = some 104 := rfl
theorem sC_46 : PC.1[46]? = some 3 := rfl
theorem sC_47 : PC.1[47]? = some 227 := rfl
theorem sC_48 : PC.1[48]? = some 106 := rfl
theorem sC_49 : PC.1[49]? = some 5 := rfl
theorem sC_50 : PC.1[50]? = some 106 := rfl
theorem sC_51 : PC.1[51]? = some 106 := rfl
theorem sC_52 : PC.1[52]? = some 2 := rfl
theorem sC_53 : PC.1[53]? = some 228 := rfl
theorem sC_54 : PC.1[54]? = some 228 := rfl
theorem sC_55 : PC.1[55]? = some 107 := rfl
theorem sC_56 : PC.1[56]? = some 106 := rfl
theorem sC_57 : PC.1[57]? = some 106 := rfl
theorem sC_58 : PC.1[58]? = some 0 := rfl
theorem sC_59 : PC.1[59]? = some 6 := rfl
theorem sC_60 : PC.1[60]? = some 118 := rfl
theorem sC_61 : PC.1[61]? = some 4 := rfl
theorem sC_62 : PC.1[62]? = some 106 := rfl
theorem sC_63 : PC.1[63]? = some 106 := rfl
theorem sC_64 : PC.1[64]? = some 106 := rfl
theorem sC_65 : PC.1[65]? = some 106 := rfl
theorem sC_66 : PC.1[66]? = some 106 := rfl
theorem sC_67 : PC.1[67]? = some 7 := rfl
theorem sC_68 : PC.1[68]? = some 104 := rfl
theorem sC_69 : PC.1[69]? = some 104 := rfl
theorem sC_70 : PC.1[70]? = some 260 := rfl
theorem sC_71 : PC.1[71]? = some 104 := rfl
theorem sC_72 : PC.1[72]? = some 104 := rfl
theorem sC_73 : PC.1[73]? = some 104 := rfl
theorem sC_74 : PC.1[74]? = some 9 := rfl
theorem sC_75 : PC.1[75]? = some 130 := rfl
theorem rC_0_0 : PC.2 0 0 = 1 := rfl
theorem rC_0_1 : PC.2 0 1 = 12 := rfl
theorem rC_0_2 : PC.2 0 2 = 23 := rfl
theorem rC_0_3 : PC.2 0 3 = 30 := rfl
theorem rC_0_5 : PC.2 0 5 = 37 := rfl
theorem rC_0_6 : PC.2 0 6 = 46 := rfl
theorem rC_0_7 : PC.2 0 7 = 49 := rfl
theorem rC_0_8 : PC.2 0 8 = 52 := rfl
theorem rC_0_9 : PC.2 0 9 = 58 := rfl
theorem rC_0_10 : PC.2 0 10 = 59 := rfl
theorem rC_0_11 : PC.2 0 11 = 61 := rfl
theorem rC_0_12 : PC.2 0 12 = 67 := rfl
theorem rC_0_13 : PC.2 0 13 = 74 := rfl
theorem rC_1_0 : PC.2 1 0 = 2 := rfl
theorem rC_1_1 : PC.2 1 1 = 8 := rfl
theorem rC_1_2 : PC.2 1 2 = 9 := rfl
theorem rC_1_3 : PC.2 1 3 = 10 := rfl
theorem rC_1_4 : PC.2 1 4 = 11 := rfl
theorem rC_2_1 : PC.2 2 1 = 3 := rfl
theorem rC_2_2 : PC.2 2 2 = 4 := rfl
theorem rC_2_3 : PC.2 2 3 = 5 := rfl
theorem rC_2_4 : PC.2 2 4 = 6 := rfl
theorem rC_2_5 : PC.2 2 5 = 7 := rfl
theorem rC_12_0 : PC.2 12 0 = 13 := rfl
theorem rC_12_1 : PC.2 12 1 = 19 := rfl
theorem rC_12_2 : PC.2 12 2 = 20 := rfl
theorem rC_12_3 : PC.2 12 3 = 21 := rfl
theorem rC_12_4 : PC.2 12 4 = 22 := rfl
theorem rC_13_1 : PC.2 13 1 = 14 := rfl
theorem rC_13_2 : PC.2 13 2 = 15 := rfl
theorem rC_13_3 : PC.2 13 3 = 16 := rfl
theorem rC_13_4 : PC.2 13 4 = 17 := rfl
theorem rC_13_5 : PC.2 13 5 = 18 := rfl
theorem rC_23_2 : PC.2 23 2 = 24 := rfl
theorem rC_23_3 : PC.2 23 3 = 25 := rfl
theorem rC_23_4 : PC.2 23 4 = 26 := rfl
theorem rC_23_5 : PC.2 23 5 = 27 := rfl
theorem rC_23_6 : PC.2 23 6 = 28 := rfl
theorem rC_23_7 : PC.2 23 7 = 29 := rfl
theorem rC_30_2 : PC.2 30 2 = 31 := rfl
theorem rC_30_3 : PC.2 30 3 = 32 := rfl
theorem rC_30_4 : PC.2 30 4 = 33 := rfl
theorem rC_30_5 : PC.2 30 5 = 34 := rfl
theorem rC_30_6 : PC.2 30 6 = 35 := rfl
theorem rC_30_7 : PC.2 30 7 = 36 := rfl
theorem rC_37_0 : PC.2 37 0 = 38 := rfl
theorem rC_37_2 : PC.2 37 2 = 39 := rfl
theorem rC_37_3 : PC.2 37 3 = 45 := rfl
theorem rC_39_1 : PC.2 39 1 = 40 := rfl
theorem rC_39_2 : PC.2 39 2 = 41 := rfl
theorem rC_39_3 : PC.2 39 3 = 42 := rfl
theorem rC_39_4 : PC.2 39 4 = 43 := rfl
theorem rC_39_5 : PC.2 39 5 = 44 := rfl
theorem rC_46_0 : PC.2 46 0 = 47 := rfl
theorem rC_46_1 : PC.2 46 1 = 48 := rfl
theorem rC_49_0 : PC.2 49 0 = 46 := rfl
theorem rC_49_1 : PC.2 49 1 = 50 := rfl
theorem rC_49_2 : PC.2 49 2 = 51 := rfl
theorem rC_52_0 : PC.2 52 0 = 46 := rfl
theorem rC_52_1 : PC.2 52 1 = 53 := rfl
theorem rC_52_2 : PC.2 52 2 = 54 := rfl
theorem rC_52_3 : PC.2 52 3 = 55 := rfl
theorem rC_52_4 : PC.2 52 4 = 56 := rfl
theorem rC_52_5 : PC.2 52 5 = 57 := rfl
theorem rC_58_0 : PC.2 58 0 = 49 := rfl
theorem rC_59_0 : PC.2 59 0 = 46 := rfl
theorem rC_59_1 : PC.2 59 1 = 60 := rfl
theorem rC_61_1 : PC.2 61 1 = 62 := rfl
theorem rC_61_2 : PC.2 61 2 = 63 := rfl
theorem rC_61_3 : PC.2 61 3 = 64 := rfl
theorem rC_61_4 : PC.2 61 4 = 65 := rfl
theorem rC_61_5 : PC.2 61 5 = 66 := rfl
theorem rC_67_0 : PC.2 67 0 = 68 := rfl
theorem rC_67_1 : PC.2 67 1 = 69 := rfl
theorem rC_67_2 : PC.2 67 2 = 70 := rfl
theorem rC_67_3 : PC.2 67 3 = 71 := rfl
theorem rC_67_4 : PC.2 67 4 = 72 := rfl
theorem rC_67_5 : PC.2 67 5 = 73 := rfl
theorem rC_74_4 : PC.2 74 4 = 75 := rfl
def PM : PI := ([12, 150, 104, 104, 104, 161, 161, 108, 118, 300, 130, 104, 108, 108, 108, 108, 164, 164, 118, 104, 104, 2160, 104, 104, 104, 130, 360, 107], fun o k => (([[0, 1, 2, 3, 4, 0, 0, 0, 0, 5, 6, 7, 0, 8, 0, 9, 0, 0, 0, 0, 0, 0, 0, 10, 11, 0, 12, 13, 14, 0, 0, 15, 0, 0, 16, 17, 18, 0, 19, 20, 21, 22, 23, 24, 0, 0, 0, 25, 0, 0, 0, 26, 0, 27], [], [], [], [], [], [], [], [], [], [], [], [], [], [], [], [], [], [], [], [], [], [], [], [], [], [], []] : List (List Nat)).getD o []).getD k 0)
theorem sM_0 : PM.1[0]? = some 12 := rfl
theorem sM_1 : PM.1[1]? = some 150 := rfl
theorem sM_2 : PM.1[2]? = some 104 := rfl
theorem sM_3 : PM.1[3]? = some 104 := rfl
theorem sM_4 : PM.1[4]? = some 104 := rfl
theorem sM_5 : PM.1[5]? = some 161 := rfl
theorem sM_6 : PM.1[6]? = some 161 := rfl
theorem sM_7 : PM.1[7]? = some 108 := rfl
theorem sM_8 : PM.1[8]? = some 118 := rfl
theorem sM_9 : PM.1[9]? = some 300 := rfl
theorem sM_10 : PM.1[10]? = some 130 := rfl
theorem sM_11 : PM.1[11]? = some 104 := rfl
theorem sM_12 : PM.1[12]? = some 108 := rfl
theorem sM_13 : PM.1[13]? = some 108 := rfl
theorem sM_14 : PM.1[14]? = some 108 := rfl
theorem sM_15 : PM.1[15]? = some 108 := rfl
theorem sM_16 : PM.1[16]? = some 164 := rfl
theorem sM_17 : PM.1[17]? = some 164 := rfl
theorem sM_18 : PM.1[18]? = some 118 := rfl
theorem sM_19 : PM.1[19]? = some 104 := rfl
theorem sM_20 : PM.1[20]? = some 104 := rfl
theorem sM_21 : PM.1[21]? = some 2160 := rfl
theorem sM_22 : PM.1[22]? = some 104 := rfl
theorem sM_23 : PM.1[23]? = some 104 := rfl
theorem sM_24 : PM.1[24]? = some 104 := rfl
theorem sM_25 : PM.1[25]? = some 130 := rfl
theorem sM_26 : PM.1[26]? = some 360 := rfl
theorem sM_27 : PM.1[27]? = some 107 := rfl
theorem rM_0_1 : PM.2 0 1 = 1 := rfl
theorem rM_0_2 : PM.2 0 2 = 2 := rfl
theorem rM_0_3 : PM.2 0 3 = 3 := rfl
theorem rM_0_4 : PM.2 0 4 = 4 := rfl
theorem rM_0_9 : PM.2 0 9 = 5 := rfl
theorem rM_0_10 : PM.2 0 10 = 6 := rfl
theorem rM_0_11 : PM.2 0 11 = 7 := rfl
theorem rM_0_13 : PM.2 0 13 = 8 := rfl
theorem rM_0_15 : PM.2 0 15 = 9 := rfl
theorem rM_0_23 : PM.2 0 23 = 10 := rfl
theorem rM_0_24 : PM.2 0 24 = 11 := rfl
theorem rM_0_26 : PM.2 0 26 = 12 := rfl
theorem rM_0_27 : PM.2 0 27 = 13 := rfl
theorem rM_0_28 : PM.2 0 28 = 14 := rfl
theorem rM_0_31 : PM.2 0 31 = 15 := rfl
theorem rM_0_34 : PM.2 0 34 = 16 := rfl
theorem rM_0_35 : PM.2 0 35 = 17 := rfl
theorem rM_0_36 : PM.2 0 36 = 18 := rfl
theorem rM_0_38 : PM.2 0 38 = 19 := rfl
theorem rM_0_39 : PM.2 0 39 = 20 := rfl
theorem rM_0_40 : PM.2 0 40 = 21 := rfl
theorem rM_0_41 : PM.2 0 41 = 22 := rfl
theorem rM_0_42 : PM.2 0 42 = 23 := rfl
theorem rM_0_43 : PM.2 0 43 = 24 := rfl
theorem rM_0_47 : PM.2 0 47 = 25 := rfl
theorem rM_0_51 : PM.2 0 51 = 26 := rfl
theorem rM_0_53 : PM.2 0 53 = 27 := rfl
def isJb (o : Nat) : Bool := o == 2 || (o == 13 || (o == 39 || o == 61))
def isJ (o : Nat) : Prop := o = 2 ∨ o = 13 ∨ o = 39 ∨ o = 61
theorem isJb_of {o : Nat} (h : isJb o = true) : isJ o := by
  simpa [isJb, isJ] using h
def isB (b : Nat) : Prop := b = 1 ∨ b = 12
def isT (t : Nat) : Prop := t = 23 ∨ t = 30
theorem J_is2 : isJ 2 := Or.inl rfl
theorem J_is13 : isJ 13 := Or.inr (Or.inl rfl)
theorem J_is39 : isJ 39 := Or.inr (Or.inr (Or.inl rfl))
theorem J_is61 : isJ 61 := Or.inr (Or.inr (Or.inr rfl))
theorem B_is1 : isB 1 := Or.inl rfl
theorem B_is12 : isB 12 := Or.inr rfl
theorem T_is23 : isT 23 := Or.inl rfl
theorem T_is30 : isT 30 := Or.inr rfl
theorem J_nz {o : Nat} (h : isJ o) : ¬ o = 0 := by unfold isJ at h; omega
theorem J_lt {o : Nat} (h : isJ o) : o < 2 ^ 31 := by unfold isJ at h; omega
theorem B_j1 {b : Nat} (h : isB b) : isJ (b + 1) := by unfold isB at h; unfold isJ; omega
theorem J_s0 {o : Nat} (h : isJ o) : PC.1[o]? = some 4 := by
  rcases h with rfl | rfl | rfl | rfl <;> rfl
theorem J_s1 {o : Nat} (h : isJ o) : PC.1[o + 1]? = some 106 := by
  rcases h with rfl | rfl | rfl | rfl <;> rfl
theorem J_s2 {o : Nat} (h : isJ o) : PC.1[o + 2]? = some 106 := by
  rcases h with rfl | rfl | rfl | rfl <;> rfl
theorem J_s3 {o : Nat} (h : isJ o) : PC.1[o + 3]? = some 106 := by
  rcases h with rfl | rfl | rfl | rfl <;> rfl
theorem J_s4 {o : Nat} (h : isJ o) : PC.1[o + 4]? = some 106 := by
  rcases h with rfl | rfl | rfl | rfl <;> rfl
theorem J_s5 {o : Nat} (h : isJ o) : PC.1[o + 5]? = some 106 := by
  rcases h with rfl | rfl | rfl | rfl <;> rfl
theorem J_r0_1 {o : Nat} (h : isJ o) : PC.2 (o) 1 = o + 1 := by
  rcases h with rfl | rfl | rfl | rfl <;> rfl
theorem J_r0_2 {o : Nat} (h : isJ o) : PC.2 (o) 2 = o + 2 := by
  rcases h with rfl | rfl | rfl | rfl <;> rfl
theorem J_r0_3 {o : Nat} (h : isJ o) : PC.2 (o) 3 = o + 3 := by
  rcases h with rfl | rfl | rfl | rfl <;> rfl
theorem J_r0_4 {o : Nat} (h : isJ o) : PC.2 (o) 4 = o + 4 := by
  rcases h with rfl | rfl | rfl | rfl <;> rfl
theorem J_r0_5 {o : Nat} (h : isJ o) : PC.2 (o) 5 = o + 5 := by
  rcases h with rfl | rfl | rfl | rfl <;> rfl
theorem B_s0 {o : Nat} (h : isB o) : PC.1[o]? = some 1 := by
  rcases h with rfl | rfl <;> rfl
theorem B_s1 {o : Nat} (h : isB o) : PC.1[o + 1]? = some 4 := by
  rcases h with rfl | rfl <;> rfl
theorem B_s2 {o : Nat} (h : isB o) : PC.1[o + 2]? = some 106 := by
  rcases h with rfl | rfl <;> rfl
theorem B_s3 {o : Nat} (h : isB o) : PC.1[o + 3]? = some 106 := by
  rcases h with rfl | rfl <;> rfl
theorem B_s4 {o : Nat} (h : isB o) : PC.1[o + 4]? = some 106 := by
  rcases h with rfl | rfl <;> rfl
theorem B_s5 {o : Nat} (h : isB o) : PC.1[o + 5]? = some 106 := by
  rcases h with rfl | rfl <;> rfl
theorem B_s6 {o : Nat} (h : isB o) : PC.1[o + 6]? = some 106 := by
  rcases h with rfl | rfl <;> rfl
theorem B_s7 {o : Nat} (h : isB o) : PC.1[o + 7]? = some 104 := by
  rcases h with rfl | rfl <;> rfl
theorem B_s8 {o : Nat} (h : isB o) : PC.1[o + 8]? = some 161 := by
  rcases h with rfl | rfl <;> rfl
theorem B_s9 {o : Nat} (h : isB o) : PC.1[o + 9]? = some 161 := by
  rcases h with rfl | rfl <;> rfl
theorem B_s10 {o : Nat} (h : isB o) : PC.1[o + 10]? = some 106 := by
  rcases h with rfl | rfl <;> rfl
theorem B_r0_0 {o : Nat} (h : isB o) : PC.2 (o) 0 = o + 1 := by
  rcases h with rfl | rfl <;> rfl
theorem B_r0_1 {o : Nat} (h : isB o) : PC.2 (o) 1 = o + 7 := by
  rcases h with rfl | rfl <;> rfl
theorem B_r0_2 {o : Nat} (h : isB o) : PC.2 (o) 2 = o + 8 := by
  rcases h with rfl | rfl <;> rfl
theorem B_r0_3 {o : Nat} (h : isB o) : PC.2 (o) 3 = o + 9 := by
  rcases h with rfl | rfl <;> rfl
theorem B_r0_4 {o : Nat} (h : isB o) : PC.2 (o) 4 = o + 10 := by
  rcases h with rfl | rfl <;> rfl
theorem B_r1_1 {o : Nat} (h : isB o) : PC.2 (o + 1) 1 = o + 2 := by
  rcases h with rfl | rfl <;> rfl
theorem B_r1_2 {o : Nat} (h : isB o) : PC.2 (o + 1) 2 = o + 3 := by
  rcases h with rfl | rfl <;> rfl
theorem B_r1_3 {o : Nat} (h : isB o) : PC.2 (o + 1) 3 = o + 4 := by
  rcases h with rfl | rfl <;> rfl
theorem B_r1_4 {o : Nat} (h : isB o) : PC.2 (o + 1) 4 = o + 5 := by
  rcases h with rfl | rfl <;> rfl
theorem B_r1_5 {o : Nat} (h : isB o) : PC.2 (o + 1) 5 = o + 6 := by
  rcases h with rfl | rfl <;> rfl
theorem T_s0 {o : Nat} (h : isT o) : PC.1[o]? = some 10 := by
  rcases h with rfl | rfl <;> rfl
theorem T_s1 {o : Nat} (h : isT o) : PC.1[o + 1]? = some 103 := by
  rcases h with rfl | rfl <;> rfl
theorem T_s2 {o : Nat} (h : isT o) : PC.1[o + 2]? = some 103 := by
  rcases h with rfl | rfl <;> rfl
theorem T_s3 {o : Nat} (h : isT o) : PC.1[o + 3]? = some 103 := by
  rcases h with rfl | rfl <;> rfl
theorem T_s4 {o : Nat} (h : isT o) : PC.1[o + 4]? = some 103 := by
  rcases h with rfl | rfl <;> rfl
theorem T_s5 {o : Nat} (h : isT o) : PC.1[o + 5]? = some 103 := by
  rcases h with rfl | rfl <;> rfl
theorem T_s6 {o : Nat} (h : isT o) : PC.1[o + 6]? = some 103 := by
  rcases h with rfl | rfl <;> rfl
theorem T_r0_2 {o : Nat} (h : isT o) : PC.2 (o) 2 = o + 1 := by
  rcases h with rfl | rfl <;> rfl
theorem T_r0_3 {o : Nat} (h : isT o) : PC.2 (o) 3 = o + 2 := by
  rcases h with rfl | rfl <;> rfl
theorem T_r0_4 {o : Nat} (h : isT o) : PC.2 (o) 4 = o + 3 := by
  rcases h with rfl | rfl <;> rfl
theorem T_r0_5 {o : Nat} (h : isT o) : PC.2 (o) 5 = o + 4 := by
  rcases h with rfl | rfl <;> rfl
theorem T_r0_6 {o : Nat} (h : isT o) : PC.2 (o) 6 = o + 5 := by
  rcases h with rfl | rfl <;> rfl
theorem T_r0_7 {o : Nat} (h : isT o) : PC.2 (o) 7 = o + 6 := by
  rcases h with rfl | rfl <;> rfl
section EV2
variable {P : PI} {own : String} {cc : ByteArray} {nL d pc : Nat} {ls : List (Option Value)} {w : AW} {Q : Nat → List (Option Value) → List Value → AW → Prop}
theorem E_callVi {ix o ci n mL d' : Nat} {cn : String} {T : u_T} {N : Nat} {y : MethodName} {b : ByteArray} {ret : Option FieldType} {As rest st : List Value} {w1 : AW} {r : Int32} (hc : CVt own ix cn y b mL ret n) (hd : decode cc pc = .ok (.invokevirtual ix, 3)) (hm : CallOK P y b mL ret d' (.ref o :: As) w (some (.int r)) w1) (hdd : Nat.ble (d' + 1) d = true) (ho : P.1[o]? = some ci) (hci : vwCl[ci]? = some (cn, T, N)) (hci2 : ci < 100) (hst : st = As.reverse ++ .ref o :: rest) (hn : As.length = n) (hcat : ∀ V : EV, ((rest.map (cv V)).map fun v => v.category).sum ≤ 8)
    (k : E P own cc nL d (pc + 3) ls (.int r :: rest) w1 Q) : E P own cc nL d pc ls st w Q := E_callV hc hd hm hdd ho hci hci2 hst hn hcat k
theorem E_callXi {ix i n mL d' : Nat} {y : MethodName} {b : ByteArray} {ret : Option FieldType} {As rest st : List Value} {w1 : AW} {r : Int32} (hc : CVt own ix "java/lang/String" y b mL ret n) (hd : decode cc pc = .ok (.invokevirtual ix, 3)) (hm : CallOK P y b mL ret d' (.retAddr (9 + i + 1) :: As) w (some (.int r)) w1) (hdd : Nat.ble (d' + 1) d = true) (hi : i < 12) (hst : st = As.reverse ++ .retAddr (9 + i + 1) :: rest) (hn : As.length = n) (hcat : ∀ V : EV, ((rest.map (cv V)).map fun v => v.category).sum ≤ 8)
    (k : E P own cc nL d (pc + 3) ls (.int r :: rest) w1 Q) : E P own cc nL d pc ls st w Q := E_callX hc hd hm hdd hi hst hn hcat k
theorem E_callSi {ix n mL d' : Nat} {y : MethodName} {b : ByteArray} {ret : Option FieldType} {As rest st : List Value} {w1 : AW} {r : Int32} (hc : CSt own ix y b mL ret n) (hd : decode cc pc = .ok (.invokestatic ix, 3)) (hm : CallOK P y b mL ret d' As w (some (.int r)) w1) (hdd : Nat.ble (d' + 1) d = true) (hst : st = As.reverse ++ rest) (hn : As.length = n) (hcat : ∀ V : EV, ((rest.map (cv V)).map fun v => v.category).sum ≤ 8)
    (k : E P own cc nL d (pc + 3) ls (.int r :: rest) w1 Q) : E P own cc nL d pc ls st w Q := E_callS hc hd hm hdd hst hn hcat k
theorem E_callNi {ix n mL d' : Nat} {ho : String} {y : MethodName} {b : ByteArray} {ret : Option FieldType} {As rest st : List Value} {w1 : AW} {r : Int32} (hc : CNt own ix y ho b mL ret n) (hd : decode cc pc = .ok (.invokestatic ix, 3)) (hm : CallOK P y b mL ret d' As w (some (.int r)) w1) (hdd : Nat.ble (d' + 1) d = true) (hst : st = As.reverse ++ rest) (hn : As.length = n) (hcat : ∀ V : EV, ((rest.map (cv V)).map fun v => v.category).sum ≤ 8)
    (k : E P own cc nL d (pc + 3) ls (.int r :: rest) w1 Q) : E P own cc nL d pc ls st w Q := E_callN hc hd hm hdd hst hn hcat k
theorem E_callVv {ix o ci n mL d' : Nat} {cn : String} {T : u_T} {N : Nat} {y : MethodName} {b : ByteArray} {ret : Option FieldType} {As rest st : List Value} {w1 : AW} (hc : CVt own ix cn y b mL ret n) (hd : decode cc pc = .ok (.invokevirtual ix, 3)) (hm : CallOK P y b mL ret d' (.ref o :: As) w none w1) (hdd : Nat.ble (d' + 1) d = true) (ho : P.1[o]? = some ci) (hci : vwCl[ci]? = some (cn, T, N)) (hci2 : ci < 100) (hst : st = As.reverse ++ .ref o :: rest) (hn : As.length = n) (hcat : ∀ V : EV, ((rest.map (cv V)).map fun v => v.category).sum ≤ 8)
    (k : E P own cc nL d (pc + 3) ls (rest) w1 Q) : E P own cc nL d pc ls st w Q := E_callV hc hd hm hdd ho hci hci2 hst hn hcat k
theorem E_callXv {ix i n mL d' : Nat} {y : MethodName} {b : ByteArray} {ret : Option FieldType} {As rest st : List Value} {w1 : AW} (hc : CVt own ix "java/lang/String" y b mL ret n) (hd : decode cc pc = .ok (.invokevirtual ix, 3)) (hm : CallOK P y b mL ret d' (.retAddr (9 + i + 1) :: As) w none w1) (hdd : Nat.ble (d' + 1) d = true) (hi : i < 12) (hst : st = As.reverse ++ .retAddr (9 + i + 1) :: rest) (hn : As.length = n) (hcat : ∀ V : EV, ((rest.map (cv V)).map fun v => v.category).sum ≤ 8)
    (k : E P own cc nL d (pc + 3) ls (rest) w1 Q) : E P own cc nL d pc ls st w Q := E_callX hc hd hm hdd hi hst hn hcat k
theorem E_callSv {ix n mL d' : Nat} {y : MethodName} {b : ByteArray} {ret : Option FieldType} {As rest st : List Value} {w1 : AW} (hc : CSt own ix y b mL ret n) (hd : decode cc pc = .ok (.invokestatic ix, 3)) (hm : CallOK P y b mL ret d' As w none w1) (hdd : Nat.ble (d' + 1) d = true) (hst : st = As.reverse ++ rest) (hn : As.length = n) (hcat : ∀ V : EV, ((rest.map (cv V)).map fun v => v.category).sum ≤ 8)
    (k : E P own cc nL d (pc + 3) ls (rest) w1 Q) : E P own cc nL d pc ls st w Q := E_callS hc hd hm hdd hst hn hcat k
theorem E_callNv {ix n mL d' : Nat} {ho : String} {y : MethodName} {b : ByteArray} {ret : Option FieldType} {As rest st : List Value} {w1 : AW} (hc : CNt own ix y ho b mL ret n) (hd : decode cc pc = .ok (.invokestatic ix, 3)) (hm : CallOK P y b mL ret d' As w none w1) (hdd : Nat.ble (d' + 1) d = true) (hst : st = As.reverse ++ rest) (hn : As.length = n) (hcat : ∀ V : EV, ((rest.map (cv V)).map fun v => v.category).sum ≤ 8)
    (k : E P own cc nL d (pc + 3) ls (rest) w1 Q) : E P own cc nL d pc ls st w Q := E_callN hc hd hm hdd hst hn hcat k
end EV2
theorem ic_m1 : Int32.ofInt (-1) = (-1) := by decide
theorem ic_0 : Int32.ofInt 0 = 0 := by decide
theorem ic_1 : Int32.ofInt 1 = 1 := by decide
theorem ic_2 : Int32.ofInt 2 = 2 := by decide
theorem ic_3 : Int32.ofInt 3 = 3 := by decide
theorem ic_4 : Int32.ofInt 4 = 4 := by decide
theorem ic_5 : Int32.ofInt 5 = 5 := by decide
theorem bp_m100 : (Int8.ofInt (-100)).toInt32 = (-100) := by decide
theorem bp_m15 : (Int8.ofInt (-15)).toInt32 = (-15) := by decide
theorem bp_m14 : (Int8.ofInt (-14)).toInt32 = (-14) := by decide
theorem bp_m13 : (Int8.ofInt (-13)).toInt32 = (-13) := by decide
theorem bp_m12 : (Int8.ofInt (-12)).toInt32 = (-12) := by decide
theorem bp_m11 : (Int8.ofInt (-11)).toInt32 = (-11) := by decide
theorem bp_m9 : (Int8.ofInt (-9)).toInt32 = (-9) := by decide
theorem bp_m4 : (Int8.ofInt (-4)).toInt32 = (-4) := by decide
theorem bp_m3 : (Int8.ofInt (-3)).toInt32 = (-3) := by decide
theorem bp_m2 : (Int8.ofInt (-2)).toInt32 = (-2) := by decide
theorem bp_6 : (Int8.ofInt 6).toInt32 = 6 := by decide
theorem bp_7 : (Int8.ofInt 7).toInt32 = 7 := by decide
theorem bp_8 : (Int8.ofInt 8).toInt32 = 8 := by decide
theorem bp_9 : (Int8.ofInt 9).toInt32 = 9 := by decide
theorem bp_10 : (Int8.ofInt 10).toInt32 = 10 := by decide
theorem bp_11 : (Int8.ofInt 11).toInt32 = 11 := by decide
theorem bp_12 : (Int8.ofInt 12).toInt32 = 12 := by decide
theorem bp_13 : (Int8.ofInt 13).toInt32 = 13 := by decide
theorem bp_16 : (Int8.ofInt 16).toInt32 = 16 := by decide
theorem bp_18 : (Int8.ofInt 18).toInt32 = 18 := by decide
theorem bp_20 : (Int8.ofInt 20).toInt32 = 20 := by decide
theorem bp_30 : (Int8.ofInt 30).toInt32 = 30 := by decide
theorem bp_31 : (Int8.ofInt 31).toInt32 = 31 := by decide
theorem bp_32 : (Int8.ofInt 32).toInt32 = 32 := by decide
theorem bp_40 : (Int8.ofInt 40).toInt32 = 40 := by decide
theorem bp_41 : (Int8.ofInt 41).toInt32 = 41 := by decide
theorem bp_48 : (Int8.ofInt 48).toInt32 = 48 := by decide
theorem bp_50 : (Int8.ofInt 50).toInt32 = 50 := by decide
theorem bp_51 : (Int8.ofInt 51).toInt32 = 51 := by decide
theorem bp_57 : (Int8.ofInt 57).toInt32 = 57 := by decide
theorem bp_59 : (Int8.ofInt 59).toInt32 = 59 := by decide
theorem bp_60 : (Int8.ofInt 60).toInt32 = 60 := by decide
theorem bp_61 : (Int8.ofInt 61).toInt32 = 61 := by decide
theorem bp_64 : (Int8.ofInt 64).toInt32 = 64 := by decide
theorem bp_97 : (Int8.ofInt 97).toInt32 = 97 := by decide
theorem bp_99 : (Int8.ofInt 99).toInt32 = 99 := by decide
theorem bp_122 : (Int8.ofInt 122).toInt32 = 122 := by decide
theorem bp_126 : (Int8.ofInt 126).toInt32 = 126 := by decide
theorem sp_186 : (Int16.ofInt 186).toInt32 = 186 := by decide
theorem sp_200 : (Int16.ofInt 200).toInt32 = 200 := by decide
theorem sp_222 : (Int16.ofInt 222).toInt32 = 222 := by decide
theorem sp_255 : (Int16.ofInt 255).toInt32 = 255 := by decide
theorem sp_12345 : (Int16.ofInt 12345).toInt32 = 12345 := by decide
theorem tb_0_2 {x : Int32} (h0 : ¬ x = 0) (h1 : ¬ x = 1) (h2 : ¬ x = 2) : x.toInt < 0 ∨ 2 < x.toInt := by
  have g0 : x.toInt ≠ 0 := fun q => h0 (Int32.toInt_inj.mp (q.trans (by decide)))
  have g1 : x.toInt ≠ 1 := fun q => h1 (Int32.toInt_inj.mp (q.trans (by decide)))
  have g2 : x.toInt ≠ 2 := fun q => h2 (Int32.toInt_inj.mp (q.trans (by decide)))
  omega
theorem tb_0_4 {x : Int32} (h0 : ¬ x = 0) (h1 : ¬ x = 1) (h2 : ¬ x = 2) (h3 : ¬ x = 3) (h4 : ¬ x = 4) : x.toInt < 0 ∨ 4 < x.toInt := by
  have g0 : x.toInt ≠ 0 := fun q => h0 (Int32.toInt_inj.mp (q.trans (by decide)))
  have g1 : x.toInt ≠ 1 := fun q => h1 (Int32.toInt_inj.mp (q.trans (by decide)))
  have g2 : x.toInt ≠ 2 := fun q => h2 (Int32.toInt_inj.mp (q.trans (by decide)))
  have g3 : x.toInt ≠ 3 := fun q => h3 (Int32.toInt_inj.mp (q.trans (by decide)))
  have g4 : x.toInt ≠ 4 := fun q => h4 (Int32.toInt_inj.mp (q.trans (by decide)))
  omega
theorem tb_0_5 {x : Int32} (h0 : ¬ x = 0) (h1 : ¬ x = 1) (h2 : ¬ x = 2) (h3 : ¬ x = 3) (h4 : ¬ x = 4) (h5 : ¬ x = 5) : x.toInt < 0 ∨ 5 < x.toInt := by
  have g0 : x.toInt ≠ 0 := fun q => h0 (Int32.toInt_inj.mp (q.trans (by decide)))
  have g1 : x.toInt ≠ 1 := fun q => h1 (Int32.toInt_inj.mp (q.trans (by decide)))
  have g2 : x.toInt ≠ 2 := fun q => h2 (Int32.toInt_inj.mp (q.trans (by decide)))
  have g3 : x.toInt ≠ 3 := fun q => h3 (Int32.toInt_inj.mp (q.trans (by decide)))
  have g4 : x.toInt ≠ 4 := fun q => h4 (Int32.toInt_inj.mp (q.trans (by decide)))
  have g5 : x.toInt ≠ 5 := fun q => h5 (Int32.toInt_inj.mp (q.trans (by decide)))
  omega
theorem tb_1_4 {x : Int32} (h1 : ¬ x = 1) (h2 : ¬ x = 2) (h3 : ¬ x = 3) (h4 : ¬ x = 4) : x.toInt < 1 ∨ 4 < x.toInt := by
  have g1 : x.toInt ≠ 1 := fun q => h1 (Int32.toInt_inj.mp (q.trans (by decide)))
  have g2 : x.toInt ≠ 2 := fun q => h2 (Int32.toInt_inj.mp (q.trans (by decide)))
  have g3 : x.toInt ≠ 3 := fun q => h3 (Int32.toInt_inj.mp (q.trans (by decide)))
  have g4 : x.toInt ≠ 4 := fun q => h4 (Int32.toInt_inj.mp (q.trans (by decide)))
  omega
theorem tb_2_4 {x : Int32} (h2 : ¬ x = 2) (h3 : ¬ x = 3) (h4 : ¬ x = 4) : x.toInt < 2 ∨ 4 < x.toInt := by
  have g2 : x.toInt ≠ 2 := fun q => h2 (Int32.toInt_inj.mp (q.trans (by decide)))
  have g3 : x.toInt ≠ 3 := fun q => h3 (Int32.toInt_inj.mp (q.trans (by decide)))
  have g4 : x.toInt ≠ 4 := fun q => h4 (Int32.toInt_inj.mp (q.trans (by decide)))
  omega
theorem lk_ne2 {x : Int32} {n : Int} {v : Int32} (h : ¬ x = v) (hv : v.toInt = n) : ¬ n = x.toInt := fun q => h (Int32.toInt_inj.mp (q.symm.trans hv.symm))
theorem lk_ne {x : Int32} {n : Int} {v : Int32} (h : ¬ x = v) (hv : v.toInt = n) : ¬ x.toInt = n := fun q => h (Int32.toInt_inj.mp (q.trans hv.symm))
