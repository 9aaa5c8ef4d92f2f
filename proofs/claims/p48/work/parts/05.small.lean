/-! 05: small rows for the printed methods; facts of the tables -/
def lw {α β : Type} (a : α) (k : α → β) : β := k a
theorem lw_some {α β : Type} {a : α} {k : α → Option β} {z : β} (h : lw a k = some z) : ∃ y, y = a ∧ k y = some z := ⟨a, rfl, h⟩
def gd {β : Type} (b : Bool) (k : Option β) : Option β := match b with | true => k | false => none
theorem gd_some {β : Type} {b : Bool} {k : Option β} {z : β} (h : gd b k = some z) : b = true ∧ k = some z := by
  cases b with
  | true => exact ⟨rfl, h⟩
  | false => cases h
def bd {α β : Type} (a : Option α) (k : α → Option β) : Option β := match a with | some y => k y | none => none
theorem bd_some {α β : Type} {a : Option α} {k : α → Option β} {z : β} (h : bd a k = some z) : ∃ y, a = some y ∧ k y = some z := by
  cases a with
  | none => cases h
  | some y => exact ⟨y, rfl, h⟩
def bd2 {α γ β : Type} (a : Option (α × γ)) (k : α → γ → Option β) : Option β := match a with | some (y, u) => k y u | none => none
theorem bd2_some {α γ β : Type} {a : Option (α × γ)} {k : α → γ → Option β} {z : β} (h : bd2 a k = some z) : ∃ y u, a = some (y, u) ∧ k y u = some z := by
  cases a with
  | none => cases h
  | some y => obtain ⟨y, u⟩ := y; exact ⟨y, u, rfl, h⟩
theorem ret2 {α γ : Type} {a c : α} {b d : γ} (h : some (a, b) = some (c, d)) : a = c ∧ b = d := by
  injection h with h; injection h with h1 h2; exact ⟨h1, h2⟩
def se {α β : Type} {γ : Sort _} (f : α → γ) (g : β → γ) (e : α ⊕ β) : γ := match e with | .inl a => f a | .inr b => g b
/-- a loop: its body goes on or leaves -/
def wh {σ ε : Type} (body : σ → Option (σ ⊕ ε)) : Nat → σ → Option ε
  | 0, _ => none
  | n + 1, s => match body s with
    | none => none
    | some (.inl s') => wh body n s'
    | some (.inr e) => some e
theorem wh_E {σ ε : Type} {body : σ → Option (σ ⊕ ε)} {K : σ → Prop} {X : ε → Prop} (h : ∀ s z, body s = some z → se K X z → K s) {n : Nat} {s : σ} {e : ε} (hw : wh body n s = some e) (hx : X e) : K s := by
  induction n generalizing s with
  | zero => cases hw
  | succ n ih =>
    unfold wh at hw
    cases hb : body s with
    | none => rw [hb] at hw; cases hw
    | some z =>
      rw [hb] at hw
      cases z with
      | inl s' => exact h s _ hb (ih hw)
      | inr e' =>
        injection hw with hw
        subst hw
        exact h s _ hb hx
def inb (i : Int32) (n : Nat) : Bool := decide (¬ i < 0) && decide (i.toNatClampNeg < n)
theorem inb_in {i : Int32} {n : Nat} (h : inb i n = true) : vp_in i n := by
  simp only [inb, Bool.and_eq_true, decide_eq_true_eq] at h
  rintro (q | q)
  · exact h.1 q
  · omega
def isb (v : Int32) : Bool := v == 0 || v == 1
theorem isb_n {v : Int32} (h : isb v = true) : narrow .boolean (.int v) = .int v := by
  simp only [isb, Bool.or_eq_true, beq_iff_eq] at h
  rcases h with rfl | rfl <;> rfl
def isc (v : Int32) : Bool := (v.toUInt32 % 65536).toInt32 == v
theorem isc_n {v : Int32} (h : isc v = true) : narrow .char (.int v) = .int v := by
  have h1 : (v.toUInt32 % 65536).toInt32 = v := by simpa [isc] using h
  rw [← h1]
  exact pk_nc _
theorem isb_f {v : Int32} (h : isb v = true) : fits .boolean (.int v) = true := by
  simp only [isb, Bool.or_eq_true, beq_iff_eq] at h
  rcases h with rfl | rfl <;> rfl

def shC : List Nat := [11, 1, 4, 106, 106, 106, 106, 106, 104, 161, 161, 106, 1, 4, 106, 106, 106, 106, 106, 104, 161, 161, 106, 10, 103, 103, 103, 103, 103, 103, 10, 103, 103, 103, 103, 103, 103, 8, 1200, 4, 106, 106, 106, 106, 106, 104, 3, 227, 106, 5, 106, 106, 2, 228, 228, 107, 106, 106, 0, 6, 118, 4, 106, 106, 106, 106, 106, 7, 104, 104, 260, 104, 104, 104, 9, 130, 130, 104, 110, 110]
def rfT : List (List Nat) := [[1, 12, 23, 30, 0, 37, 46, 49, 52, 58, 59, 61, 67, 74], [2, 8, 9, 10, 11], [0, 3, 4, 5, 6, 7], [], [], [], [], [], [], [], [], [], [13, 19, 20, 21, 22], [0, 14, 15, 16, 17, 18], [], [], [], [], [], [], [], [], [], [0, 0, 24, 25, 26, 27, 28, 29], [], [], [], [], [], [], [0, 0, 31, 32, 33, 34, 35, 36], [], [], [], [], [], [], [38, 0, 39, 45], [], [0, 40, 41, 42, 43, 44], [], [], [], [], [], [], [47, 48], [], [], [46, 50, 51], [], [], [46, 53, 54, 55, 56, 57], [], [], [], [], [], [49], [46, 60], [], [0, 62, 63, 64, 65, 66], [], [], [], [], [], [68, 69, 70, 71, 72, 73], [], [], [], [], [], [], [0, 0, 0, 0, 75], [], [], [], [], []]
def rfC : Nat → Nat → Nat := fun o k => (rfT.getD o []).getD k 0
def PC (S : SC) : PI := (shC, rfC, S)
/-- with the law's last row, ends -/
def PE (S : SC) : PI := (shC ++ [106], rfC, S)
theorem sC_0 {S : SC} : (PC S).1[0]? = some 11 := rfl
theorem sC_1 {S : SC} : (PC S).1[1]? = some 1 := rfl
theorem sC_2 {S : SC} : (PC S).1[2]? = some 4 := rfl
theorem sC_3 {S : SC} : (PC S).1[3]? = some 106 := rfl
theorem sC_4 {S : SC} : (PC S).1[4]? = some 106 := rfl
theorem sC_5 {S : SC} : (PC S).1[5]? = some 106 := rfl
theorem sC_6 {S : SC} : (PC S).1[6]? = some 106 := rfl
theorem sC_7 {S : SC} : (PC S).1[7]? = some 106 := rfl
theorem sC_8 {S : SC} : (PC S).1[8]? = some 104 := rfl
theorem sC_9 {S : SC} : (PC S).1[9]? = some 161 := rfl
theorem sC_10 {S : SC} : (PC S).1[10]? = some 161 := rfl
theorem sC_11 {S : SC} : (PC S).1[11]? = some 106 := rfl
theorem sC_12 {S : SC} : (PC S).1[12]? = some 1 := rfl
theorem sC_13 {S : SC} : (PC S).1[13]? = some 4 := rfl
theorem sC_14 {S : SC} : (PC S).1[14]? = some 106 := rfl
theorem sC_15 {S : SC} : (PC S).1[15]? = some 106 := rfl
theorem sC_16 {S : SC} : (PC S).1[16]? = some 106 := rfl
theorem sC_17 {S : SC} : (PC S).1[17]? = some 106 := rfl
theorem sC_18 {S : SC} : (PC S).1[18]? = some 106 := rfl
theorem sC_19 {S : SC} : (PC S).1[19]? = some 104 := rfl
theorem sC_20 {S : SC} : (PC S).1[20]? = some 161 := rfl
theorem sC_21 {S : SC} : (PC S).1[21]? = some 161 := rfl
theorem sC_22 {S : SC} : (PC S).1[22]? = some 106 := rfl
theorem sC_23 {S : SC} : (PC S).1[23]? = some 10 := rfl
theorem sC_24 {S : SC} : (PC S).1[24]? = some 103 := rfl
theorem sC_25 {S : SC} : (PC S).1[25]? = some 103 := rfl
theorem sC_26 {S : SC} : (PC S).1[26]? = some 103 := rfl
theorem sC_27 {S : SC} : (PC S).1[27]? = some 103 := rfl
theorem sC_28 {S : SC} : (PC S).1[28]? = some 103 := rfl
theorem sC_29 {S : SC} : (PC S).1[29]? = some 103 := rfl
theorem sC_30 {S : SC} : (PC S).1[30]? = some 10 := rfl
theorem sC_31 {S : SC} : (PC S).1[31]? = some 103 := rfl
theorem sC_32 {S : SC} : (PC S).1[32]? = some 103 := rfl
theorem sC_33 {S : SC} : (PC S).1[33]? = some 103 := rfl
theorem sC_34 {S : SC} : (PC S).1[34]? = some 103 := rfl
theorem sC_35 {S : SC} : (PC S).1[35]? = some 103 := rfl
theorem sC_36 {S : SC} : (PC S).1[36]? = some 103 := rfl
theorem sC_37 {S : SC} : (PC S).1[37]? = some 8 := rfl
theorem sC_38 {S : SC} : (PC S).1[38]? = some 1200 := rfl
theorem sC_39 {S : SC} : (PC S).1[39]? = some 4 := rfl
theorem sC_40 {S : SC} : (PC S).1[40]? = some 106 := rfl
theorem sC_41 {S : SC} : (PC S).1[41]? = some 106 := rfl
theorem sC_42 {S : SC} : (PC S).1[42]? = some 106 := rfl
theorem sC_43 {S : SC} : (PC S).1[43]? = some 106 := rfl
theorem sC_44 {S : SC} : (PC S).1[44]? = some 106 := rfl
theorem sC_45 {S : SC} : (PC S).1[45]? = some 104 := rfl
theorem sC_46 {S : SC} : (PC S).1[46]? = some 3 := rfl
theorem sC_47 {S : SC} : (PC S).1[47]? = some 227 := rfl
theorem sC_48 {S : SC} : (PC S).1[48]? = some 106 := rfl
theorem sC_49 {S : SC} : (PC S).1[49]? = some 5 := rfl
theorem sC_50 {S : SC} : (PC S).1[50]? = some 106 := rfl
theorem sC_51 {S : SC} : (PC S).1[51]? = some 106 := rfl
theorem sC_52 {S : SC} : (PC S).1[52]? = some 2 := rfl
theorem sC_53 {S : SC} : (PC S).1[53]? = some 228 := rfl
theorem sC_54 {S : SC} : (PC S).1[54]? = some 228 := rfl
theorem sC_55 {S : SC} : (PC S).1[55]? = some 107 := rfl
theorem sC_56 {S : SC} : (PC S).1[56]? = some 106 := rfl
theorem sC_57 {S : SC} : (PC S).1[57]? = some 106 := rfl
theorem sC_58 {S : SC} : (PC S).1[58]? = some 0 := rfl
theorem sC_59 {S : SC} : (PC S).1[59]? = some 6 := rfl
theorem sC_60 {S : SC} : (PC S).1[60]? = some 118 := rfl
theorem sC_61 {S : SC} : (PC S).1[61]? = some 4 := rfl
theorem sC_62 {S : SC} : (PC S).1[62]? = some 106 := rfl
theorem sC_63 {S : SC} : (PC S).1[63]? = some 106 := rfl
theorem sC_64 {S : SC} : (PC S).1[64]? = some 106 := rfl
theorem sC_65 {S : SC} : (PC S).1[65]? = some 106 := rfl
theorem sC_66 {S : SC} : (PC S).1[66]? = some 106 := rfl
theorem sC_67 {S : SC} : (PC S).1[67]? = some 7 := rfl
theorem sC_68 {S : SC} : (PC S).1[68]? = some 104 := rfl
theorem sC_69 {S : SC} : (PC S).1[69]? = some 104 := rfl
theorem sC_70 {S : SC} : (PC S).1[70]? = some 260 := rfl
theorem sC_71 {S : SC} : (PC S).1[71]? = some 104 := rfl
theorem sC_72 {S : SC} : (PC S).1[72]? = some 104 := rfl
theorem sC_73 {S : SC} : (PC S).1[73]? = some 104 := rfl
theorem sC_74 {S : SC} : (PC S).1[74]? = some 9 := rfl
theorem sC_75 {S : SC} : (PC S).1[75]? = some 130 := rfl
theorem sC_76 {S : SC} : (PC S).1[76]? = some 130 := rfl
theorem sC_77 {S : SC} : (PC S).1[77]? = some 104 := rfl
theorem sC_78 {S : SC} : (PC S).1[78]? = some 110 := rfl
theorem sC_79 {S : SC} : (PC S).1[79]? = some 110 := rfl
theorem sE_0 {S : SC} : (PE S).1[0]? = some 11 := rfl
theorem sE_76 {S : SC} : (PE S).1[76]? = some 130 := rfl
theorem sE_77 {S : SC} : (PE S).1[77]? = some 104 := rfl
theorem sE_78 {S : SC} : (PE S).1[78]? = some 110 := rfl
theorem sE_79 {S : SC} : (PE S).1[79]? = some 110 := rfl
theorem sE_80 {S : SC} : (PE S).1[80]? = some 106 := rfl
theorem rC_0_0 {S : SC} : (PC S).2.1 0 0 = 1 := rfl
theorem rC_0_1 {S : SC} : (PC S).2.1 0 1 = 12 := rfl
theorem rC_0_2 {S : SC} : (PC S).2.1 0 2 = 23 := rfl
theorem rC_0_3 {S : SC} : (PC S).2.1 0 3 = 30 := rfl
theorem rC_0_5 {S : SC} : (PC S).2.1 0 5 = 37 := rfl
theorem rC_0_6 {S : SC} : (PC S).2.1 0 6 = 46 := rfl
theorem rC_0_7 {S : SC} : (PC S).2.1 0 7 = 49 := rfl
theorem rC_0_8 {S : SC} : (PC S).2.1 0 8 = 52 := rfl
theorem rC_0_9 {S : SC} : (PC S).2.1 0 9 = 58 := rfl
theorem rC_0_10 {S : SC} : (PC S).2.1 0 10 = 59 := rfl
theorem rC_0_11 {S : SC} : (PC S).2.1 0 11 = 61 := rfl
theorem rC_0_12 {S : SC} : (PC S).2.1 0 12 = 67 := rfl
theorem rC_0_13 {S : SC} : (PC S).2.1 0 13 = 74 := rfl
theorem rC_1_0 {S : SC} : (PC S).2.1 1 0 = 2 := rfl
theorem rC_1_1 {S : SC} : (PC S).2.1 1 1 = 8 := rfl
theorem rC_1_2 {S : SC} : (PC S).2.1 1 2 = 9 := rfl
theorem rC_1_3 {S : SC} : (PC S).2.1 1 3 = 10 := rfl
theorem rC_1_4 {S : SC} : (PC S).2.1 1 4 = 11 := rfl
theorem rC_2_1 {S : SC} : (PC S).2.1 2 1 = 3 := rfl
theorem rC_2_2 {S : SC} : (PC S).2.1 2 2 = 4 := rfl
theorem rC_2_3 {S : SC} : (PC S).2.1 2 3 = 5 := rfl
theorem rC_2_4 {S : SC} : (PC S).2.1 2 4 = 6 := rfl
theorem rC_2_5 {S : SC} : (PC S).2.1 2 5 = 7 := rfl
theorem rC_12_0 {S : SC} : (PC S).2.1 12 0 = 13 := rfl
theorem rC_12_1 {S : SC} : (PC S).2.1 12 1 = 19 := rfl
theorem rC_12_2 {S : SC} : (PC S).2.1 12 2 = 20 := rfl
theorem rC_12_3 {S : SC} : (PC S).2.1 12 3 = 21 := rfl
theorem rC_12_4 {S : SC} : (PC S).2.1 12 4 = 22 := rfl
theorem rC_13_1 {S : SC} : (PC S).2.1 13 1 = 14 := rfl
theorem rC_13_2 {S : SC} : (PC S).2.1 13 2 = 15 := rfl
theorem rC_13_3 {S : SC} : (PC S).2.1 13 3 = 16 := rfl
theorem rC_13_4 {S : SC} : (PC S).2.1 13 4 = 17 := rfl
theorem rC_13_5 {S : SC} : (PC S).2.1 13 5 = 18 := rfl
theorem rC_23_2 {S : SC} : (PC S).2.1 23 2 = 24 := rfl
theorem rC_23_3 {S : SC} : (PC S).2.1 23 3 = 25 := rfl
theorem rC_23_4 {S : SC} : (PC S).2.1 23 4 = 26 := rfl
theorem rC_23_5 {S : SC} : (PC S).2.1 23 5 = 27 := rfl
theorem rC_23_6 {S : SC} : (PC S).2.1 23 6 = 28 := rfl
theorem rC_23_7 {S : SC} : (PC S).2.1 23 7 = 29 := rfl
theorem rC_30_2 {S : SC} : (PC S).2.1 30 2 = 31 := rfl
theorem rC_30_3 {S : SC} : (PC S).2.1 30 3 = 32 := rfl
theorem rC_30_4 {S : SC} : (PC S).2.1 30 4 = 33 := rfl
theorem rC_30_5 {S : SC} : (PC S).2.1 30 5 = 34 := rfl
theorem rC_30_6 {S : SC} : (PC S).2.1 30 6 = 35 := rfl
theorem rC_30_7 {S : SC} : (PC S).2.1 30 7 = 36 := rfl
theorem rC_37_0 {S : SC} : (PC S).2.1 37 0 = 38 := rfl
theorem rC_37_2 {S : SC} : (PC S).2.1 37 2 = 39 := rfl
theorem rC_37_3 {S : SC} : (PC S).2.1 37 3 = 45 := rfl
theorem rC_39_1 {S : SC} : (PC S).2.1 39 1 = 40 := rfl
theorem rC_39_2 {S : SC} : (PC S).2.1 39 2 = 41 := rfl
theorem rC_39_3 {S : SC} : (PC S).2.1 39 3 = 42 := rfl
theorem rC_39_4 {S : SC} : (PC S).2.1 39 4 = 43 := rfl
theorem rC_39_5 {S : SC} : (PC S).2.1 39 5 = 44 := rfl
theorem rC_46_0 {S : SC} : (PC S).2.1 46 0 = 47 := rfl
theorem rC_46_1 {S : SC} : (PC S).2.1 46 1 = 48 := rfl
theorem rC_49_0 {S : SC} : (PC S).2.1 49 0 = 46 := rfl
theorem rC_49_1 {S : SC} : (PC S).2.1 49 1 = 50 := rfl
theorem rC_49_2 {S : SC} : (PC S).2.1 49 2 = 51 := rfl
theorem rC_52_0 {S : SC} : (PC S).2.1 52 0 = 46 := rfl
theorem rC_52_1 {S : SC} : (PC S).2.1 52 1 = 53 := rfl
theorem rC_52_2 {S : SC} : (PC S).2.1 52 2 = 54 := rfl
theorem rC_52_3 {S : SC} : (PC S).2.1 52 3 = 55 := rfl
theorem rC_52_4 {S : SC} : (PC S).2.1 52 4 = 56 := rfl
theorem rC_52_5 {S : SC} : (PC S).2.1 52 5 = 57 := rfl
theorem rC_58_0 {S : SC} : (PC S).2.1 58 0 = 49 := rfl
theorem rC_59_0 {S : SC} : (PC S).2.1 59 0 = 46 := rfl
theorem rC_59_1 {S : SC} : (PC S).2.1 59 1 = 60 := rfl
theorem rC_61_1 {S : SC} : (PC S).2.1 61 1 = 62 := rfl
theorem rC_61_2 {S : SC} : (PC S).2.1 61 2 = 63 := rfl
theorem rC_61_3 {S : SC} : (PC S).2.1 61 3 = 64 := rfl
theorem rC_61_4 {S : SC} : (PC S).2.1 61 4 = 65 := rfl
theorem rC_61_5 {S : SC} : (PC S).2.1 61 5 = 66 := rfl
theorem rC_67_0 {S : SC} : (PC S).2.1 67 0 = 68 := rfl
theorem rC_67_1 {S : SC} : (PC S).2.1 67 1 = 69 := rfl
theorem rC_67_2 {S : SC} : (PC S).2.1 67 2 = 70 := rfl
theorem rC_67_3 {S : SC} : (PC S).2.1 67 3 = 71 := rfl
theorem rC_67_4 {S : SC} : (PC S).2.1 67 4 = 72 := rfl
theorem rC_67_5 {S : SC} : (PC S).2.1 67 5 = 73 := rfl
theorem rC_74_4 {S : SC} : (PC S).2.1 74 4 = 75 := rfl
def isJb (o : Nat) : Bool := o == 2 || (o == 13 || (o == 39 || o == 61))
def isJ (o : Nat) : Prop := o = 2 ∨ o = 13 ∨ o = 39 ∨ o = 61
theorem isJb_of {o : Nat} (h : isJb o = true) : isJ o := by
  simpa [isJb, isJ] using h
def isB (b : Nat) : Prop := b = 1 ∨ b = 12
def isT (t : Nat) : Prop := t = 23 ∨ t = 30
theorem J_is2 : isJ 2 := Or.inl rfl
theorem J_is13 : isJ 13 := Or.inr (Or.inl rfl)
theorem J_is39 : isJ 39 := Or.inr (Or.inr (Or.inl rfl))
theorem J_is61 : isJ 61 := Or.inr (Or.inr (Or.inr rfl))
theorem B_is1 : isB 1 := Or.inl rfl
theorem B_is12 : isB 12 := Or.inr rfl
theorem T_is23 : isT 23 := Or.inl rfl
theorem T_is30 : isT 30 := Or.inr rfl
theorem J_nz {o : Nat} (h : isJ o) : ¬ o = 0 := by unfold isJ at h; omega
theorem J_lt {o : Nat} (h : isJ o) : o < 2 ^ 31 := by unfold isJ at h; omega
theorem B_j1 {b : Nat} (h : isB b) : isJ (b + 1) := by unfold isB at h; unfold isJ; omega
theorem J_s0 {S : SC} {o : Nat} (h : isJ o) : (PC S).1[o]? = some 4 := by
  rcases h with rfl | rfl | rfl | rfl <;> rfl
theorem J_s1 {S : SC} {o : Nat} (h : isJ o) : (PC S).1[o + 1]? = some 106 := by
  rcases h with rfl | rfl | rfl | rfl <;> rfl
theorem J_s2 {S : SC} {o : Nat} (h : isJ o) : (PC S).1[o + 2]? = some 106 := by
  rcases h with rfl | rfl | rfl | rfl <;> rfl
theorem J_s3 {S : SC} {o : Nat} (h : isJ o) : (PC S).1[o + 3]? = some 106 := by
  rcases h with rfl | rfl | rfl | rfl <;> rfl
theorem J_s4 {S : SC} {o : Nat} (h : isJ o) : (PC S).1[o + 4]? = some 106 := by
  rcases h with rfl | rfl | rfl | rfl <;> rfl
theorem J_s5 {S : SC} {o : Nat} (h : isJ o) : (PC S).1[o + 5]? = some 106 := by
  rcases h with rfl | rfl | rfl | rfl <;> rfl
theorem J_r0_1 {S : SC} {o : Nat} (h : isJ o) : (PC S).2.1 (o) 1 = o + 1 := by
  rcases h with rfl | rfl | rfl | rfl <;> rfl
theorem J_r0_2 {S : SC} {o : Nat} (h : isJ o) : (PC S).2.1 (o) 2 = o + 2 := by
  rcases h with rfl | rfl | rfl | rfl <;> rfl
theorem J_r0_3 {S : SC} {o : Nat} (h : isJ o) : (PC S).2.1 (o) 3 = o + 3 := by
  rcases h with rfl | rfl | rfl | rfl <;> rfl
theorem J_r0_4 {S : SC} {o : Nat} (h : isJ o) : (PC S).2.1 (o) 4 = o + 4 := by
  rcases h with rfl | rfl | rfl | rfl <;> rfl
theorem J_r0_5 {S : SC} {o : Nat} (h : isJ o) : (PC S).2.1 (o) 5 = o + 5 := by
  rcases h with rfl | rfl | rfl | rfl <;> rfl
theorem B_s0 {S : SC} {o : Nat} (h : isB o) : (PC S).1[o]? = some 1 := by
  rcases h with rfl | rfl <;> rfl
theorem B_s1 {S : SC} {o : Nat} (h : isB o) : (PC S).1[o + 1]? = some 4 := by
  rcases h with rfl | rfl <;> rfl
theorem B_s2 {S : SC} {o : Nat} (h : isB o) : (PC S).1[o + 2]? = some 106 := by
  rcases h with rfl | rfl <;> rfl
theorem B_s3 {S : SC} {o : Nat} (h : isB o) : (PC S).1[o + 3]? = some 106 := by
  rcases h with rfl | rfl <;> rfl
theorem B_s4 {S : SC} {o : Nat} (h : isB o) : (PC S).1[o + 4]? = some 106 := by
  rcases h with rfl | rfl <;> rfl
theorem B_s5 {S : SC} {o : Nat} (h : isB o) : (PC S).1[o + 5]? = some 106 := by
  rcases h with rfl | rfl <;> rfl
theorem B_s6 {S : SC} {o : Nat} (h : isB o) : (PC S).1[o + 6]? = some 106 := by
  rcases h with rfl | rfl <;> rfl
theorem B_s7 {S : SC} {o : Nat} (h : isB o) : (PC S).1[o + 7]? = some 104 := by
  rcases h with rfl | rfl <;> rfl
theorem B_s8 {S : SC} {o : Nat} (h : isB o) : (PC S).1[o + 8]? = some 161 := by
  rcases h with rfl | rfl <;> rfl
theorem B_s9 {S : SC} {o : Nat} (h : isB o) : (PC S).1[o + 9]? = some 161 := by
  rcases h with rfl | rfl <;> rfl
theorem B_s10 {S : SC} {o : Nat} (h : isB o) : (PC S).1[o + 10]? = some 106 := by
  rcases h with rfl | rfl <;> rfl
theorem B_r0_0 {S : SC} {o : Nat} (h : isB o) : (PC S).2.1 (o) 0 = o + 1 := by
  rcases h with rfl | rfl <;> rfl
theorem B_r0_1 {S : SC} {o : Nat} (h : isB o) : (PC S).2.1 (o) 1 = o + 7 := by
  rcases h with rfl | rfl <;> rfl
theorem B_r0_2 {S : SC} {o : Nat} (h : isB o) : (PC S).2.1 (o) 2 = o + 8 := by
  rcases h with rfl | rfl <;> rfl
theorem B_r0_3 {S : SC} {o : Nat} (h : isB o) : (PC S).2.1 (o) 3 = o + 9 := by
  rcases h with rfl | rfl <;> rfl
theorem B_r0_4 {S : SC} {o : Nat} (h : isB o) : (PC S).2.1 (o) 4 = o + 10 := by
  rcases h with rfl | rfl <;> rfl
theorem B_r1_1 {S : SC} {o : Nat} (h : isB o) : (PC S).2.1 (o + 1) 1 = o + 2 := by
  rcases h with rfl | rfl <;> rfl
theorem B_r1_2 {S : SC} {o : Nat} (h : isB o) : (PC S).2.1 (o + 1) 2 = o + 3 := by
  rcases h with rfl | rfl <;> rfl
theorem B_r1_3 {S : SC} {o : Nat} (h : isB o) : (PC S).2.1 (o + 1) 3 = o + 4 := by
  rcases h with rfl | rfl <;> rfl
theorem B_r1_4 {S : SC} {o : Nat} (h : isB o) : (PC S).2.1 (o + 1) 4 = o + 5 := by
  rcases h with rfl | rfl <;> rfl
theorem B_r1_5 {S : SC} {o : Nat} (h : isB o) : (PC S).2.1 (o + 1) 5 = o + 6 := by
  rcases h with rfl | rfl <;> rfl
theorem T_s0 {S : SC} {o : Nat} (h : isT o) : (PC S).1[o]? = some 10 := by
  rcases h with rfl | rfl <;> rfl
theorem T_s1 {S : SC} {o : Nat} (h : isT o) : (PC S).1[o + 1]? = some 103 := by
  rcases h with rfl | rfl <;> rfl
theorem T_s2 {S : SC} {o : Nat} (h : isT o) : (PC S).1[o + 2]? = some 103 := by
  rcases h with rfl | rfl <;> rfl
theorem T_s3 {S : SC} {o : Nat} (h : isT o) : (PC S).1[o + 3]? = some 103 := by
  rcases h with rfl | rfl <;> rfl
theorem T_s4 {S : SC} {o : Nat} (h : isT o) : (PC S).1[o + 4]? = some 103 := by
  rcases h with rfl | rfl <;> rfl
theorem T_s5 {S : SC} {o : Nat} (h : isT o) : (PC S).1[o + 5]? = some 103 := by
  rcases h with rfl | rfl <;> rfl
theorem T_s6 {S : SC} {o : Nat} (h : isT o) : (PC S).1[o + 6]? = some 103 := by
  rcases h with rfl | rfl <;> rfl
theorem T_r0_2 {S : SC} {o : Nat} (h : isT o) : (PC S).2.1 (o) 2 = o + 1 := by
  rcases h with rfl | rfl <;> rfl
theorem T_r0_3 {S : SC} {o : Nat} (h : isT o) : (PC S).2.1 (o) 3 = o + 2 := by
  rcases h with rfl | rfl <;> rfl
theorem T_r0_4 {S : SC} {o : Nat} (h : isT o) : (PC S).2.1 (o) 4 = o + 3 := by
  rcases h with rfl | rfl <;> rfl
theorem T_r0_5 {S : SC} {o : Nat} (h : isT o) : (PC S).2.1 (o) 5 = o + 4 := by
  rcases h with rfl | rfl <;> rfl
theorem T_r0_6 {S : SC} {o : Nat} (h : isT o) : (PC S).2.1 (o) 6 = o + 5 := by
  rcases h with rfl | rfl <;> rfl
theorem T_r0_7 {S : SC} {o : Nat} (h : isT o) : (PC S).2.1 (o) 7 = o + 6 := by
  rcases h with rfl | rfl <;> rfl
section EV2
variable {P : PI} {own : String} {cc : ByteArray} {nL d pc : Nat} {ls : List (Option Value)} {w : AW} {Q : Nat → List (Option Value) → List Value → AW → Prop}
theorem E_callVi {ix o ci n mL d' : Nat} {cn : String} {T : u_T} {N : Nat} {y : MethodName} {b : ByteArray} {ret : Option FieldType} {As rest st : List Value} {w1 : AW} {r : Int32} (hc : CVt own ix cn y b mL ret n) (hd : decode cc pc = .ok (.invokevirtual ix, 3)) (hm : CallOK P y b mL ret d' (.ref o :: As) w (some (.int r)) w1) (hdd : Nat.ble (d' + 1) d = true) (ho : P.1[o]? = some ci) (hci : vwCl[ci]? = some (cn, T, N)) (hci2 : ci < 100) (hst : st = As.reverse ++ .ref o :: rest) (hn : As.length = n) (hcat : ∀ V : EV, ((rest.map (cv V)).map fun v => v.category).sum ≤ 8)
    (k : E P own cc nL d (pc + 3) ls (.int r :: rest) w1 Q) : E P own cc nL d pc ls st w Q := E_callV hc hd hm hdd ho hci hci2 hst hn hcat k
theorem E_callSi {ix n mL d' : Nat} {y : MethodName} {b : ByteArray} {ret : Option FieldType} {As rest st : List Value} {w1 : AW} {r : Int32} (hc : CSt own ix y b mL ret n) (hd : decode cc pc = .ok (.invokestatic ix, 3)) (hm : CallOK P y b mL ret d' As w (some (.int r)) w1) (hdd : Nat.ble (d' + 1) d = true) (hst : st = As.reverse ++ rest) (hn : As.length = n) (hcat : ∀ V : EV, ((rest.map (cv V)).map fun v => v.category).sum ≤ 8)
    (k : E P own cc nL d (pc + 3) ls (.int r :: rest) w1 Q) : E P own cc nL d pc ls st w Q := E_callS hc hd hm hdd hst hn hcat k
theorem E_callNi {ix n mL d' : Nat} {ho : String} {y : MethodName} {b : ByteArray} {ret : Option FieldType} {As rest st : List Value} {w1 : AW} {r : Int32} (hc : CNt own ix y ho b mL ret n) (hd : decode cc pc = .ok (.invokestatic ix, 3)) (hm : CallOK P y b mL ret d' As w (some (.int r)) w1) (hdd : Nat.ble (d' + 1) d = true) (hst : st = As.reverse ++ rest) (hn : As.length = n) (hcat : ∀ V : EV, ((rest.map (cv V)).map fun v => v.category).sum ≤ 8)
    (k : E P own cc nL d (pc + 3) ls (.int r :: rest) w1 Q) : E P own cc nL d pc ls st w Q := E_callN hc hd hm hdd hst hn hcat k
theorem E_callVv {ix o ci n mL d' : Nat} {cn : String} {T : u_T} {N : Nat} {y : MethodName} {b : ByteArray} {ret : Option FieldType} {As rest st : List Value} {w1 : AW} (hc : CVt own ix cn y b mL ret n) (hd : decode cc pc = .ok (.invokevirtual ix, 3)) (hm : CallOK P y b mL ret d' (.ref o :: As) w none w1) (hdd : Nat.ble (d' + 1) d = true) (ho : P.1[o]? = some ci) (hci : vwCl[ci]? = some (cn, T, N)) (hci2 : ci < 100) (hst : st = As.reverse ++ .ref o :: rest) (hn : As.length = n) (hcat : ∀ V : EV, ((rest.map (cv V)).map fun v => v.category).sum ≤ 8)
    (k : E P own cc nL d (pc + 3) ls (rest) w1 Q) : E P own cc nL d pc ls st w Q := E_callV hc hd hm hdd ho hci hci2 hst hn hcat k
theorem E_callSv {ix n mL d' : Nat} {y : MethodName} {b : ByteArray} {ret : Option FieldType} {As rest st : List Value} {w1 : AW} (hc : CSt own ix y b mL ret n) (hd : decode cc pc = .ok (.invokestatic ix, 3)) (hm : CallOK P y b mL ret d' As w none w1) (hdd : Nat.ble (d' + 1) d = true) (hst : st = As.reverse ++ rest) (hn : As.length = n) (hcat : ∀ V : EV, ((rest.map (cv V)).map fun v => v.category).sum ≤ 8)
    (k : E P own cc nL d (pc + 3) ls (rest) w1 Q) : E P own cc nL d pc ls st w Q := E_callS hc hd hm hdd hst hn hcat k
theorem E_callNv {ix n mL d' : Nat} {ho : String} {y : MethodName} {b : ByteArray} {ret : Option FieldType} {As rest st : List Value} {w1 : AW} (hc : CNt own ix y ho b mL ret n) (hd : decode cc pc = .ok (.invokestatic ix, 3)) (hm : CallOK P y b mL ret d' As w none w1) (hdd : Nat.ble (d' + 1) d = true) (hst : st = As.reverse ++ rest) (hn : As.length = n) (hcat : ∀ V : EV, ((rest.map (cv V)).map fun v => v.category).sum ≤ 8)
    (k : E P own cc nL d (pc + 3) ls (rest) w1 Q) : E P own cc nL d pc ls st w Q := E_callN hc hd hm hdd hst hn hcat k
end EV2
/-! calls of the pool's methods, with the law's last row beside -/
def kp (w w1 : AW) : AW := (fun o k => if o = 80 then w.1 80 k else w1.1 o k, fun o k => if o = 80 then w.2 80 k else w1.2 o k)
theorem kp_80 {w w1 : AW} : (kp w w1).1 80 = w.1 80 ∧ (kp w w1).2 80 = w.2 80 := ⟨rfl, rfl⟩
theorem kp_lt {w w1 : AW} : ∀ o, o < 80 → (kp w w1).1 o = w1.1 o ∧ (kp w w1).2 o = w1.2 o := fun o h => by
  have h1 : ¬ o = 80 := by omega
  exact ⟨funext fun k => if_neg h1, funext fun k => if_neg h1⟩
theorem sf_80 {w : AW} : w.1 80 = w.1 80 ∧ w.2 80 = w.2 80 := ⟨rfl, rfl⟩
theorem sf_lt {w : AW} : ∀ o, o < 80 → w.1 o = w.1 o ∧ w.2 o = w.2 o := fun _ _ => ⟨rfl, rfl⟩
theorem shC_len : shC.length = 80 := rfl
theorem wl_PE {S : SC} {V : EV} {w : AW} : wl (PE S) V w = wl (PC S) V w ++ [(V.1 80, ent V rfC w 80 106)] := by
  show (shC ++ [106]).mapIdx (fun o c => (V.1 o, ent V rfC w o c)) = shC.mapIdx (fun o c => (V.1 o, ent V rfC w o c)) ++ _
  rw [List.mapIdx_append]
  rfl
theorem wl_same {S : SC} {V : EV} {w w' : AW} (h : ∀ o, o < 80 → w'.1 o = w.1 o ∧ w'.2 o = w.2 o) : wl (PC S) V w' = wl (PC S) V w := by
  apply List.ext_getElem?
  intro i
  simp only [wl, List.getElem?_mapIdx]
  cases hc : (PC S).1[i]? with
  | none => rfl
  | some c =>
    have hi : i < 80 := (List.getElem?_eq_some_iff.mp hc).1
    obtain ⟨h1, h2⟩ := h i hi
    simp only [Option.map_some, ent_off h1 h2]
theorem Pl_PE {S : SC} {V : EV} {q : Nat} (h : Pl (PC S) V q) : Pl (PE S) V q := by
  obtain ⟨k, hk, rfl⟩ := h
  have hk' : k < 80 := hk
  exact ⟨k, show k < (shC ++ [106]).length by rw [List.length_append, shC_len]; simp; omega, rfl⟩
theorem PE_len {S : SC} : (PE S).1.length = 81 := rfl
theorem EnvOK.toPC {S : SC} {V : EV} {U : State} {H : Heap} (h : EnvOK (PE S) V U H) : EnvOK (PC S) V U H := by
  obtain ⟨h1, h2, h3, h4⟩ := h
  refine ⟨h1, fun i j hi hj => h2 i j ?_ ?_, h3, h4.narrow (fun q hq => Pl_PE hq)⟩
  · rw [PE_len]; have hi' : i < 80 := hi; omega
  · rw [PE_len]; have hj' : j < 80 := hj; omega
theorem E_ranL {S : SC} {own : String} {cc : ByteArray} {nL d pc : Nat} {ls : List (Option Value)} {w : AW} {Q : Nat → List (Option Value) → List Value → AW → Prop} {st0 st rest : List Value} {r : Option Value} {w1 w2 : AW} {a : EV → Array Value} (hst : st0 = st) (h80 : w2.1 80 = w.1 80 ∧ w2.2 80 = w.2 80) (hlt : ∀ o, o < 80 → w2.1 o = w1.1 o ∧ w2.2 o = w1.2 o)
    (hr : ∀ (p : Program) (l : Launch) (e : Env) (R : Room) (s : State) (m : MethodId) (args : Array Value) (below : List Frame) (meth : Method) (c : Code) (V : EV) (H : Heap) (locs : List Loc) (cells slots : Nat) (la : Array Slot), Cx (PE S) V own cc nL d p R s m args c cells slots → va_P V.2.1 vwCl (wl (PE S) V w) H → va_S (Pl (PE S) V) s.heap H locs → hasL V la nL ls → va_Run p l e R s m args below meth c H locs cells slots 0 0 (F0 m pc la (st.map (cv V))) (rest.map (cv V)) (QcOK (PC S) V r w1 (a V)) (Pl (PC S) V))
    (k : E (PE S) own cc nL d (pc + 3) ls (r.toList ++ rest) w2 Q) : E (PE S) own cc nL d pc ls st0 w Q := by
  subst hst
  intro p l e R s m args below meth c V H locs cells slots la Z C hP hS hl K
  intro T hT X
  obtain ⟨v, s0, t, T', L, h0, X', hL, e1, e2, ⟨hq1, hq2, hq3⟩, go⟩ := hr p l e R s m args below meth c V H locs cells slots la C hP hS hl T hT X
  have hv : v = r.map (cv V) := by injection hq1
  subst hv
  have hS' : va_S (Pl (PE S) V) s.heap T'.heap (locs ++ L) := by
    rw [e1]
    refine ⟨Nat.le_trans hS.1 (by rw [← h0]; exact hq3.1), fun q h1 h2 => ?_, fun x hx => ?_⟩
    · rw [hq3.2 q (by rw [h0]; exact Nat.lt_of_lt_of_le h1 hS.1) (fun h => h2 (Pl_PE h)), h0]
      exact hS.2.1 q h1 h2
    · rcases List.mem_append.mp hx with h | h
      · exact hS.2.2 x h
      · exact Pl_PE (hL x h)
  have hinj := C.2.2.2.2.2.1.2.1
  have hP' : va_P V.2.1 vwCl (wl (PE S) V w2) T'.heap := by
    rw [wl_PE, wl_same hlt, ent_off h80.1 h80.2]
    rw [wl_PE] at hP
    refine va_P.app (by rw [e1]; exact hq2) ?_
    refine va_P.kept (H := H) (fun j q hj => hP ((wl (PC S) V w).length + j) q (by rw [List.getElem?_append_right (by omega)]; simpa using hj)) (fun j q hj => ?_)
    have hj0 : j = 0 := by
      have := (List.getElem?_eq_some_iff.mp hj).1
      simp at this; exact this
    subst hj0
    have hq : q = (V.1 80, ent V rfC w 80 106) := by simpa using hj.symm
    subst hq
    have hlt80 := (hP (wl (PC S) V w).length (V.1 80, ent V rfC w 80 106) (by rw [List.getElem?_append_right (by omega)]; simp)).lt
    rw [e1, hq3.2 (V.1 80) (by rw [h0]; exact hlt80) (fun h => ?_), h0]
    obtain ⟨k9, hk9, he9⟩ := h
    have hk9' : k9 < 80 := hk9
    have := hinj 80 k9 (by rw [PE_len]; omega) (by rw [PE_len]; omega) he9
    omega
  obtain ⟨t2, a1, b1⟩ := k p l e R s m args below meth c V T'.heap (locs ++ L) cells slots la Z C hP' hS' hl K T' rfl X'
  refine ⟨t2, go t2 ?_, b1⟩
  have hst : (r.toList ++ rest).map (cv V) = (r.map (cv V)).toList ++ rest.map (cv V) := by cases r <;> simp
  rw [hst] at a1
  exact a1
theorem PcOK.atL {S : SC} {V : EV} {as : List Value} {w : AW} {s : State} {H : Heap} {locs : List Loc} (hE : EnvOK (PE S) V s s.heap) (hP : va_P V.2.1 vwCl (wl (PE S) V w) H) (hS : va_S (Pl (PE S) V) s.heap H locs) : ∀ U : State, U.heap = H → s.WarmedH U.vm → PcOK (PC S) V as w (as.map (cv V)).toArray U := fun U hU hW =>
  ⟨rfl, by rw [hU]; rw [wl_PE] at hP; exact fun j q hj => hP j q (by rw [List.getElem?_append_left (List.getElem?_eq_some_iff.mp hj).1]; exact hj), by rw [hU]; exact (hE.to hW hS.2.1).toPC⟩
theorem E_lcallV {S : SC} {own : String} {cc : ByteArray} {nL d pc : Nat} {ls : List (Option Value)} {w : AW} {Q : Nat → List (Option Value) → List Value → AW → Prop} {ix o ci n mL d' : Nat} {cn : String} {T : u_T} {N : Nat} {y : MethodName} {b : ByteArray} {ret : Option FieldType} {As rest st : List Value} {r : Option Value} {w1 w2 : AW} (hc : CVt own ix cn y b mL ret n) (hd : decode cc pc = .ok (.invokevirtual ix, 3)) (hm : CallOK (PC S) y b mL ret d' (.ref o :: As) w r w1) (hdd : Nat.ble (d' + 1) d = true) (ho : (PE S).1[o]? = some ci) (hci : vwCl[ci]? = some (cn, T, N)) (hci2 : ci < 100) (hst : st = As.reverse ++ .ref o :: rest) (hn : As.length = n) (hcat : ∀ V : EV, ((rest.map (cv V)).map fun v => v.category).sum ≤ 8) (h80 : w2.1 80 = w.1 80 ∧ w2.2 80 = w.2 80) (hlt : ∀ o, o < 80 → w2.1 o = w1.1 o ∧ w2.2 o = w1.2 o)
    (k : E (PE S) own cc nL d (pc + 3) ls (r.toList ++ rest) w2 Q) : E (PE S) own cc nL d pc ls st w Q := by
  refine E_ranL (r := r) (w1 := w1) (rest := rest) (a := fun V => ((Value.ref o :: As).map (cv V)).toArray) hst h80 hlt ?_ k
  intro p l e R s m args below meth c V H locs cells slots la C hP hS hl
  obtain ⟨c1, c2, c3, c4, c5, c6, c7, c8, c9, c10⟩ := id C
  obtain ⟨hg, hy, hmL⟩ := hc
  have hdd := Nat.le_of_ble_eq_true hdd
  refine va_runV (C := cn) (b := V.1 o) (As := As.map (cv V)) ⟨c1, c2, c3, c4, c5⟩ (hm l V) (cwV (ws' := TBG) n c5 hg rfl rfl rfl hy ⟨by show d' + 1 ≤ R.frames; omega, by show 8 + (mL + 11) + 40 * d' ≤ R.locals; omega⟩) ⟨PcOK.blind, ?_, PcOK.atL c6 hP hS⟩ rfl (by rw [List.length_map]; exact hn) hl.1 ?_ (lv_room (hcat V)) hd ⟨c9, c10⟩
  · exact va_recv c6.1 hP hci ((wl_at ho).trans (by rw [ent_obj hci2]))
  · show (As.reverse ++ Value.ref o :: rest).map (cv V) = _
    rw [List.map_append, List.map_reverse, List.map_cons]; rfl
theorem E_lcallS {S : SC} {own : String} {cc : ByteArray} {nL d pc : Nat} {ls : List (Option Value)} {w : AW} {Q : Nat → List (Option Value) → List Value → AW → Prop} {ix n mL d' : Nat} {y : MethodName} {b : ByteArray} {ret : Option FieldType} {As rest st : List Value} {r : Option Value} {w1 w2 : AW} (hc : CSt own ix y b mL ret n) (hd : decode cc pc = .ok (.invokestatic ix, 3)) (hm : CallOK (PC S) y b mL ret d' As w r w1) (hdd : Nat.ble (d' + 1) d = true) (hst : st = As.reverse ++ rest) (hn : As.length = n) (hcat : ∀ V : EV, ((rest.map (cv V)).map fun v => v.category).sum ≤ 8) (h80 : w2.1 80 = w.1 80 ∧ w2.2 80 = w.2 80) (hlt : ∀ o, o < 80 → w2.1 o = w1.1 o ∧ w2.2 o = w1.2 o)
    (k : E (PE S) own cc nL d (pc + 3) ls (r.toList ++ rest) w2 Q) : E (PE S) own cc nL d pc ls st w Q := by
  refine E_ranL (r := r) (w1 := w1) (rest := rest) (a := fun V => (As.map (cv V)).toArray) hst h80 hlt ?_ k
  intro p l e R s m args below meth c V H locs cells slots la C hP hS hl
  obtain ⟨c1, c2, c3, c4, c5, c6, c7, c8, c9, c10⟩ := id C
  obtain ⟨hg, hy, hmL⟩ := hc
  have hdd := Nat.le_of_ble_eq_true hdd
  refine va_runS (As := As.map (cv V)) ⟨c1, c2, c3, c4, c5⟩ (hm l V) (va_cwS (ws' := TBG) n c5 hg rfl rfl rfl hy ⟨by show d' + 1 ≤ R.frames; omega, by show 8 + (mL + 11) + 40 * d' ≤ R.locals; omega⟩) ⟨PcOK.blind, PcOK.atL c6 hP hS⟩ rfl (by rw [List.length_map]; exact hn) hl.1 ?_ (lv_room (hcat V)) hd ⟨c9, c10⟩
  show (As.reverse ++ rest).map (cv V) = _
  rw [List.map_append, List.map_reverse]

theorem E_lcallVi {S : SC} {own : String} {cc : ByteArray} {nL d pc : Nat} {ls : List (Option Value)} {w : AW} {Q : Nat → List (Option Value) → List Value → AW → Prop} {ix o ci n mL d' : Nat} {cn : String} {T : u_T} {N : Nat} {y : MethodName} {b : ByteArray} {ret : Option FieldType} {As rest st : List Value} {w1 : AW} {w2 : AW} {r : Int32} (hc : CVt own ix cn y b mL ret n) (hd : decode cc pc = .ok (.invokevirtual ix, 3)) (hm : CallOK (PC S) y b mL ret d' (.ref o :: As) w (some (.int r)) w1) (hdd : Nat.ble (d' + 1) d = true) (ho : (PE S).1[o]? = some ci) (hci : vwCl[ci]? = some (cn, T, N)) (hci2 : ci < 100) (hst : st = As.reverse ++ .ref o :: rest) (hn : As.length = n) (hcat : ∀ V : EV, ((rest.map (cv V)).map fun v => v.category).sum ≤ 8) (h80 : w2.1 80 = w.1 80 ∧ w2.2 80 = w.2 80) (hlt : ∀ o, o < 80 → w2.1 o = w1.1 o ∧ w2.2 o = w1.2 o)
    (k : E (PE S) own cc nL d (pc + 3) ls (.int r :: rest) w2 Q) : E (PE S) own cc nL d pc ls st w Q := E_lcallV hc hd hm hdd ho hci hci2 hst hn hcat h80 hlt k
theorem E_lcallSi {S : SC} {own : String} {cc : ByteArray} {nL d pc : Nat} {ls : List (Option Value)} {w : AW} {Q : Nat → List (Option Value) → List Value → AW → Prop} {ix n mL d' : Nat} {y : MethodName} {b : ByteArray} {ret : Option FieldType} {As rest st : List Value} {w1 w2 : AW} {r : Int32} (hc : CSt own ix y b mL ret n) (hd : decode cc pc = .ok (.invokestatic ix, 3)) (hm : CallOK (PC S) y b mL ret d' As w (some (.int r)) w1) (hdd : Nat.ble (d' + 1) d = true) (hst : st = As.reverse ++ rest) (hn : As.length = n) (hcat : ∀ V : EV, ((rest.map (cv V)).map fun v => v.category).sum ≤ 8) (h80 : w2.1 80 = w.1 80 ∧ w2.2 80 = w.2 80) (hlt : ∀ o, o < 80 → w2.1 o = w1.1 o ∧ w2.2 o = w1.2 o)
    (k : E (PE S) own cc nL d (pc + 3) ls (.int r :: rest) w2 Q) : E (PE S) own cc nL d pc ls st w Q := E_lcallS hc hd hm hdd hst hn hcat h80 hlt k
theorem E_lcallVv {S : SC} {own : String} {cc : ByteArray} {nL d pc : Nat} {ls : List (Option Value)} {w : AW} {Q : Nat → List (Option Value) → List Value → AW → Prop} {ix o ci n mL d' : Nat} {cn : String} {T : u_T} {N : Nat} {y : MethodName} {b : ByteArray} {ret : Option FieldType} {As rest st : List Value} {w1 : AW} {w2 : AW} (hc : CVt own ix cn y b mL ret n) (hd : decode cc pc = .ok (.invokevirtual ix, 3)) (hm : CallOK (PC S) y b mL ret d' (.ref o :: As) w none w1) (hdd : Nat.ble (d' + 1) d = true) (ho : (PE S).1[o]? = some ci) (hci : vwCl[ci]? = some (cn, T, N)) (hci2 : ci < 100) (hst : st = As.reverse ++ .ref o :: rest) (hn : As.length = n) (hcat : ∀ V : EV, ((rest.map (cv V)).map fun v => v.category).sum ≤ 8) (h80 : w2.1 80 = w.1 80 ∧ w2.2 80 = w.2 80) (hlt : ∀ o, o < 80 → w2.1 o = w1.1 o ∧ w2.2 o = w1.2 o)
    (k : E (PE S) own cc nL d (pc + 3) ls (rest) w2 Q) : E (PE S) own cc nL d pc ls st w Q := E_lcallV hc hd hm hdd ho hci hci2 hst hn hcat h80 hlt k
theorem E_lcallSv {S : SC} {own : String} {cc : ByteArray} {nL d pc : Nat} {ls : List (Option Value)} {w : AW} {Q : Nat → List (Option Value) → List Value → AW → Prop} {ix n mL d' : Nat} {y : MethodName} {b : ByteArray} {ret : Option FieldType} {As rest st : List Value} {w1 w2 : AW} (hc : CSt own ix y b mL ret n) (hd : decode cc pc = .ok (.invokestatic ix, 3)) (hm : CallOK (PC S) y b mL ret d' As w none w1) (hdd : Nat.ble (d' + 1) d = true) (hst : st = As.reverse ++ rest) (hn : As.length = n) (hcat : ∀ V : EV, ((rest.map (cv V)).map fun v => v.category).sum ≤ 8) (h80 : w2.1 80 = w.1 80 ∧ w2.2 80 = w.2 80) (hlt : ∀ o, o < 80 → w2.1 o = w1.1 o ∧ w2.2 o = w1.2 o)
    (k : E (PE S) own cc nL d (pc + 3) ls (rest) w2 Q) : E (PE S) own cc nL d pc ls st w Q := E_lcallS hc hd hm hdd hst hn hcat h80 hlt k
theorem ic_m1 : Int32.ofInt (-1) = (-1) := by decide
theorem ic_0 : Int32.ofInt 0 = 0 := by decide
theorem ic_1 : Int32.ofInt 1 = 1 := by decide
theorem ic_2 : Int32.ofInt 2 = 2 := by decide
theorem ic_3 : Int32.ofInt 3 = 3 := by decide
theorem ic_4 : Int32.ofInt 4 = 4 := by decide
theorem ic_5 : Int32.ofInt 5 = 5 := by decide
theorem bp_m9 : (Int8.ofInt (-9)).toInt32 = (-9) := by decide
theorem bp_m4 : (Int8.ofInt (-4)).toInt32 = (-4) := by decide
theorem bp_m3 : (Int8.ofInt (-3)).toInt32 = (-3) := by decide
theorem bp_m2 : (Int8.ofInt (-2)).toInt32 = (-2) := by decide
theorem bp_6 : (Int8.ofInt 6).toInt32 = 6 := by decide
theorem bp_7 : (Int8.ofInt 7).toInt32 = 7 := by decide
theorem bp_8 : (Int8.ofInt 8).toInt32 = 8 := by decide
theorem bp_9 : (Int8.ofInt 9).toInt32 = 9 := by decide
theorem bp_10 : (Int8.ofInt 10).toInt32 = 10 := by decide
theorem bp_11 : (Int8.ofInt 11).toInt32 = 11 := by decide
theorem bp_12 : (Int8.ofInt 12).toInt32 = 12 := by decide
theorem bp_16 : (Int8.ofInt 16).toInt32 = 16 := by decide
theorem bp_30 : (Int8.ofInt 30).toInt32 = 30 := by decide
theorem bp_37 : (Int8.ofInt 37).toInt32 = 37 := by decide
theorem bp_60 : (Int8.ofInt 60).toInt32 = 60 := by decide
theorem bp_61 : (Int8.ofInt 61).toInt32 = 61 := by decide
theorem bp_99 : (Int8.ofInt 99).toInt32 = 99 := by decide
theorem bp_100 : (Int8.ofInt 100).toInt32 = 100 := by decide
theorem bp_126 : (Int8.ofInt 126).toInt32 = 126 := by decide
theorem sp_186 : (Int16.ofInt 186).toInt32 = 186 := by decide
theorem sp_222 : (Int16.ofInt 222).toInt32 = 222 := by decide
theorem tb_0_2 {x : Int32} (h0 : ¬ x = 0) (h1 : ¬ x = 1) (h2 : ¬ x = 2) : x.toInt < 0 ∨ 2 < x.toInt := by
  have g0 : x.toInt ≠ 0 := fun q => h0 (Int32.toInt_inj.mp (q.trans (by decide)))
  have g1 : x.toInt ≠ 1 := fun q => h1 (Int32.toInt_inj.mp (q.trans (by decide)))
  have g2 : x.toInt ≠ 2 := fun q => h2 (Int32.toInt_inj.mp (q.trans (by decide)))
  omega
theorem tb_0_4 {x : Int32} (h0 : ¬ x = 0) (h1 : ¬ x = 1) (h2 : ¬ x = 2) (h3 : ¬ x = 3) (h4 : ¬ x = 4) : x.toInt < 0 ∨ 4 < x.toInt := by
  have g0 : x.toInt ≠ 0 := fun q => h0 (Int32.toInt_inj.mp (q.trans (by decide)))
  have g1 : x.toInt ≠ 1 := fun q => h1 (Int32.toInt_inj.mp (q.trans (by decide)))
  have g2 : x.toInt ≠ 2 := fun q => h2 (Int32.toInt_inj.mp (q.trans (by decide)))
  have g3 : x.toInt ≠ 3 := fun q => h3 (Int32.toInt_inj.mp (q.trans (by decide)))
  have g4 : x.toInt ≠ 4 := fun q => h4 (Int32.toInt_inj.mp (q.trans (by decide)))
  omega
theorem tb_1_4 {x : Int32} (h1 : ¬ x = 1) (h2 : ¬ x = 2) (h3 : ¬ x = 3) (h4 : ¬ x = 4) : x.toInt < 1 ∨ 4 < x.toInt := by
  have g1 : x.toInt ≠ 1 := fun q => h1 (Int32.toInt_inj.mp (q.trans (by decide)))
  have g2 : x.toInt ≠ 2 := fun q => h2 (Int32.toInt_inj.mp (q.trans (by decide)))
  have g3 : x.toInt ≠ 3 := fun q => h3 (Int32.toInt_inj.mp (q.trans (by decide)))
  have g4 : x.toInt ≠ 4 := fun q => h4 (Int32.toInt_inj.mp (q.trans (by decide)))
  omega
theorem lk_ne2 {x : Int32} {n : Int} {v : Int32} (h : ¬ x = v) (hv : v.toInt = n) : ¬ n = x.toInt := fun q => h (Int32.toInt_inj.mp (q.symm.trans hv.symm))
theorem lk_ne {x : Int32} {n : Int} {v : Int32} (h : ¬ x = v) (hv : v.toInt = n) : ¬ x.toInt = n := fun q => h (Int32.toInt_inj.mp (q.trans hv.symm))
