/-! 73: the table of what may come -/
def gI (lim : Int32) (N : Nat) : (Int32 × AW) → Option ((Int32 × AW) ⊕ (AW)) := fun s => match s with
  | (x, w) => (if lim ≤ x then (some (.inr w)) else (bd (fX12_isTaken N x w) (fun r => if r = 0 then (gd (inb x 64) (lw (setI w 16 x.toNatClampNeg 0) (fun w' => some (.inl ((x + 1), w'))))) else (bd2 (fX12_worthWith N x w) (fun r' w' => gd (inb x 64) (lw (setI w' 16 x.toNatClampNeg r') (fun w'' => some (.inl ((x + 1), w'')))))))))
def gS (c5 : Int32) (w : AW) : (Int32 × Int32) → Option ((Int32 × Int32) ⊕ (Int32)) := fun s => match s with
  | (x6, x7) => (if (w.1 0 12) ≤ x7 then (some (.inr x6)) else (gd (inb (((4 * c5) + x7) + 1) 64) (lw (w.1 16 (((4 * c5) + x7) + 1).toNatClampNeg) (fun v => bd (fX12_typeIts x7 5 w) (fun r => gd (inb c5 64) (if v ≤ (w.1 16 c5.toNatClampNeg) then (lw (x6 + (r * (w.1 16 c5.toNatClampNeg))) (fun v' => some (.inl (v', (x7 + 1))))) else (some (.inl ((x6 + (r * v)), (x7 + 1))))))))))
def gR (lim : Int32) (N : Nat) (c1 c4 : Int32) : (Int32 × AW) → Option ((Int32 × AW) ⊕ (AW)) := fun s => match s with
  | (x, w) => (if lim ≤ x then (some (.inr w)) else (gd (inb x 64) (lw (setI w 17 x.toNatClampNeg 0) (fun w1 => bd (fX12_isTaken N x w1) (fun r => if r = 0 then (some (.inl ((x + 1), w1))) else (bd (fX12_takenMany x w1) (fun r' => if r' ≤ (c1 - c4) then (bd (fX12_oddsOfTypes N w1) (fun r'' => lw ((4 - r'') * (w1.1 16 x.toNatClampNeg)) (fun v => bd (wh (gS x w1) N (v, 0)) (fun y => lw (setI w1 17 x.toNatClampNeg y) (fun w2 => some (.inl ((x + 1), w2))))))) else (some (.inl ((x + 1), w1))))))))))
def gC (lim : Int32) : (Int32 × AW) → Option ((Int32 × AW) ⊕ (AW)) := fun s => match s with
  | (x, w) => (if lim ≤ x then (some (.inr w)) else (gd (inb x 64) (lw (setI w 16 x.toNatClampNeg (w.1 17 x.toNatClampNeg)) (fun w1 => some (.inl ((x + 1), w1))))))
def gA (lim : Int32) (N : Nat) (c1 : Int32) : (Int32 × AW) → Option ((Int32 × AW) ⊕ (AW)) := fun s => match s with
  | (x, w) => (if c1 < x then (some (.inr w)) else (bd (wh (gR lim N c1 x) N (0, w)) (fun w1 => bd (wh (gC lim) N (0, w1)) (fun w2 => some (.inl ((x + 1), w2))))))
theorem gI_1 (N : Nat) (a b : Int32) : lbX12_ahead_63_1 N a b = gI 1 N := rfl
theorem gI_4 (N : Nat) (a b : Int32) : lbX12_ahead_63_6 N a b = gI 4 N := rfl
theorem gI_16 (N : Nat) (a b : Int32) : lbX12_ahead_63_11 N a b = gI 16 N := rfl
theorem gI_64 (N : Nat) (a b : Int32) : lbX12_ahead_63_16 N a b = gI 64 N := rfl
theorem gA_1 (N : Nat) (a b : Int32) : lbX12_ahead_104_2 N a b = gA 1 N a := rfl
theorem gA_4 (N : Nat) (a b : Int32) : lbX12_ahead_104_7 N a b = gA 4 N a := rfl
theorem gA_16 (N : Nat) (a b : Int32) : lbX12_ahead_104_12 N a b = gA 16 N a := rfl
theorem gA_64 (N : Nat) (a b : Int32) : lbX12_ahead_104_17 N a b = gA 64 N a := rfl
def TA (n o k : Nat) : Bool := TOl n o k || o == 16 || o == 17 || (o == 0 && (k == 32 || k == 33))
theorem TA_l {n o k : Nat} (h : TA n o k = false) : TOl n o k = false := by simp only [TA, Bool.or_eq_false_iff] at h; exact h.1.1.1
section
variable {n k : Nat} {J T : Nat → Nat → Nat} {L lost nig : Nat → Nat} {day col left N a0 : Nat} {z till : Int32} {pl : List Nat} {V : List Nat → Int}
theorem MBd.fra {w w' : AW} (h : MBd n J L lost nig day col left till pl w) (f : Fr (TA n) w w') : MBd n J L lost nig day col left till pl w' := by
  obtain ⟨h1, h2, h3, h4, h5⟩ := h
  refine ⟨fun j hj i hi => ?_, h2.fr f (fun k => rfl) (fun k => rfl) (fun k => rfl) rfl rfl rfl, fun i v hv => ?_, ?_, ?_⟩
  · rw [f.at' _ (by simp [TA, TOl, TO, TW]; omega)]; exact h1 j hj i hi
  · rw [f.at' _ rfl]; exact h3 i v hv
  · rw [f.at' _ rfl]; exact h4
  · rw [f.at' _ rfl]; exact h5
theorem TA_p {o k : Nat} (h : pM o k = true) (h1 : o ≠ 1) : TA n o k = false := by
  unfold TA; rw [TOl_p h h1]
  simp only [pM, Bool.or_eq_true, Bool.and_eq_true, beq_iff_eq, decide_eq_true_eq] at h
  simp; omega
def Tb (V : List Nat → Int) (od : Nat → Nat) (k a0 c : Nat) (w : AW) : Prop := ∀ t, t < 64 → tkF k 3 t = true → (dlF 3 t).length + c ≤ a0 → w.1 16 t = zI (aC V od k c (dlF 3 t))
theorem four_pow {a : Nat} (h : a ≤ 3) : 1 ≤ 4 ^ a ∧ 4 ^ a ≤ 64 := by
  have : a = 0 ∨ a = 1 ∨ a = 2 ∨ a = 3 := by omega
  rcases this with rfl | rfl | rfl | rfl <;> decide
theorem dl_in {t : Nat} (hk : k ≤ 3) (ht : t < 64) (hv : tkF k 3 t = true) (hl : (dlF 3 t).length ≤ a0) : t < 4 ^ a0 := by
  have h := (dl_1 k (by omega) t ht hv).2.2.1
  have : 4 ^ (dlF 3 t).length ≤ 4 ^ a0 := Nat.pow_le_pow_right (by omega) hl
  omega
theorem gI_ev {w : AW} (ok : okT k T) (b : bL L lost nig day col left) (bj : bJ n J) (hm : MBd n J L lost nig day col left till pl w) (hT : MTy k T z w) (ha : a0 ≤ 3) (hn : n + a0 ≤ 5) (hN : 800 < N) :
    ∃ w', wh (gI (nI (4 ^ a0)) N) N (0, w) = some w' ∧ Fr (TA n) w w' ∧ Tb (VX (dyS (sOf L lost nig) day) (L 1) col left (L 2) n J (typR T day)) (T 5) k a0 0 w' := by
  obtain ⟨p1, p2⟩ := four_pow ha
  have hk := ok.1
  have key := wh_cnt (body := gI (nI (4 ^ a0)) N) (n := 4 ^ a0)
    (I := fun i s => ∃ w', s = (nI i, w') ∧ Fr (TA n) w w' ∧ ∀ t, t < i → tkF k 3 t = true → w'.1 16 t = zI (VX (dyS (sOf L lost nig) day) (L 1) col left (L 2) n J (typR T day) (dlF 3 t)))
    (Q := fun w' => Fr (TA n) w w' ∧ ∀ t, t < 4 ^ a0 → tkF k 3 t = true → w'.1 16 t = zI (VX (dyS (sOf L lost nig) day) (L 1) col left (L 2) n J (typR T day) (dlF 3 t)))
    ?_ ?_ (N := N) (i := 0) (s := (0, w)) ⟨w, rfl, Fr.rf, fun t ht => by omega⟩ (by omega) (by omega)
  · obtain ⟨w', e1, e2, e3⟩ := key
    exact ⟨w', e1, e2, fun t ht hv hl => e3 t (dl_in hk ht hv (by omega)) hv⟩
  · rintro i s hi ⟨w', rfl, hF, h3⟩
    have hT' := hT.fr hF (fun k => rfl) rfl rfl
    have it := isTaken_ev (N := N) hT'.1 hk (by omega) (show i < 64 by omega)
    have hnn : ¬ nI (4 ^ a0) ≤ nI i := by rw [nle (by omega) (by omega)]; omega
    have hg : ∀ {β : Type} {k : Option β}, gd (inb (nI i) 64) k = k := fun {β k} => gd_n (by omega) (by omega)
    have nt : (nI i).toNatClampNeg = i := ntn (by omega)
    have i1 : nI i + 1 = nI (i + 1) := by rw [n1, nadd]
    by_cases hv : tkF k 3 i = true
    · rw [if_pos hv] at it
      obtain ⟨w2, g1, g2⟩ := worthWith_ev (N := N) ok b bj (hm.fra hF) hT' (show i < 64 by omega) hv (by have := dl_3 a0 (by omega) i hi; omega) hN
      refine ⟨_, ?_, setI w2 16 i (zI (VX (dyS (sOf L lost nig) day) (L 1) col left (L 2) n J (typR T day) (dlF 3 i))), rfl, hF.tr ((g2.wd (fun o k q => TA_l q)).tr (Fr.set (by simp [TA]))), fun t ht htv => ?_⟩
      · simp only [gI, hnn, if_false, it, bd_some', show ¬ ((1 : Int32) = 0) by decide, g1, bd2_some', hg, nt, lw_eq, i1]
      · by_cases hq : t = i
        · subst hq; simp [setI1]
        · simp only [setI1, hq, and_false, if_false]
          rw [g2.at' _ rfl]; exact h3 t (by omega) htv
    · rw [if_neg hv] at it
      refine ⟨_, ?_, setI w' 16 i 0, rfl, hF.tr (Fr.set (by simp [TA])), fun t ht htv => ?_⟩
      · simp only [gI, hnn, if_false, it, bd_some', if_true, hg, nt, lw_eq, i1]
      · by_cases hq : t = i
        · subst hq; exact absurd htv hv
        · simp only [setI1, hq, and_false, if_false]; exact h3 t (by omega) htv
  · rintro s ⟨w', rfl, hF, h3⟩
    exact ⟨w', by simp only [gI, Int32.le_refl, if_true], hF, h3⟩
theorem gS_ev {w : AW} {c t : Nat} (ok : okT k T) (hT : MTy k T z w) (hTb : Tb V (T 5) k a0 c w) (ha : a0 ≤ 3) (ht : t < 64) (hv : tkF k 3 t = true) (hl : (dlF 3 t).length + (c + 1) ≤ a0)
    (hB : ∀ l : List Nat, (∀ x ∈ l, x < k) → l.length + c ≤ a0 → -1000000 ≤ aC V (T 5) k c l ∧ aC V (T 5) k c l ≤ 1000000) (hN : 20 < N) :
    wh (gS (nI t) w) N ((4 - nI (sN (T 5) k)) * (w.1 16 t), 0) = some (zI (aC V (T 5) k (c + 1) (dlF 3 t))) := by
  have hk := ok.1
  obtain ⟨d1, d2, d3, d4⟩ := dl_1 k (by omega) t ht hv
  have ht16 : t < 16 := by
    have : 4 ^ (dlF 3 t).length ≤ 4 ^ 2 := Nat.pow_le_pow_right (by omega) (by omega)
    have : (4 : Nat) ^ 2 = 16 := by decide
    omega
  have e16 := hTb t ht hv (by omega)
  have hA := hB (dlF 3 t) d1 (by omega)
  have key := wh_for (body := gS (nI t) w) (fun i => (zI (aC V (T 5) k c (dlF 3 t) * ((4 : Int) - (sN (T 5) k : Int)) + zS (fun x => (T 5 x : Int) * (if aC V (T 5) k c (dlF 3 t ++ [x]) < aC V (T 5) k c (dlF 3 t) then aC V (T 5) k c (dlF 3 t) else aC V (T 5) k c (dlF 3 t ++ [x]))) i), nI i)) (n := k) (e := zI (aC V (T 5) k (c + 1) (dlF 3 t))) ?_ ?_ (N := N) (i := 0) (Nat.zero_le _) (by omega)
  · rw [← key]
    congr 2
    rw [e16, show (4 : Int32) = zI 4 from rfl, zI_nI, zsub, zmul]
    congr 1
    simp only [zS]
    rw [Int.mul_comm]; omega
  · intro x hx
    obtain ⟨f1, f2⟩ := dl_2 (show k < 4 by omega) hx ht16 hv
    have ex := hTb (4 * t + x + 1) (by omega) f1 (by rw [f2]; simp; omega)
    rw [f2] at ex
    have hBx := hB (dlF 3 t ++ [x]) (fun y hy => by
      rcases List.mem_append.mp hy with hy | hy
      · exact d1 y hy
      · simp at hy; omega) (by simp; omega)
    have i5 := typeIts_ev ok hT hx (show 5 < 6 by omega)
    rw [show nI 5 = 5 from rfl] at i5
    have ei : 4 * nI t + nI x + 1 = nI (4 * t + x + 1) := by rw [n4, n1, nmul, nadd, nadd]
    have hnn : ¬ nI k ≤ nI x := by rw [nle (by omega) (by omega)]; omega
    have x1 : nI x + 1 = nI (x + 1) := by rw [n1, nadd]
    simp only [gS, hT.1, hnn, if_false, ei, gd_n (show 4 * t + x + 1 < 64 by omega) (show 4 * t + x + 1 ≤ 2147483647 by omega), ntn (show 4 * t + x + 1 ≤ 2147483647 by omega), ex, lw_eq, i5, bd_some', gd_n ht (show t ≤ 2147483647 by omega), ntn (show t ≤ 2147483647 by omega), e16, x1]
    have hle : (zI (aC V (T 5) k c (dlF 3 t ++ [x])) ≤ zI (aC V (T 5) k c (dlF 3 t))) = (aC V (T 5) k c (dlF 3 t ++ [x]) ≤ aC V (T 5) k c (dlF 3 t)) := zle (by omega) (by omega) (by omega) (by omega)
    generalize hAA : aC V (T 5) k c (dlF 3 t) = A at *
    have fin : ∀ u : Int, u = (if aC V (T 5) k c (dlF 3 t ++ [x]) < A then A else aC V (T 5) k c (dlF 3 t ++ [x])) → zI (A * (4 - (sN (T 5) k : Int)) + zS (fun x => (T 5 x : Int) * (if aC V (T 5) k c (dlF 3 t ++ [x]) < A then A else aC V (T 5) k c (dlF 3 t ++ [x]))) x) + nI (T 5 x) * zI u = zI (A * (4 - (sN (T 5) k : Int)) + zS (fun x => (T 5 x : Int) * (if aC V (T 5) k c (dlF 3 t ++ [x]) < A then A else aC V (T 5) k c (dlF 3 t ++ [x]))) (x + 1)) := by
      intro u hu
      rw [zI_nI, zmul, zadd, hu]
      congr 1
      simp only [zS]; omega
    by_cases hq : aC V (T 5) k c (dlF 3 t ++ [x]) ≤ A
    · rw [if_pos (hle ▸ hq), fin A (by split <;> omega)]
    · rw [if_neg (hle ▸ hq), fin _ (by rw [if_neg (by omega)])]
  · simp only [gS, hT.1, Int32.le_refl, if_true, aC]
theorem gR_ev {w : AW} {c : Nat} (ok : okT k T) (hT : MTy k T z w) (hTb : Tb V (T 5) k a0 c w) (ha : a0 ≤ 3) (hc : c + 1 ≤ a0)
    (hB : ∀ l : List Nat, (∀ x ∈ l, x < k) → l.length + c ≤ a0 → -1000000 ≤ aC V (T 5) k c l ∧ aC V (T 5) k c l ≤ 1000000) (hN : 100 < N) :
    ∃ w', wh (gR (nI (4 ^ a0)) N (nI a0) (nI (c + 1))) N (0, w) = some w' ∧ Fr (fun o _ => o == 17) w w' ∧ ∀ t, t < 64 → tkF k 3 t = true → (dlF 3 t).length + (c + 1) ≤ a0 → w'.1 17 t = zI (aC V (T 5) k (c + 1) (dlF 3 t)) := by
  obtain ⟨p1, p2⟩ := four_pow ha
  have hk := ok.1
  have key := wh_cnt (body := gR (nI (4 ^ a0)) N (nI a0) (nI (c + 1))) (n := 4 ^ a0)
    (I := fun i s => ∃ w', s = (nI i, w') ∧ Fr (fun o _ => o == 17) w w' ∧ ∀ t, t < i → tkF k 3 t = true → (dlF 3 t).length + (c + 1) ≤ a0 → w'.1 17 t = zI (aC V (T 5) k (c + 1) (dlF 3 t)))
    (Q := fun w' => Fr (fun o _ => o == 17) w w' ∧ ∀ t, t < 4 ^ a0 → tkF k 3 t = true → (dlF 3 t).length + (c + 1) ≤ a0 → w'.1 17 t = zI (aC V (T 5) k (c + 1) (dlF 3 t)))
    ?_ ?_ (N := N) (i := 0) (s := (0, w)) ⟨w, rfl, Fr.rf, fun t ht => by omega⟩ (by omega) (by omega)
  · obtain ⟨w', e1, e2, e3⟩ := key
    exact ⟨w', e1, e2, fun t ht hv hl => e3 t (dl_in hk ht hv (by omega)) hv hl⟩
  · rintro i s hi ⟨w', rfl, hF, h3⟩
    have F1 : Fr (fun o _ => o == 17) w' (setI w' 17 i 0) := Fr.set (by simp)
    have F2 := hF.tr F1
    have hT' := hT.fr F2 (fun k => rfl) rfl rfl
    have hTb' : Tb V (T 5) k a0 c (setI w' 17 i 0) := fun t a b d => by rw [F2.at' _ rfl]; exact hTb t a b d
    have it := isTaken_ev (N := N) hT'.1 hk (by omega) (show i < 64 by omega)
    have hnn : ¬ nI (4 ^ a0) ≤ nI i := by rw [nle (by omega) (by omega)]; omega
    have hg : ∀ {β : Type} {k : Option β}, gd (inb (nI i) 64) k = k := fun {β k} => gd_n (by omega) (by omega)
    have nt : (nI i).toNatClampNeg = i := ntn (by omega)
    have i1 : nI i + 1 = nI (i + 1) := by rw [n1, nadd]
    have ea : nI a0 - nI (c + 1) = nI (a0 - (c + 1)) := nsub hc
    have old : ∀ t, t < i → tkF k 3 t = true → (dlF 3 t).length + (c + 1) ≤ a0 → (setI w' 17 i 0).1 17 t = zI (aC V (T 5) k (c + 1) (dlF 3 t)) := fun t ht a b => by
      simp only [setI1, show ¬ t = i by omega, and_false, if_false]; exact h3 t ht a b
    generalize hw2 : setI w' 17 i 0 = w2 at *
    by_cases hv : tkF k 3 i = true
    · rw [if_pos hv] at it
      have tm := takenMany_ev (w := w2) (show i < 64 by omega)
      obtain ⟨d1, d2, d3, d4⟩ := dl_1 k (by omega) i (by omega) hv
      rw [d2] at tm
      by_cases hl : (dlF 3 i).length + (c + 1) ≤ a0
      · have hle : nI (dlF 3 i).length ≤ nI (a0 - (c + 1)) := by rw [nle (by omega) (by omega)]; omega
        have od := oddsM_ev (N := N) ok hT' (by omega)
        have gs := gS_ev (N := N) ok hT' hTb' ha (show i < 64 by omega) hv hl hB (by omega)
        refine ⟨_, ?_, setI w2 17 i (zI (aC V (T 5) k (c + 1) (dlF 3 i))), rfl, F2.tr (Fr.set (by simp)), fun t ht a b => ?_⟩
        · simp only [gR, hnn, if_false, hg, nt, lw_eq, hw2, it, bd_some', show ¬ ((1 : Int32) = 0) by decide, tm, ea, hle, if_true, od, gs, i1]
        · by_cases hq : t = i
          · subst hq; simp [setI1]
          · simp only [setI1, hq, and_false, if_false]; exact old t (by omega) a b
      · have hle : ¬ nI (dlF 3 i).length ≤ nI (a0 - (c + 1)) := by rw [nle (by omega) (by omega)]; omega
        refine ⟨_, ?_, w2, rfl, F2, fun t ht a b => ?_⟩
        · simp only [gR, hnn, if_false, hg, nt, lw_eq, hw2, it, bd_some', show ¬ ((1 : Int32) = 0) by decide, tm, ea, hle, i1]
        · by_cases hq : t = i
          · subst hq; exact absurd b hl
          · exact old t (by omega) a b
    · rw [if_neg hv] at it
      refine ⟨_, ?_, w2, rfl, F2, fun t ht a b => ?_⟩
      · simp only [gR, hnn, if_false, hg, nt, lw_eq, hw2, it, bd_some', if_true, i1]
      · by_cases hq : t = i
        · subst hq; exact absurd a hv
        · exact old t (by omega) a b
  · rintro s ⟨w', rfl, hF, h3⟩
    exact ⟨w', by simp only [gR, Int32.le_refl, if_true], hF, h3⟩
theorem gC_ev {w : AW} (ha : a0 ≤ 3) (hN : 100 < N) : ∃ w', wh (gC (nI (4 ^ a0))) N (0, w) = some w' ∧ Fr (fun o _ => o == 16) w w' ∧ ∀ t, t < 4 ^ a0 → w'.1 16 t = w.1 17 t := by
  obtain ⟨p1, p2⟩ := four_pow ha
  have key := wh_cnt (body := gC (nI (4 ^ a0))) (n := 4 ^ a0)
    (I := fun i s => ∃ w', s = (nI i, w') ∧ Fr (fun o _ => o == 16) w w' ∧ ∀ t, t < i → w'.1 16 t = w.1 17 t)
    (Q := fun w' => Fr (fun o _ => o == 16) w w' ∧ ∀ t, t < 4 ^ a0 → w'.1 16 t = w.1 17 t)
    ?_ ?_ (N := N) (i := 0) (s := (0, w)) ⟨w, rfl, Fr.rf, fun t ht => by omega⟩ (by omega) (by omega)
  · obtain ⟨w', e1, e2⟩ := key; exact ⟨w', e1, e2⟩
  · rintro i s hi ⟨w', rfl, hF, h3⟩
    have hnn : ¬ nI (4 ^ a0) ≤ nI i := by rw [nle (by omega) (by omega)]; omega
    have e17 : w'.1 17 i = w.1 17 i := hF.at' _ rfl
    refine ⟨(nI (i + 1), setI w' 16 i (w.1 17 i)), ?_, _, rfl, hF.tr (Fr.set (by simp)), fun t ht => ?_⟩
    · simp (disch := omega) only [gC, hnn, if_false, gd_n, ntn, e17, lw_eq, n1, nadd]
    · by_cases hq : t = i
      · subst hq; simp [setI1]
      · simp only [setI1, hq, and_false, if_false]; exact h3 t (by omega)
  · rintro s ⟨w', rfl, hF, h3⟩
    exact ⟨w', by simp only [gC, Int32.le_refl, if_true], hF, h3⟩
theorem gA_ev {w : AW} (ok : okT k T) (hT : MTy k T z w) (hTb : Tb V (T 5) k a0 0 w) (ha : a0 ≤ 3)
    (hB : ∀ c (l : List Nat), (∀ x ∈ l, x < k) → l.length + c ≤ a0 → -1000000 ≤ aC V (T 5) k c l ∧ aC V (T 5) k c l ≤ 1000000) (hN : 100 < N) :
    ∃ w', wh (gA (nI (4 ^ a0)) N (nI a0)) N (1, w) = some w' ∧ Fr (TA n) w w' ∧ Tb V (T 5) k a0 a0 w' := by
  obtain ⟨p1, p2⟩ := four_pow ha
  have hk := ok.1
  have key := wh_cnt (body := gA (nI (4 ^ a0)) N (nI a0)) (n := a0)
    (I := fun i s => ∃ w', s = (nI (i + 1), w') ∧ Fr (TA n) w w' ∧ Tb V (T 5) k a0 i w')
    (Q := fun w' => Fr (TA n) w w' ∧ Tb V (T 5) k a0 a0 w')
    ?_ ?_ (N := N) (i := 0) (s := (1, w)) ⟨w, rfl, Fr.rf, hTb⟩ (by omega) (by omega)
  · obtain ⟨w', e1, e2⟩ := key; exact ⟨w', e1, e2⟩
  · rintro i s hi ⟨w', rfl, hF, h3⟩
    have hnn : ¬ nI a0 < nI (i + 1) := by rw [nlt (by omega) (by omega)]; omega
    obtain ⟨w1, g1, g2, g3⟩ := gR_ev (N := N) ok (hT.fr hF (fun k => rfl) rfl rfl) h3 ha (show i + 1 ≤ a0 by omega) (hB i) hN
    obtain ⟨w2, c1, c2, c3⟩ := gC_ev (N := N) (w := w1) ha hN
    refine ⟨(nI (i + 1 + 1), w2), ?_, w2, rfl, hF.tr ((g2.wd (fun o k q => by simp only [TA, Bool.or_eq_false_iff] at q; exact q.1.2)).tr (c2.wd (fun o k q => by simp only [TA, Bool.or_eq_false_iff] at q; exact q.1.1.2))), fun t ht hv hl => ?_⟩
    · simp only [gA, hnn, if_false, g1, bd_some', c1]
      rw [show nI (i + 1) + 1 = nI (i + 1 + 1) by rw [n1, nadd]]
    · rw [c3 t (dl_in hk ht hv (by omega))]; exact g3 t ht hv hl
  · rintro s ⟨w', rfl, hF, h3⟩
    refine ⟨w', ?_, hF, h3⟩
    have : nI a0 < nI (a0 + 1) := by rw [nlt (by omega) (by omega)]; omega
    simp only [gA, this, if_true]
end
