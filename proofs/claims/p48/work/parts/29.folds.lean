/-! 29: both go through the same orders and find the same -/
def uE (st c0 l0 : Nat) (J : Nat → Nat → Nat) (R : Nat → Nat) (u was : Nat) : List Nat → Nat
  | [] => u
  | j :: l => uE st c0 l0 J R (uB st c0 l0 J R u was j) (J 2 j) l
def wE (J : Nat → Nat → Nat) (was : Nat) : List Nat → Nat
  | [] => was
  | j :: l => wE J (J 2 j) l
theorem uE_app {st c0 l0 : Nat} {J : Nat → Nat → Nat} {R : Nat → Nat} : ∀ {l l' : List Nat} {u was : Nat}, uE st c0 l0 J R u was (l ++ l') = uE st c0 l0 J R (uE st c0 l0 J R u was l) (wE J was l) l' := by
  intro l
  induction l with
  | nil => intro l' u was; rfl
  | cons j l ih => intro l' u was; exact ih
theorem wE_app {J : Nat → Nat → Nat} : ∀ {l l' : List Nat} {was : Nat}, wE J was (l ++ l') = wE J (wE J was l) l' := by
  intro l
  induction l with
  | nil => intro l' was; rfl
  | cons j l ih => intro l' was; exact ih
theorem cL_app {dy : Nat → Nat} {st c0 l0 : Nat} {J : Nat → Nat → Nat} {R : Nat → Nat} {ls : Nat → Nat → Nat} : ∀ {l l' : List Nat} {u was : Nat}, cL dy st c0 l0 J R ls u was (l ++ l') = cL dy st c0 l0 J R ls u was l + cL dy st c0 l0 J R ls (uE st c0 l0 J R u was l) (wE J was l) l' := by
  intro l
  induction l with
  | nil => intro l' u was; simp [cL, uE, wE]
  | cons j l ih => intro l' u was; simp only [List.cons_append, cL, uE, wE, ih, Nat.add_assoc]
theorem take_one {l : List Nat} {i : Nat} (h : i < l.length) : l.take (i + 1) = l.take i ++ [lf l i] := by
  rw [List.take_add_one, getD_some h]; rfl
theorem uE_take {st c0 l0 : Nat} {J : Nat → Nat → Nat} {R : Nat → Nat} {l : List Nat} : ∀ {i : Nat}, i ≤ l.length → uE st c0 l0 J R 0 0 (l.take i) = uN st c0 l0 J R (lf l) i ∧ wE J 0 (l.take i) = wasN J (lf l) i := by
  intro i
  induction i with
  | zero => intro _; exact ⟨rfl, rfl⟩
  | succ i ih =>
    intro h
    obtain ⟨a, b⟩ := ih (by omega)
    rw [take_one (by omega), uE_app, wE_app, a, b]
    exact ⟨rfl, rfl⟩
def sN (f : Nat → Nat) : Nat → Nat
  | 0 => 0
  | n + 1 => sN f n + f n
theorem cL_take {dy : Nat → Nat} {st c0 l0 : Nat} {J : Nat → Nat → Nat} {R : Nat → Nat} {ls : Nat → Nat → Nat} {l : List Nat} : ∀ {i : Nat}, i ≤ l.length → cL dy st c0 l0 J R ls 0 0 (l.take i) = sN (fun k => ls (lf l k) (dy (uN st c0 l0 J R (lf l) (k + 1)))) i := by
  intro i
  induction i with
  | zero => intro _; rfl
  | succ i ih =>
    intro h
    obtain ⟨a, b⟩ := uE_take (st := st) (c0 := c0) (l0 := l0) (J := J) (R := R) (l := l) (i := i) (by omega)
    rw [take_one (by omega), cL_app, ih (by omega), a, b]
    simp only [cL, sN, uN, Nat.add_zero]
theorem cL_sum {dy : Nat → Nat} {st c0 l0 : Nat} {J : Nat → Nat → Nat} {R : Nat → Nat} {ls : Nat → Nat → Nat} {l : List Nat} : cL dy st c0 l0 J R ls 0 0 l = sN (fun k => ls (lf l k) (dy (uN st c0 l0 J R (lf l) (k + 1)))) l.length := by
  have := cL_take (dy := dy) (st := st) (c0 := c0) (l0 := l0) (J := J) (R := R) (ls := ls) (l := l) (i := l.length) (Nat.le_refl _)
  rwa [List.take_length] at this
/-- together, over a list -/
def sL (f : Nat → Nat) : List Nat → Nat
  | [] => 0
  | j :: l => f j + sL f l
theorem sL_perm {f : Nat → Nat} {l l' : List Nat} (h : l.Perm l') : sL f l = sL f l' := by
  induction h with
  | nil => rfl
  | cons x _ ih => simp only [sL, ih]
  | swap x y l => simp only [sL]; omega
  | trans _ _ a b => exact a.trans b
theorem sL_app {f : Nat → Nat} : ∀ {l l' : List Nat}, sL f (l ++ l') = sL f l + sL f l' := by
  intro l
  induction l with
  | nil => intro l'; simp [sL]
  | cons j l ih => intro l'; simp only [List.cons_append, sL, ih]; omega
theorem sN_sL {f : Nat → Nat} {l : List Nat} : sN (fun k => f (lf l k)) l.length = sL f l := by
  have : ∀ i, i ≤ l.length → sN (fun k => f (lf l k)) i = sL f (l.take i) := by
    intro i
    induction i with
    | zero => intro _; rfl
    | succ i ih =>
      intro h
      rw [take_one (by omega), sL_app, sN, ih (by omega)]
      simp [sL]
  have := this l.length (Nat.le_refl _)
  rwa [List.take_length] at this
theorem cost0 {dy : Nat → Nat} {st c0 l0 fine : Nat} {J : Nat → Nat → Nat} {n : Nat} {l : List Nat} : (cL dy st c0 l0 J (J 1) (lsA fine J n 0) 0 0 l : Int) = (sL (J 4) l : Int) - wN dy st c0 l0 fine J (J 1) (lf l) l.length := by
  rw [cL_sum, ← sN_sL]
  generalize l.length = m
  induction m with
  | zero => rfl
  | succ m ih =>
    simp only [sN, wN, Int.natCast_add, ih]
    have := vOf_le (fine := fine) (J := J) (j := lf l m) (e := dy (uN st c0 l0 J (J 1) (lf l) (m + 1)))
    simp only [lsA, if_true]
    omega
theorem cost1 {dy : Nat → Nat} {st c0 l0 fine : Nat} {J : Nat → Nat → Nat} {n : Nat} {l : List Nat} : cL dy st c0 l0 J (J 1) (lsA fine J n 1) 0 0 l = ltN dy st c0 l0 J (J 1) (lf l) l.length := by
  rw [cL_sum]
  generalize l.length = m
  induction m with
  | zero => rfl
  | succ m ih =>
    simp only [sN, ltN, ih]
    simp [lsA]
theorem foldl_rel {α β γ : Type} {f : α → γ → α} {g : β → γ → β} (R : α → β → Prop) : ∀ {l : List γ} {a : α} {b : β}, R a b → (∀ a b x, x ∈ l → R a b → R (f a x) (g b x)) → R (l.foldl f a) (l.foldl g b) := by
  intro l
  induction l with
  | nil => intro a b h _; exact h
  | cons x l ih =>
    intro a b h hs
    exact ih (hs a b x List.mem_cons_self h) (fun a b y hy => hs a b y (List.mem_cons_of_mem _ hy))
theorem prm_ne {n b : Nat} (hn : n ≤ 6) (hb : b ≤ 6) : ∃ p l, prm n b = p :: l := by
  have := (chk_prm1 hn hb).2
  cases h : prm n b with
  | nil => rw [h] at this; cases this
  | cons p l => exact ⟨p, l, rfl⟩
/-- the most of worth and the least of loss are told by the same order -/
theorem best_eq {W : List Nat → Int} {c : List Nat → Nat} {C : Nat} {L : List (List Nat)} (hne : L ≠ []) (h : ∀ p ∈ L, (c p : Int) = C - W p) (h1 : ∀ p ∈ L, -100000 ≤ W p) (h2 : ∀ p ∈ L, c p < 1000000) :
    (L.foldl (bestG W) (-2147483648, [])) = ((C : Int) - ((L.foldl (minG c []) (1000000, [])).1 : Int), (L.foldl (minG c []) (1000000, [])).2) ∧ (L.foldl (minG c []) (1000000, [])).1 < 1000000 := by
  cases L with
  | nil => exact absurd rfl hne
  | cons p l =>
    rw [List.foldl_cons, List.foldl_cons]
    have hp := h p List.mem_cons_self
    have hp1 := h1 p List.mem_cons_self
    have hp2 := h2 p List.mem_cons_self
    have e1 : bestG W (-2147483648, []) p = (W p, p) := if_pos (by show (-2147483648 : Int) < W p; omega)
    have e2 : minG c [] (1000000, []) p = (c p, p) := if_pos hp2
    rw [e1, e2]
    have := foldl_rel (f := bestG W) (g := minG c []) (fun a b => a = ((C : Int) - (b.1 : Int), b.2) ∧ b.1 < 1000000) (l := l) (a := (W p, p)) (b := (c p, p)) ⟨by rw [hp]; simp; omega, hp2⟩ (fun a b q hq hr => by
      obtain ⟨rfl, hb⟩ := hr
      have hq0 := h q (List.mem_cons_of_mem _ hq)
      have hq2 := h2 q (List.mem_cons_of_mem _ hq)
      by_cases hc : c q < b.1
      · have f1 : bestG W ((C : Int) - (b.1 : Int), b.2) q = (W q, q) := if_pos (by show (C : Int) - (b.1 : Int) < W q; omega)
        have f2 : minG c [] b q = (c q, q) := if_pos hc
        rw [f1, f2]
        exact ⟨by rw [hq0]; simp; omega, hq2⟩
      · have f1 : bestG W ((C : Int) - (b.1 : Int), b.2) q = ((C : Int) - (b.1 : Int), b.2) := if_neg (by show ¬ (C : Int) - (b.1 : Int) < W q; omega)
        have f2 : minG c [] b q = b := if_neg hc
        rw [f1, f2]
        exact ⟨rfl, hb⟩)
    exact this
theorem rmX_rmB {n b : Nat} (hb : b < n ∨ b = 6) (hn : n ≤ 6) : rmX 0 n (if b < n then 1 <<< b else 0) = rmB n b := by
  unfold rmX rmB
  rw [Nat.sub_zero, ← List.range_eq_range']
  apply List.filter_congr
  intro a ha
  simp only [List.mem_range] at ha
  by_cases h : b < n
  · rw [if_pos h, Nat.one_shiftLeft, Nat.testBit_two_pow]
    by_cases hab : a = b
    · subst hab; simp
    · have hba : ¬ b = a := fun q => hab q.symm
      simp [hab, hba]
  · rw [if_neg h]; simp; omega
theorem has_ev {o n : Nat} {bI : Int32} {w : AW} {b : Nat} (h0 : w.1 o 0 = nI n) (hn : n ≤ 6) (hb : (bI = -9 ∧ b = 6) ∨ (bI = nI b ∧ b < n)) : fX4_has o bI w = some (nI (if b < n then 1 else 0)) := by
  rcases hb with ⟨rfl, rfl⟩ | ⟨rfl, hb⟩
  · rw [if_neg (by omega)]; rfl
  · rw [if_pos hb]
    simp (disch := omega) only [fX4_has, n0, n1, n2, n3, n4, n5, n6, n7, n8, n9, n10, n13, n16, n18, n20, n30, n32, n40, n48, n57, n59, n60, n64, n97, n99, n122, n126, n186, n200, n1000000, nadd, nmul, nlt, nle, neq, ntn, gd_n, h0, if_neg (show ¬ b < 0 by omega), if_neg (show ¬ n ≤ b by omega)]
def TL (o k : Nat) : Bool := (o == 49) || (o == 50) || (o == 51)
theorem TL_o {o : Nat} (ho : o = 2 ∨ o = 61) : ∀ i, i < 6 → ∀ k, TL (o + i) k = false := by
  intro i hi k
  have h1 : (o + i == 49) = false := by simp; omega
  have h2 : (o + i == 50) = false := by simp; omega
  have h3 : (o + i == 51) = false := by simp; omega
  simp [TL, h1, h2, h3]
theorem leastLost_ev {dy : Nat → Nat} {st c0 l0 fine odds o n aim N b : Nat} {bI : Int32} {J : Nat → Nat → Nat} {w : AW} (bc : bC dy st c0 l0 fine odds) (bj : bJ n J) (hn : n ≤ 6) (ho : o = 2 ∨ o = 61) (ha : aim ≤ 2) (hN : 20 < N)
    (hb : (bI = -9 ∧ b = 6) ∨ (bI = nI b ∧ b < n)) (hC : CCo dy st c0 l0 fine odds w) (hJ : CJo o n J w) :
    ∃ w' le ch, fX5_leastLost N (nI aim) o bI w = some (nI le, w') ∧ Fr TL w w' ∧ rowL (w'.1 51) ch ∧ le ≤ 10000000 ∧ (le, ch) = (prm n b).foldl (minG (cL dy st c0 l0 J (J 1) (lsA fine J n aim) 0 0) []) (1000000, []) := by
  have hb' : b < n ∨ b = 6 := by rcases hb with ⟨-, h⟩ | ⟨-, h⟩ <;> omega
  have hrm := rmX_rmB hb' hn
  have F1 : Fr TL w (setI w 49 3 (nI aim)) := Fr.set (by simp [TL])
  have F3 : Fr TL w (setI (setI w 49 3 (nI aim)) 49 5 (nI 1000000)) := F1.tr (Fr.set (by simp [TL]))
  generalize hw3 : setI (setI w 49 3 (nI aim)) 49 5 (nI 1000000) = w3 at *
  have hJ3 := hJ.fr F3 (TL_o ho)
  have hh := has_ev (w := w3) hJ3.1 hn hb
  have hlen : (rmB n b).length = if b < n then n - 1 else n := by
    by_cases h : b < n
    · rw [if_pos h]
      have hmem : b ∈ List.range n := by simpa using h
      have : rmB n b = (List.range n).erase b := by
        rw [List.Nodup.erase_eq_filter List.nodup_range]
        unfold rmB
        apply List.filter_congr
        intro a _
        rfl
      rw [this, List.length_erase_of_mem hmem, List.length_range]
    · rw [if_neg h, rmB_all (by omega), List.length_range]
  have hlN := rmB_len n b
  have F4 : Fr TL w (setI w3 49 4 (nI (rmB n b).length)) := F3.tr (Fr.set (by simp [TL]))
  generalize hw4 : setI w3 49 4 (nI (rmB n b).length) = w4 at *
  have g4 : w4.1 49 3 = nI aim := by rw [← hw4, ← hw3]; simp [setI1]
  have g5 : w4.1 49 4 = nI (([] : List Nat).length + (rmB n b).length) := by rw [← hw4]; simp [setI1]
  have g6 : w4.1 49 5 = nI 1000000 := by rw [← hw4, ← hw3]; simp [setI1]
  have hg : (if b < n then 1 <<< b else 0) < 64 := by
    have := btlt (m := 0) (j := b % 6) (by omega) (by omega)
    split
    · rw [Nat.mod_eq_of_lt (by omega), Nat.zero_or] at this; exact this
    · omega
  obtain ⟨w', le, ch, e1, e2, e3, e4, e5, e6, e7⟩ := walk_ev (aim := aim) (N := N) bc bj hn ho ha hN 8 (rmB n b).length [] (if b < n then 1 <<< b else 0) 0 0 0 1000000 [] w4 (by omega) (hC.fr F4 (fun k => rfl) (fun k => rfl)) (hJ.fr F4 (TL_o ho)) g4 g5 g6
    (by rw [hrm]) hg (by simp; omega) (fun i v h => by simp at h) (fun i v h => by simp at h) (by simp) (by omega) (by simp) (by omega)
  refine ⟨w', le, ch, ?_, F4.tr (e2.wd (fun o k h => ?_)), e5, e6, ?_⟩
  · have hN0 : (nI ([] : List Nat).length) = 0 := rfl
    rw [hN0] at e1
    by_cases h : b < n
    · have hbI : bI = nI b := by
        rcases hb with ⟨-, rfl⟩ | ⟨h1, -⟩
        · omega
        · exact h1
      rw [if_pos h] at e1 hh hlen
      have hsh : (1 : Int32) <<< (nI b &&& 31) = nI (1 <<< b) := by rw [shl1 (by omega), Nat.one_shiftLeft]
      rw [hlen] at hw4
      rw [show (nI 0) = 0 from rfl] at e1
      simp only [fX5_leastLost, lw_eq, bd_some', bd2_some', gd_true, show (1000000 : Int32) = nI 1000000 from rfl, hw3, hh, hJ3.1]
      rw [if_neg (show ¬ nI 1 = 0 by decide), if_neg (show ¬ nI 1 = 0 by decide)]
      rw [show (nI n - 1 : Int32) = nI (n - 1) by rw [n1, nsub (by omega)], hw4, hbI, hsh, e1, bd_some', e4]
    · rw [if_neg h] at e1 hh hlen
      rw [hlen] at hw4
      rw [show (nI 0) = 0 from rfl] at e1 hh
      simp only [fX5_leastLost, lw_eq, bd_some', bd2_some', gd_true, show (1000000 : Int32) = nI 1000000 from rfl, hw3, hh, hJ3.1, if_true, hw4, e1, e4]
  · simp only [TL, TK, Bool.or_eq_false_iff, Bool.and_eq_false_iff] at h ⊢
    exact ⟨⟨Or.inl h.1.1, h.1.2⟩, h.2⟩
  · rw [e7, hrm]
    unfold prm
    congr 1
    funext x p
    simp [minG]
theorem mostWorth_ev {dy : Nat → Nat} {st c0 l0 fine odds o n N b : Nat} {bI : Int32} {J : Nat → Nat → Nat} {w : AW} (bc : bC dy st c0 l0 fine odds) (bj : bJ n J) (hn : n ≤ 6) (ho : o = 2 ∨ o = 61) (hN : 20 < N)
    (hb : (bI = -9 ∧ b = 6) ∨ (bI = nI b ∧ b < n)) (hC : CCo dy st c0 l0 fine odds w) (hJ : CJo o n J w) :
    ∃ w' mo ch, fX5_mostWorth N o bI w = some (zI mo, w') ∧ Fr TL w w' ∧ rowL (w'.1 51) ch ∧ -2000 ≤ mo ∧ mo ≤ 2000 ∧ (mo, ch) = (prm n b).foldl (bestG (fun p => wN dy st c0 l0 fine J (J 1) (lf p) p.length)) (-2147483648, []) := by
  have hb' : b < n ∨ b = 6 := by rcases hb with ⟨-, h⟩ | ⟨-, h⟩ <;> omega
  have hbe : ∀ j, j < n → ((nI j = bI) ↔ j = b) := by
    intro j hj
    rcases hb with ⟨rfl, rfl⟩ | ⟨rfl, h⟩
    · rw [zI_nI, show (-9 : Int32) = zI (-9) from rfl, zeq (by omega) (by omega) (by omega) (by omega)]; omega
    · rw [neq (by omega) (by omega)]
  obtain ⟨w', le, ch, e1, e2, e3, e4, e5⟩ := leastLost_ev (aim := 0) bc bj hn ho (by omega) hN hb hC hJ
  have hpr : ∀ i, i ≤ n → sL (J 4) (rmB i b) ≤ 99 * i := by
    intro i
    induction i with
    | zero => intro _; simp [rmB, sL]
    | succ i ih =>
      intro hi
      have := ih (by omega)
      have := (bj i (by omega)).2.2.2.2.2
      rw [rmB_succ, sL_app]
      split <;> simp only [sL] <;> omega
  have hpr6 := hpr n (Nat.le_refl _)
  have hpl : ∀ p ∈ prm n b, p.length ≤ n := fun p hp => by rw [prm_len hp]; exact rmB_len n b
  have hWb : ∀ p ∈ prm n b, -1200 ≤ wN dy st c0 l0 fine J (J 1) (lf p) p.length ∧ wN dy st c0 l0 fine J (J 1) (lf p) p.length ≤ 600 := by
    intro p hp
    have hpl1 := hpl p hp
    have := wN_bd (dy := dy) (st := st) (c0 := c0) (l0 := l0) (fine := fine) (J := J) (R := J 1) (p := lf p) (all := n) (m := p.length) bj bc.2.2.2.1 (fun i hi => prm_mem hp _ (getD_mem hi)) p.length (Nat.le_refl _)
    omega
  have hcost : ∀ p ∈ prm n b, (cL dy st c0 l0 J (J 1) (lsA fine J n 0) 0 0 p : Int) = (sL (J 4) (rmB n b) : Int) - wN dy st c0 l0 fine J (J 1) (lf p) p.length := by
    intro p hp
    rw [cost0, sL_perm (prm_perm hp)]
  obtain ⟨p0, l0', hne⟩ := prm_ne (n := n) (b := b) hn (by omega)
  obtain ⟨be1, be2⟩ := best_eq (W := fun p => wN dy st c0 l0 fine J (J 1) (lf p) p.length) (c := cL dy st c0 l0 J (J 1) (lsA fine J n 0) 0 0) (C := sL (J 4) (rmB n b)) (L := prm n b) (by rw [hne]; simp) hcost
    (fun p hp => by have := hWb p hp; show -100000 ≤ wN dy st c0 l0 fine J (J 1) (lf p) p.length; omega) (fun p hp => by have := hcost p hp; have := hWb p hp; omega)
  rw [← e5] at be1 be2
  -- the most lies between the worths of orders
  have hmo : -2000 ≤ (sL (J 4) (rmB n b) : Int) - (le : Int) ∧ (sL (J 4) (rmB n b) : Int) - (le : Int) ≤ 2000 := by
    have hR := foldl_rel (f := bestG (fun p => wN dy st c0 l0 fine J (J 1) (lf p) p.length)) (g := fun (_ : Unit) _ => ()) (fun a _ => a.1 = -2147483648 ∨ (-2000 ≤ a.1 ∧ a.1 ≤ 2000)) (l := prm n b) (a := (-2147483648, [])) (b := ()) (Or.inl rfl) (fun a _ x hx h => by
      have := hWb x hx
      unfold bestG
      split
      · right; simp only []; omega
      · exact h)
    rw [be1] at hR
    simp only at hR be2
    omega
  have key := wh_for (body := lbX5_mostWorth_5_1 N o bI w) (fun i => (nI (sL (J 4) (rmB i b)), nI i)) (n := n) (e := nI (sL (J 4) (rmB n b))) ?_ ?_ (N := N) (i := 0) (by omega) (by omega)
  · refine ⟨w', (sL (J 4) (rmB n b) : Int) - (le : Int), ch, ?_, e2, e3, hmo.1, hmo.2, by rw [be1]⟩
    have key' : wh (lbX5_mostWorth_5_1 N o bI w) N (0, 0) = some (nI (sL (J 4) (rmB n b))) := key
    rw [show (nI 0) = 0 from rfl] at e1
    simp only [fX5_mostWorth, key', lw_eq, bd_some', bd2_some', gd_true, e1]
    rw [zI_nI, zI_nI, zsub]
  · intro i hi
    have h5 := (hJ.2 i hi).2.2.2.2
    have hpi := hpr i (by omega)
    have hbi := (bj i hi).2.2.2.2.2
    by_cases hib : i = b
    · have hq : nI i = bI := (hbe i hi).mpr hib
      rw [lbX5_mostWorth_5_1]
      simp only [hq, if_true]
      rw [← hq, rmB_succ, if_pos hib, List.append_nil]
      simp (disch := omega) only [n0, n1, n2, n3, n4, n5, n6, n7, n8, n9, n10, n13, n16, n18, n20, n30, n32, n40, n48, n57, n59, n60, n64, n97, n99, n122, n126, n186, n200, n1000000, nadd, nmul, nlt, nle, neq, ntn, gd_n, lw_eq, bd_some', bd2_some', gd_true, hJ.1, if_neg (show ¬ n ≤ i by omega)]
    · have hq : ¬ nI i = bI := fun h => hib ((hbe i hi).mp h)
      rw [lbX5_mostWorth_5_1]
      simp only [hq, if_false]
      rw [rmB_succ, if_neg hib, sL_app]
      simp (disch := omega) only [n0, n1, n2, n3, n4, n5, n6, n7, n8, n9, n10, n13, n16, n18, n20, n30, n32, n40, n48, n57, n59, n60, n64, n97, n99, n122, n126, n186, n200, n1000000, nadd, nmul, nlt, nle, neq, ntn, gd_n, lw_eq, bd_some', bd2_some', gd_true, hJ.1, if_neg (show ¬ n ≤ i by omega), h5, sL, Nat.add_zero]
  · simp (disch := omega) only [lbX5_mostWorth_5_1, n0, n1, n2, n3, n4, n5, n6, n7, n8, n9, n10, n13, n16, n18, n20, n30, n32, n40, n48, n57, n59, n60, n64, n97, n99, n122, n126, n186, n200, n1000000, nadd, nmul, nlt, nle, neq, ntn, gd_n, hJ.1, Nat.le_refl, if_true]

