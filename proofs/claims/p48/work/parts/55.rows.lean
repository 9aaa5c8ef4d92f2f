/-! 55: rows of the best; the reader -/
def RV (ch : List Nat) (E : Nat → Nat) (V : Nat → Int) (k : Nat) : Int32 := if k % 3 = 0 then nI (lf ch (k / 3)) else if k % 3 = 1 then nI (E (lf ch (k / 3))) else zI (V (lf ch (k / 3)))
theorem RV_0 {ch : List Nat} {E : Nat → Nat} {V : Nat → Int} {i : Nat} : RV ch E V (3 * i) = nI (lf ch i) := by
  unfold RV; rw [if_pos (by omega)]; congr 2; omega
theorem RV_1 {ch : List Nat} {E : Nat → Nat} {V : Nat → Int} {i : Nat} : RV ch E V (3 * i + 1) = nI (E (lf ch i)) := by
  unfold RV; rw [if_neg (by omega), if_pos (by omega)]; congr 3; omega
theorem RV_2 {ch : List Nat} {E : Nat → Nat} {V : Nat → Int} {i : Nat} : RV ch E V (3 * i + 2) = zI (V (lf ch i)) := by
  unfold RV; rw [if_neg (by omega), if_neg (by omega)]; congr 3; omega
/-- three cells more -/
theorem row3 {r i : Nat} {a b c : Int32} {ch : List Nat} {E : Nat → Nat} {V : Nat → Int} {w w1 : AW} (h : ∀ k, w1.1 r k = if k < 3 * i then RV ch E V k else w.1 r k) (ha : a = RV ch E V (3 * i)) (hb : b = RV ch E V (3 * i + 1)) (hc : c = RV ch E V (3 * i + 2)) : ∀ k, (setI (setI (setI w1 r (3 * i) a) r (3 * i + 1) b) r (3 * i + 2) c).1 r k = if k < 3 * (i + 1) then RV ch E V k else w.1 r k := by
  intro k
  simp only [setI1, true_and, h]
  by_cases k2 : k = 3 * i + 2
  · subst k2; rw [if_pos rfl, if_pos (by omega), hc]
  · rw [if_neg k2]
    by_cases k1 : k = 3 * i + 1
    · subst k1; rw [if_pos rfl, if_pos (by omega), hb]
    · rw [if_neg k1]
      by_cases k0 : k = 3 * i
      · subst k0; rw [if_pos rfl, if_pos (by omega), ha]
      · rw [if_neg k0]
        by_cases hl : k < 3 * i
        · rw [if_pos hl, if_pos (by omega)]
        · rw [if_neg hl, if_neg (by omega)]
theorem fill_ev {n N fine : Nat} {J : Nat → Nat → Nat} {E : Nat → Nat} {ch : List Nat} {w : AW} (hJ : CJo 2 n J w) (bj : bJ n J) (hn : n ≤ 6) (bf : fine ≤ 99) (hf : w.1 46 2 = nI fine) (hr : rowL (w.1 51) ch) (hcl : ch.length = n) (hcm : ∀ j ∈ ch, j < n) (hE : ∀ j, j < n → w.1 48 j = nI (E j)) (hE2 : ∀ j, j < n → E j ≤ 1000) (hN : 20 < N) :
    ∃ w', wh (lbX6_fill_19_1 N 2 51) N (0, w) = some w' ∧ Fr (fun o _ => o == 60) w w' ∧ ∀ k, w'.1 60 k = if k < 3 * n then RV ch E (fun j => vOf fine J j (E j)) k else w.1 60 k := by
  have key := wh_cnt (body := lbX6_fill_19_1 N 2 51) (n := n)
    (I := fun i s => ∃ w1, s = (nI i, w1) ∧ Fr (fun o _ => o == 60) w w1 ∧ ∀ k, w1.1 60 k = if k < 3 * i then RV ch E (fun j => vOf fine J j (E j)) k else w.1 60 k)
    (Q := fun w1 => Fr (fun o _ => o == 60) w w1 ∧ ∀ k, w1.1 60 k = if k < 3 * n then RV ch E (fun j => vOf fine J j (E j)) k else w.1 60 k)
    ?_ ?_ (N := N) (i := 0) (s := (0, w)) ⟨w, rfl, Fr.rf, fun k => by rw [if_neg (by omega)]⟩ (Nat.zero_le _) (by omega)
  · obtain ⟨w1, e1, e2, e3⟩ := key
    exact ⟨w1, e1, e2, e3⟩
  · rintro i s hi ⟨w1, rfl, hF, h3⟩
    have hj : lf ch i < n := hcm _ (getD_mem (by omega))
    have F2 : Fr (fun o _ => o == 60) w1 (setI (setI w1 60 (3 * i) (nI (lf ch i))) 60 (3 * i + 1) (nI (E (lf ch i)))) := (Fr.set (by simp)).tr (Fr.set (by simp))
    have hJ2 : CJo 2 n J (setI (setI w1 60 (3 * i) (nI (lf ch i))) 60 (3 * i + 1) (nI (E (lf ch i)))) := (hJ.fr hF (fun i hi k => by simp; omega)).fr F2 (fun i hi k => by simp; omega)
    have cnt : w1.1 2 0 = nI n := (hJ.fr hF (fun i hi k => by simp; omega)).1
    have e51 : w1.1 51 i = nI (lf ch i) := by rw [hF.at' _ rfl]; exact hr.get (by omega)
    have e48 : w1.1 48 (lf ch i) = nI (E (lf ch i)) := by rw [hF.at' _ rfl]; exact hE _ hj
    have e46 : w1.1 46 2 = nI fine := by rw [hF.at' _ rfl]; exact hf
    have ev := valueOf_ev (fine := fine) hJ2 bj hn hj (e := E (lf ch i)) (hE2 _ hj) bf
    have hm3 : nI i * nI 3 = nI (3 * i) := by rw [nmul, Nat.mul_comm]
    refine ⟨(nI (i + 1), setI (setI (setI w1 60 (3 * i) (nI (lf ch i))) 60 (3 * i + 1) (nI (E (lf ch i)))) 60 (3 * i + 2) (zI (vOf fine J (lf ch i) (E (lf ch i))))), ?_, _, rfl, hF.tr (F2.tr (Fr.set (by simp))), row3 h3 RV_0.symm RV_1.symm (RV_2 (V := fun j => vOf fine J j (E j))).symm⟩
    simp (disch := omega) only [lbX6_fill_19_1, n0, n1, n2, n3, hm3, nadd, nle, ntn, gd_n, lw_eq, bd_some', bd2_some', gd_true, cnt, if_neg (show ¬ n ≤ i by omega), e51, setI1, Nat.reduceEqDiff, false_and, if_false, e48, e46, ev]
  · rintro s ⟨w1, rfl, hF, h3⟩
    have cnt : w1.1 2 0 = nI n := (hJ.fr hF (fun i hi k => by simp; omega)).1
    refine ⟨w1, ?_, hF, h3⟩
    simp only [lbX6_fill_19_1, cnt, Int32.le_refl, if_true]
theorem len_of_sub : ∀ {l1 l2 : List Nat}, l1.Nodup → (∀ x ∈ l1, x ∈ l2) → l1.length ≤ l2.length := by
  intro l1
  induction l1 with
  | nil => intro l2 _ _; exact Nat.zero_le _
  | cons x t ih =>
    intro l2 hn hs
    obtain ⟨h1, h2⟩ := List.nodup_cons.mp hn
    have hx : x ∈ l2 := hs x List.mem_cons_self
    have := ih (l2 := l2.erase x) h2 (fun y hy => by
      have hne : y ≠ x := fun q => h1 (q ▸ hy)
      exact (List.mem_erase_of_ne hne).mpr (hs y (List.mem_cons_of_mem _ hy)))
    rw [List.length_erase_of_mem hx] at this
    have hpos := List.length_pos_of_mem hx
    simp only [List.length_cons]; omega
