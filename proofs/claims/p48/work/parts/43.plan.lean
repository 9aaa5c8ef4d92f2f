/-! 43: THE PLAN: ends, late, worth -/
theorem N0_big : 3000 < N0 := by decide
theorem perm_prm {n : Nat} {p : List Nat} (hn : n ≤ 6) (h : p.Perm (List.range n)) : p ∈ prm n 6 := by
  unfold prm
  rw [rmB_all hn]
  exact pms_mem rfl h
theorem perm_facts {n : Nat} {p : List Nat} (h : p.Perm (List.range n)) : p.length = n ∧ (∀ j ∈ p, j < n) ∧ p.Nodup ∧ ∀ j, j < n → j ∈ p := by
  refine ⟨by rw [h.length_eq, List.length_range], fun j hj => by simpa using h.mem_iff.mp hj, h.nodup_iff.mpr List.nodup_range, fun j hj => h.mem_iff.mpr (by simpa using hj)⟩
def TM4 (o k : Nat) : Bool := (o == 46) || (o == 47)
/-- the course is measured -/
theorem meas_ev {n : Nat} {J : Nat → Nat → Nat} {L lost nig : Nat → Nat} {day col left lg N : Nat} {till : Int32} {p : List Nat} {w : AW} (ok : okB n J L lost nig day col left p) (h : CBd 1 n J L lost nig day col left till p w) (hlg : lg ≤ 9) (hN : 300 < N) :
    ∃ w', fX3_measure N 1 (nI lg) w = some w' ∧ Fr TM4 w w' ∧ CCo (dyS (sLg (sOf L lost nig) day lg) day) (L 1) col left (L 2) (L 3) w' ∧ CBd 1 n J L lost nig day col left till p w' ∧ bC (dyS (sLg (sOf L lost nig) day lg) day) (L 1) col left (L 2) (L 3) := by
  obtain ⟨hn, bj, b, hp⟩ := ok
  obtain ⟨h1, h2, h3, h4, h5, h6, h7, h8, h9⟩ := id h
  obtain ⟨w', e1, e2, e3⟩ := measure_ev (lg := lg) (N := N) hN h2 h3 h4 h6 h7 h8 b.1 b.2.1 b.2.2.2.2.2.1 b.2.2.2.2.2.2.1 b.2.2.2.2.2.2.2.1 hlg
  refine ⟨w', e1, e2, e3, h.fr e2 (fun i hi k => ?_), b.2.2.1, b.2.2.2.2.2.2.2.2.1, b.2.2.2.2.2.2.2.2.2, b.2.2.2.1, b.2.2.2.2.1, fun u hu1 hu2 => dyS_le b.2.2.2.2.2.2.2.1 (sLg_pos (sOf_pos b.1)) hu1 hu2⟩
  simp; omega
theorem sLg0 {S : Nat → Nat} {d : Nat} : sLg S d 0 = S := by funext k; simp [sLg]
theorem eJ_at {dy : Nat → Nat} {st c0 l0 : Nat} {J : Nat → Nat → Nat} {p : List Nat} (hnd : p.Nodup) {i : Nat} (hi : i < p.length) : eJ dy st c0 l0 J (lf p i) p = dy (uN st c0 l0 J (J 1) (lf p) (i + 1)) := by
  have hm : lf p i ∈ p := getD_mem hi
  obtain ⟨h1, h2⟩ := lf_idxOf hm
  unfold eJ
  rw [lf_inj hnd _ _ h1 hi h2]
theorem follow_ev {dy : Nat → Nat} {st c0 l0 fine odds n N r : Nat} {J : Nat → Nat → Nat} {w : AW} {p : List Nat} (hC : CCo dy st c0 l0 fine odds w) (hJ : CJo 2 n J w) (bc : bC dy st c0 l0 fine odds) (bj : bJ n J) (hn : n ≤ 6) (hN : 20 < N) (hr48 : r ≠ 48) (hr : rowL (w.1 r) p) (hp : p.Perm (List.range n)) :
    ∃ w', fX3_follow N 2 r w = some w' ∧ Fr (fun o _ => o == 48) w w' ∧ ∀ j, j < n → w'.1 48 j = nI (eJ dy st c0 l0 J j p) := by
  obtain ⟨hpl, hpm, hnd, hall⟩ := perm_facts hp
  have hpi : ∀ i, i < n → lf p i < n := fun i hi => hpm _ (getD_mem (by omega))
  have hU : ∀ i, i ≤ n → uN st c0 l0 J (J 1) (lf p) i ≤ 21 * i := uN_le (fun i hi => by have := bj _ (hpi i hi); omega) bc.1 bc.2.2.1
  have key := wh_cnt (body := lbX3_follow_8_1 N 2 r) (n := n)
    (I := fun i s => ∃ w1, s = (nI (uN st c0 l0 J (J 1) (lf p) i), nI (wasN J (lf p) i), nI i, w1) ∧ Fr (fun o _ => o == 48) w w1 ∧ ∀ k, k < i → w1.1 48 (lf p k) = nI (dy (uN st c0 l0 J (J 1) (lf p) (k + 1))))
    (Q := fun w1 => Fr (fun o _ => o == 48) w w1 ∧ ∀ k, k < n → w1.1 48 (lf p k) = nI (dy (uN st c0 l0 J (J 1) (lf p) (k + 1))))
    ?_ ?_ (N := N) (i := 0) (s := (0, 0, 0, w)) ⟨w, rfl, Fr.rf, fun k hk => by omega⟩ (Nat.zero_le _) (by omega)
  · obtain ⟨w1, e1, e2, e3⟩ := key
    refine ⟨w1, by simp only [fX3_follow, e1, lw_eq, bd_some', bd2_some', gd_true], e2, fun j hj => ?_⟩
    obtain ⟨h1, h2⟩ := lf_idxOf (hall j hj)
    have := e3 (p.idxOf j) (by omega)
    rw [h2] at this
    exact this
  · rintro i s hi ⟨w1, rfl, hF, he⟩
    have hC1 := hC.fr hF (fun k => rfl) (fun k => rfl)
    have hJ1 := hJ.fr hF (fun i hi k => by simp; omega)
    have hwas : wasN J (lf p) i ≤ 1 := by
      cases i with
      | zero => simp [wasN]
      | succ i => exact (bj _ (hpi i (by omega))).2.2.2.1
    have hUi := hU i (by omega)
    have hUi1 := hU (i + 1) (by omega)
    have hpos := uN_pos (st := st) (c0 := c0) (l0 := l0) (J := J) (R := J 1) (p := lf p) (i := i) (bj _ (hpi i hi)).2.1
    have eu := usedBehind_ev hC1 hJ1 bc bj hn (u := uN st c0 l0 J (J 1) (lf p) i) (was := wasN J (lf p) i) (hpi i hi) (by omega) hwas
    have eu' : fX3_usedBehind (nI (uN st c0 l0 J (J 1) (lf p) i)) (nI (wasN J (lf p) i)) 2 (nI (lf p i)) w1 = some (nI (uN st c0 l0 J (J 1) (lf p) (i + 1))) := eu
    have ed := dayAt_ev hC1 hpos (by omega)
    have hr1 : w1.1 r i = nI (lf p i) := by rw [hF.at' _ (by simp [hr48])]; exact hr.get (by omega)
    have hcol := (hJ1.2 _ (hpi i hi)).2.2.1
    have hpii := hpi i hi
    refine ⟨(nI (uN st c0 l0 J (J 1) (lf p) (i + 1)), nI (J 2 (lf p i)), nI (i + 1), setI w1 48 (lf p i) (nI (dy (uN st c0 l0 J (J 1) (lf p) (i + 1))))), ?_, _, rfl, hF.tr (Fr.set (by simp)), fun k hk => ?_⟩
    · simp (disch := omega) only [lbX3_follow_8_1, n0, n1, n2, n3, n4, n5, n6, n7, n8, n9, n10, n13, n16, n18, n20, n30, n32, n40, n48, n57, n59, n60, n64, n97, n99, n122, n126, n186, n200, n1000000, nadd, nmul, nlt, nle, neq, ntn, gd_n, lw_eq, bd_some', bd2_some', gd_true, hJ1.1, if_neg (show ¬ n ≤ i by omega), hr1, eu', hcol, ed]
    · by_cases hki : k = i
      · subst hki; simp [setI1]
      · have hne : lf p k ≠ lf p i := fun h => hki (lf_inj hnd k i (by omega) (by omega) h)
        simp only [setI1, hne, and_false, if_false]
        exact he k (by omega)
  · rintro s ⟨w1, rfl, hF, he⟩
    have hJ1 := hJ.fr hF (fun i hi k => by simp; omega)
    refine ⟨w1, ?_, hF, he⟩
    simp (disch := omega) only [lbX3_follow_8_1, n0, n1, n2, n3, n4, n5, n6, n7, n8, n9, n10, n13, n16, n18, n20, n30, n32, n40, n48, n57, n59, n60, n64, n97, n99, n122, n126, n186, n200, n1000000, nadd, nmul, nlt, nle, neq, ntn, gd_n, hJ1.1, Nat.le_refl, if_true]
def TF (o k : Nat) : Bool := (o == 46) || (o == 47) || (o == 48)
theorem followPlan_ev {n : Nat} {J : Nat → Nat → Nat} {L lost nig : Nat → Nat} {day col left N : Nat} {till : Int32} {p : List Nat} {w : AW} (ok : okB n J L lost nig day col left p) (h : CBd 1 n J L lost nig day col left till p w) (hN : 300 < N) :
    ∃ w', fX11_followPlan N w = some w' ∧ Fr TF w w' ∧ (∀ j, j < n → w'.1 48 j = nI (eJ (dyS (sOf L lost nig) day) (L 1) col left J j p)) ∧ CBd 1 n J L lost nig day col left till p w' ∧ w'.1 46 2 = nI (L 2) := by
  obtain ⟨w1, e1, e2, e3, e4, e5⟩ := meas_ev (lg := 0) (N := N) ok h (by omega) hN
  rw [sLg0] at e3 e5
  obtain ⟨hn, bj, b, hp⟩ := ok
  obtain ⟨w2, g1, g2, g3⟩ := follow_ev (r := 11) (N := N) e3 e4.1 e5 bj hn (by omega) (by omega) e4.2.2.2.2.1 hp
  refine ⟨w2, ?_, (e2.wd (fun o k hh => ?_)).tr (g2.wd (fun o k hh => ?_)), g3, e4.fr g2 (fun i hi k => by simp; omega), by rw [g2.at' _ rfl]; exact e3.1⟩
  · rw [show nI 0 = 0 from rfl] at e1
    simp only [fX11_followPlan, e1, g1, lw_eq, bd_some', bd2_some', gd_true]
  · simp only [TF, TM4, Bool.or_eq_false_iff] at hh ⊢; exact hh.1
  · simp only [TF, Bool.or_eq_false_iff] at hh ⊢; exact hh.2
theorem rowcopy_ev {n N : Nat} {w : AW} {p : List Nat} (body : (Int32 × AW) → Option ((Int32 × AW) ⊕ AW)) (r : Nat) (hr12 : r ≠ 12) (hb : ∀ i w1, i < n → w1.1 0 0 = nI n → w1.1 r i = w.1 r i → body (nI i, w1) = some (.inl (nI (i + 1), setI w1 12 i (w1.1 r i)))) (he : ∀ w1, w1.1 0 0 = nI n → body (nI n, w1) = some (.inr w1)) (h0 : w.1 0 0 = nI n) (hr : rowL (w.1 r) p) (hpl : p.length = n) (hN : 20 < N) (hn : n ≤ 6) :
    ∃ w', wh body N (0, w) = some w' ∧ Fr (fun o _ => o == 12) w w' ∧ rowL (w'.1 12) p := by
  have key := wh_cnt (body := body) (n := n)
    (I := fun i s => ∃ w1, s = (nI i, w1) ∧ Fr (fun o _ => o == 12) w w1 ∧ ∀ k, k < i → w1.1 12 k = nI (lf p k))
    (Q := fun w1 => Fr (fun o _ => o == 12) w w1 ∧ ∀ k, k < n → w1.1 12 k = nI (lf p k))
    ?_ ?_ (N := N) (i := 0) (s := (0, w)) ⟨w, rfl, Fr.rf, fun k hk => by omega⟩ (Nat.zero_le _) (by omega)
  · obtain ⟨w1, e1, e2, e3⟩ := key
    refine ⟨w1, e1, e2, fun i v hv => ?_⟩
    have hi : i < p.length := by rw [List.getElem?_eq_some_iff] at hv; exact hv.1
    rw [e3 i (by omega)]
    rw [getD_some hi] at hv
    exact congrArg nI (Option.some.inj hv)
  · rintro i s hi ⟨w1, rfl, hF, hk⟩
    have h01 : w1.1 0 0 = nI n := by rw [hF.at' _ rfl]; exact h0
    have hri : w1.1 r i = w.1 r i := hF.at' _ (by simp [hr12])
    refine ⟨(nI (i + 1), setI w1 12 i (w1.1 r i)), hb i w1 hi h01 hri, _, rfl, hF.tr (Fr.set (by simp)), fun k hk2 => ?_⟩
    by_cases hki : k = i
    · subst hki
      simp only [setI1, and_self, if_true, hri]
      exact hr.get (by omega)
    · simp only [setI1, hki, and_false, if_false]
      exact hk k (by omega)
  · rintro s ⟨w1, rfl, hF, hk⟩
    exact ⟨w1, he w1 (by rw [hF.at' _ rfl]; exact h0), hF, hk⟩
/-! what changes nothing that is looked at later -/
theorem TF_p {o k : Nat} (h : pC o k = true) : TF o k = false := by
  simp only [pC, Bool.or_eq_true, Bool.and_eq_true, beq_iff_eq, decide_eq_true_eq] at h
  simp [TF]; omega
theorem TO_p {o k : Nat} (h : pM o k = true) : TO o k = false := by
  simp only [pM, Bool.or_eq_true, Bool.and_eq_true, beq_iff_eq, decide_eq_true_eq] at h
  simp [TO, TW]; omega
def lateB (E : Nat → Nat) (J : Nat → Nat → Nat) : Nat → Int32
  | 0 => 0
  | j + 1 => if E j ≤ J 3 j then lateB E J j else lateB E J j ||| (1 <<< (nI j &&& 31))
/-- together, integers -/
def sZ (f : Nat → Int) : List Nat → Int
  | [] => 0
  | j :: l => f j + sZ f l
theorem sZ_perm {f : Nat → Int} {l l' : List Nat} (h : l.Perm l') : sZ f l = sZ f l' := by
  induction h with
  | nil => rfl
  | cons x _ ih => simp only [sZ, ih]
  | swap x y l => simp only [sZ]; omega
  | trans _ _ a b => exact a.trans b
theorem sZ_app {f : Nat → Int} : ∀ {l l' : List Nat}, sZ f (l ++ l') = sZ f l + sZ f l' := by
  intro l
  induction l with
  | nil => intro l'; simp [sZ]
  | cons j l ih => intro l'; simp only [List.cons_append, sZ, ih]; omega
theorem wN_sZ {dy : Nat → Nat} {st c0 l0 fine : Nat} {J : Nat → Nat → Nat} {p : List Nat} (hnd : p.Nodup) : wN dy st c0 l0 fine J (J 1) (lf p) p.length = sZ (fun j => vOf fine J j (eJ dy st c0 l0 J j p)) p := by
  have : ∀ i, i ≤ p.length → wN dy st c0 l0 fine J (J 1) (lf p) i = sZ (fun j => vOf fine J j (eJ dy st c0 l0 J j p)) (p.take i) := by
    intro i
    induction i with
    | zero => intro _; rfl
    | succ i ih =>
      intro h
      rw [take_one (by omega), sZ_app, wN, ih (by omega)]
      simp only [sZ, eJ_at hnd (show i < p.length by omega), Int.add_zero]
  have := this p.length (Nat.le_refl _)
  rwa [List.take_length] at this
