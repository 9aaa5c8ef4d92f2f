/-! 27: the reference goes through all orders -/
theorem prm_count : ∀ n, n < 7 → ∀ b, b < 7 → ((prm n b).length ≤ 720) := by decide +kernel
theorem chk_prm1 {n b : Nat} (hn : n ≤ 6) (hb : b ≤ 6) : chk (prm n b) = true ∧ (prm n b).head? = some (rmB n b) := by
  have := chk_prm n (by omega) b (by omega)
  simpa using this
/-- a loop over orders, one behind the other -/
theorem ord_ind {β : Type} {N m n bb : Nat} {body : Int32 × Int32 × AW → Option ((Int32 × Int32 × AW) ⊕ (Int32 × AW))} (V : β → Int32 → AW → Prop) (g : β → List Nat → β)
    (hN : 800 < N) (hn : n ≤ 6) (hbb : bb ≤ 6) (hm : m = (rmB n bb).length)
    (hV : ∀ b a w w', V b a w → Fr (fun o _ => o == 12) w w' → V b a w')
    (hstep : ∀ b p a w, V b a w → rowL (w.1 12) p → p ∈ prm n bb → ∃ a' w', V (g b p) a' w' ∧ rowL (w'.1 12) p ∧ ∀ r w'', fX12_nextOrder N (nI m) w' = some (r, w'') → body (a, 1, w) = some (.inl (a', r, w'')))
    (hexit : ∀ a w, body (a, 0, w) = some (.inr (a, w))) {b : β} {a : Int32} {w : AW} (h0 : V b a w) (hr : rowL (w.1 12) (rmB n bb)) :
    ∃ a' w', wh body N (a, 1, w) = some (a', w') ∧ V ((prm n bb).foldl g b) a' w' := by
  obtain ⟨c1, c2⟩ := chk_prm1 hn hbb
  have c3 := prm_count n (by omega) bb (by omega)
  have gen : ∀ (l : List (List Nat)) (p : List Nat) (b : β) (a : Int32) (w : AW) (M : Nat), chk (p :: l) = true → (∀ q ∈ p :: l, q ∈ prm n bb) → l.length + 2 < M → V b a w → rowL (w.1 12) p →
      ∃ a' w', wh body M (a, 1, w) = some (a', w') ∧ V ((p :: l).foldl g b) a' w' := by
    intro l
    induction l with
    | nil =>
      intro p b a w M hc hq hM hv hr
      obtain ⟨M, rfl⟩ : ∃ k, M = k + 2 := ⟨M - 2, by omega⟩
      have hp := hq p List.mem_cons_self
      have hpl := prm_len hp
      have hpm := prm_mem hp
      obtain ⟨a', w', k1, k2, k3⟩ := hstep b p a w hv hr hp
      have hnx : nx p = none := by simpa [chk] using hc
      have e := (nextOrder_ev (N := N) k2 (fun x hx => by have := hpm x hx; omega) (by have := rmB_len n bb; omega) (by omega)).2 hnx
      rw [hpl, ← hm] at e
      rw [show M + 2 = (M + 1) + 1 from rfl, wh_step (k3 _ _ e), wh_out (hexit a' w')]
      exact ⟨a', w', rfl, k1⟩
    | cons q l ih =>
      intro p b a w M hc hq hM hv hr
      obtain ⟨M, rfl⟩ : ∃ k, M = k + 1 := ⟨M - 1, by simp at hM; omega⟩
      have hp := hq p List.mem_cons_self
      have hpl := prm_len hp
      have hpm := prm_mem hp
      obtain ⟨a', w', k1, k2, k3⟩ := hstep b p a w hv hr hp
      simp only [chk, Bool.and_eq_true, beq_iff_eq] at hc
      obtain ⟨w'', e1, e2, e3⟩ := (nextOrder_ev (N := N) k2 (fun x hx => by have := hpm x hx; omega) (by have := rmB_len n bb; omega) (by omega)).1 q hc.1
      rw [hpl, ← hm] at e1
      rw [wh_step (k3 _ _ e1)]
      exact ih q (g b p) a' w'' M hc.2 (fun x hx => hq x (List.mem_cons_of_mem _ hx)) (by simp at hM; omega) (hV _ _ _ _ k1 e2) e3
  cases hl : prm n bb with
  | nil => rw [hl] at c2; cases c2
  | cons p l =>
    rw [hl] at c2 c1 c3
    simp only [List.head?_cons, Option.some.injEq] at c2
    subst c2
    exact gen l (rmB n bb) b a w N c1 (fun q hq => by rw [hl]; exact hq) (by simp at c3; omega) h0 hr
theorem firstOrder_ev {n b N : Nat} {bI : Int32} {w : AW} (hn : n ≤ 6) (hb : ∀ j, j < n → ((nI j = bI) ↔ j = b)) (hN : 20 < N) :
    ∃ w', fX12_firstOrder N (nI n) bI w = some (nI (rmB n b).length, w') ∧ Fr (fun o _ => o == 12) w w' ∧ rowL (w'.1 12) (rmB n b) := by
  have key := wh_cnt (body := lbX12_firstOrder_5_1 N (nI n) bI) (n := n)
    (I := fun i s => ∃ w1, s = (nI (rmB i b).length, nI i, w1) ∧ Fr (fun o _ => o == 12) w w1 ∧ rowL (w1.1 12) (rmB i b))
    (Q := fun e => ∃ w1, e = (nI (rmB n b).length, w1) ∧ Fr (fun o _ => o == 12) w w1 ∧ rowL (w1.1 12) (rmB n b)) ?_ ?_ (N := N) (i := 0) (s := (0, 0, w)) ⟨w, rfl, Fr.rf, fun i v h => by simp [rmB] at h⟩ (by omega) (by omega)
  · obtain ⟨e, h1, w1, rfl, h2, h3⟩ := key
    exact ⟨w1, by simp only [fX12_firstOrder, h1, lw_eq, bd_some', bd2_some', gd_true], h2, h3⟩
  · rintro i s hi ⟨w1, rfl, h2, h3⟩
    have hl := rmB_len i b
    by_cases hib : i = b
    · have hq : nI i = bI := (hb i hi).mpr hib
      refine ⟨(nI (rmB i b).length, nI (i + 1), w1), ?_, w1, by rw [rmB_succ, if_pos hib, List.append_nil], h2, by rw [rmB_succ, if_pos hib, List.append_nil]; exact h3⟩
      rw [lbX12_firstOrder_5_1]
      simp only [hq, if_true]
      rw [← hq]
      simp (disch := omega) only [n0, n1, n2, n3, n4, n5, n6, n7, n8, n9, n10, n13, n16, n18, n20, n30, n32, n40, n48, n57, n59, n60, n64, n97, n99, n122, n126, n186, n200, n1000000, nadd, nmul, nlt, nle, neq, ntn, gd_n, lw_eq, bd_some', bd2_some', gd_true, if_neg (show ¬ n ≤ i by omega)]
    · have hq : ¬ nI i = bI := fun h => hib ((hb i hi).mp h)
      refine ⟨(nI ((rmB i b).length + 1), nI (i + 1), setI w1 12 (rmB i b).length (nI i)), ?_, setI w1 12 (rmB i b).length (nI i), by rw [rmB_succ, if_neg hib, List.length_append]; rfl, h2.tr (Fr.set (by simp)), ?_⟩
      · rw [lbX12_firstOrder_5_1]
        simp only [hq, if_false]
        simp (disch := omega) only [n0, n1, n2, n3, n4, n5, n6, n7, n8, n9, n10, n13, n16, n18, n20, n30, n32, n40, n48, n57, n59, n60, n64, n97, n99, n122, n126, n186, n200, n1000000, nadd, nmul, nlt, nle, neq, ntn, gd_n, lw_eq, bd_some', bd2_some', gd_true, if_neg (show ¬ n ≤ i by omega)]
      · rw [rmB_succ, if_neg hib]
        intro k v hv
        rw [List.getElem?_append] at hv
        by_cases hk : k < (rmB i b).length
        · rw [if_pos hk] at hv
          have hne : ¬ k = (rmB i b).length := by omega
          simp only [setI1, hne, and_false, if_false]
          exact h3 k v hv
        · rw [if_neg hk] at hv
          have hk2 : k = (rmB i b).length := by
            cases hkk : k - (rmB i b).length with
            | zero => omega
            | succ x => rw [hkk] at hv; simp at hv
          subst hk2
          simp at hv
          subst hv
          simp [setI1]
  · rintro s ⟨w1, rfl, h2, h3⟩
    refine ⟨(nI (rmB n b).length, w1), ?_, w1, rfl, h2, h3⟩
    simp (disch := omega) only [lbX12_firstOrder_5_1, n0, n1, n2, n3, n4, n5, n6, n7, n8, n9, n10, n13, n16, n18, n20, n30, n32, n40, n48, n57, n59, n60, n64, n97, n99, n122, n126, n186, n200, n1000000, nadd, nmul, nlt, nle, neq, ntn, gd_n, Nat.le_refl, if_true]
theorem keepsOrder_ev {p : List Nat} {N : Nat} {w : AW} (h : rowL (w.1 12) p) (hl : p.length ≤ 6) (hN : 20 < N) :
    ∃ w', fX12_keepsOrder N (nI p.length) w = some w' ∧ Fr (fun o _ => o == 15) w w' ∧ rowL (w'.1 15) p := by
  have key := wh_cnt (body := lbX12_keepsOrder_2_1 N (nI p.length)) (n := p.length)
    (I := fun i s => ∃ w1, s = (nI i, w1) ∧ Fr (fun o _ => o == 15) w w1 ∧ ∀ k, k < i → w1.1 15 k = nI (p.getD k 0))
    (Q := fun w1 => Fr (fun o _ => o == 15) w w1 ∧ ∀ k, k < p.length → w1.1 15 k = nI (p.getD k 0)) ?_ ?_ (N := N) (i := 0) (s := (0, w)) ⟨w, rfl, Fr.rf, fun k hk => by omega⟩ (by omega) (by omega)
  · obtain ⟨w1, h1, h2, h3⟩ := key
    refine ⟨w1, by simp only [fX12_keepsOrder, h1, lw_eq, bd_some', bd2_some', gd_true], h2, fun i v hv => ?_⟩
    have hi : i < p.length := by
      rw [List.getElem?_eq_some_iff] at hv; exact hv.1
    rw [h3 i hi]
    rw [getD_some hi] at hv
    rw [Option.some.inj hv]
  · rintro i s hi ⟨w1, rfl, h2, h3⟩
    have e : w1.1 12 i = nI (p.getD i 0) := by rw [h2.at' _ rfl]; exact h.get hi
    refine ⟨(nI (i + 1), setI w1 15 i (nI (p.getD i 0))), ?_, _, rfl, h2.tr (Fr.set (by simp)), fun k hk => ?_⟩
    · simp (disch := omega) only [lbX12_keepsOrder_2_1, n0, n1, n2, n3, n4, n5, n6, n7, n8, n9, n10, n13, n16, n18, n20, n30, n32, n40, n48, n57, n59, n60, n64, n97, n99, n122, n126, n186, n200, n1000000, nadd, nmul, nlt, nle, neq, ntn, gd_n, lw_eq, bd_some', bd2_some', gd_true, if_neg (show ¬ p.length ≤ i by omega), e]
    · by_cases hki : k = i
      · subst hki; simp [setI1]
      · simp [setI1, hki, h3 k (by omega)]
  · rintro s ⟨w1, rfl, h2, h3⟩
    refine ⟨w1, ?_, h2, h3⟩
    simp (disch := omega) only [lbX12_keepsOrder_2_1, n0, n1, n2, n3, n4, n5, n6, n7, n8, n9, n10, n13, n16, n18, n20, n30, n32, n40, n48, n57, n59, n60, n64, n97, n99, n122, n126, n186, n200, n1000000, nadd, nmul, nlt, nle, neq, ntn, gd_n, Nat.le_refl, if_true]
def lf (p : List Nat) (i : Nat) : Nat := p.getD i 0
/-- the first that is more than all ahead of it -/
def bestG (f : List Nat → Int) (b : Int × List Nat) (p : List Nat) : Int × List Nat := if b.1 < f p then (f p, p) else b
theorem lf_inj {p : List Nat} (hn : p.Nodup) : ∀ i k, i < p.length → k < p.length → lf p i = lf p k → i = k := by
  intro i k hi hk h
  have h1 := getD_some hi
  have h2 := getD_some hk
  unfold lf at h
  exact (List.getElem?_inj hi hn).mp (h1.trans ((congrArg some h).trans h2.symm))
theorem Rd_0 {J : Nat → Nat → Nat} : Rd J 0 = J 1 := by funext j; simp [Rd]
/-- cells of the reference that orders write -/
def TO (o k : Nat) : Bool := TW o k || (o == 12) || (o == 15)
theorem TW_TO {o k : Nat} (h : TO o k = false) : TW o k = false := by simp only [TO, Bool.or_eq_false_iff] at h; exact h.1.1
/-- an order is worked -/
theorem work_ev {n bb : Nat} {J : Nat → Nat → Nat} {L lost nig : Nat → Nat} {day col left lg N tw : Nat} {w : AW} {p : List Nat} (hJ : MJs n J w) (hM : MLs L lost nig day col left w) (b : bL L lost nig day col left) (bj : bJ n J) (ha : n ≤ 6) (hm : tw < 64) (hlg : lg ≤ 9) (hN : 300 < N)
    (hp : rowL (w.1 12) p) (hpm : p ∈ prm n bb) :
    ∃ w', fX12_worksMany N (nI p.length) (nI n) (nI tw) (nI lg) w = some w' ∧ Fr TW w w' ∧ (∀ i, i < p.length → w'.1 14 (lf p i) = nI (dyS (sLg (sOf L lost nig) day lg) day (uN (L 1) col left J (Rd J tw) (lf p) (i + 1))))
      ∧ fX12_worthAll N (nI p.length) w' = some (zI (wN (dyS (sLg (sOf L lost nig) day lg) day) (L 1) col left (L 2) J (Rd J tw) (lf p) p.length)) ∧ fX12_lateMany N (nI p.length) w' = some (nI (ltN (dyS (sLg (sOf L lost nig) day lg) day) (L 1) col left J (Rd J tw) (lf p) p.length)) := by
  have hpl := prm_len hpm
  have hple := rmB_len n bb
  have hp1 : ∀ i, i < p.length → w.1 12 i = nI (lf p i) := fun i hi => hp.get hi
  have hp2 : ∀ i, i < p.length → lf p i < n := fun i hi => prm_mem hpm _ (getD_mem hi)
  obtain ⟨w', e1, e2, e3⟩ := worksMany_ev (m := p.length) (p := lf p) hJ hM b bj ha hm hlg hN (by omega) hp1 hp2 (lf_inj (prm_nodup hpm))
  have hp1' : ∀ i, i < p.length → w'.1 12 i = nI (lf p i) := fun i hi => by rw [e2.at' _ rfl]; exact hp1 i hi
  have hbd : ∀ i, i < p.length → dyS (sLg (sOf L lost nig) day lg) day (uN (L 1) col left J (Rd J tw) (lf p) (i + 1)) ≤ 1000 := fun i hi => by
    have h1 : ∀ k, k < p.length → Rd J tw (lf p k) ≤ 18 := fun k hk => by
      have := bj _ (hp2 k hk)
      unfold Rd; split <;> omega
    have := uN_le (st := L 1) (c0 := col) (l0 := left) (J := J) h1 b.2.2.1 b.2.2.2.2.2.2.2.2.2 (i + 1) (by omega)
    have hpos : 1 ≤ Rd J tw (lf p i) := by
      have := bj _ (hp2 i hi)
      unfold Rd; split <;> omega
    have := dyS_le (d0 := day) (u := uN (L 1) col left J (Rd J tw) (lf p) (i + 1)) b.2.2.2.2.2.2.2.1 (sLg_pos (d0 := day) (lg := lg) (sOf_pos (lost := lost) (nig := nig) b.1)) (uN_pos hpos) (by omega)
    omega
  have hf : w'.1 2 2 = nI (L 2) := by rw [e2.at' _ rfl]; exact hM.1 2 (by omega)
  have hJ' : MJs n J w' := hJ.fr e2 (fun k => rfl)
  exact ⟨w', e1, e2, e3, worthAll_ev hJ' bj ha hf b.2.2.2.1 (by omega) hp1' hp2 e3 hbd (by omega), lateMany_ev hJ' bj ha (by omega) hp1' hp2 e3 hbd (by omega)⟩
theorem mostOfAll_ev {n bb : Nat} {bI : Int32} {J : Nat → Nat → Nat} {L lost nig : Nat → Nat} {day col left N : Nat} {w : AW} (hJ : MJs n J w) (hM : MLs L lost nig day col left w) (b : bL L lost nig day col left) (bj : bJ n J) (ha : n ≤ 6) (hbb : bb ≤ 6) (hb : ∀ j, j < n → ((nI j = bI) ↔ j = bb)) (hN : 800 < N) :
    ∃ w' mo ch, fX12_mostOfAll N (nI n) bI w = some (zI mo, w') ∧ Fr TO w w' ∧ rowL (w'.1 15) ch ∧ (mo, ch) = (prm n bb).foldl (bestG (fun p => wN (dyS (sOf L lost nig) day) (L 1) col left (L 2) J (J 1) (lf p) p.length)) (-2147483648, []) := by
  obtain ⟨w1, e1, e2, e3⟩ := firstOrder_ev (N := N) (w := w) ha hb (by omega)
  have hs0 : sLg (sOf L lost nig) day 0 = sOf L lost nig := by funext d; simp [sLg]
  obtain ⟨a', w', k1, k2⟩ := ord_ind (N := N) (n := n) (bb := bb) (m := (rmB n bb).length) (body := lbX12_mostOfAll_15_1 N (nI n) (nI (rmB n bb).length))
    (V := fun (x : Int × List Nat) a w2 => a = zI x.1 ∧ -2147483648 ≤ x.1 ∧ x.1 ≤ 1000 ∧ Fr TO w w2 ∧ rowL (w2.1 15) x.2)
    (g := bestG (fun p => wN (dyS (sOf L lost nig) day) (L 1) col left (L 2) J (J 1) (lf p) p.length))
    hN ha hbb rfl
    (fun x a w2 w3 hv hf => ⟨hv.1, hv.2.1, hv.2.2.1, hv.2.2.2.1.tr (hf.wd (fun o k h => by simp only [TO, Bool.or_eq_false_iff] at h; exact h.1.2)), by
      intro i v h; rw [hf.at' _ rfl]; exact hv.2.2.2.2 i v h⟩)
    (fun x p a w2 hv hr hp => by
      obtain ⟨rfl, hv1, hv2, hv3, hv4⟩ := hv
      have hJ2 : MJs n J w2 := hJ.fr hv3 (fun k => rfl)
      have hM2 : MLs L lost nig day col left w2 := hM.fr hv3 (fun k => rfl) (fun k => rfl) (fun k => rfl) rfl rfl rfl
      have hpl := prm_len hp
      have hple := rmB_len n bb
      obtain ⟨w3, g1, g2, g3, g4, g5⟩ := work_ev (tw := 0) (lg := 0) (N := N) hJ2 hM2 b bj ha (by omega) (by omega) (by omega) hr hp
      rw [hs0, Rd_0] at g4
      have hbd := wN_bd (dy := dyS (sOf L lost nig) day) (st := L 1) (c0 := col) (l0 := left) (fine := L 2) (J := J) (R := J 1) (p := lf p) (all := n) (m := p.length) bj b.2.2.2.1 (fun i hi => prm_mem hp _ (getD_mem hi)) p.length (Nat.le_refl _)
      generalize hV : wN (dyS (sOf L lost nig) day) (L 1) col left (L 2) J (J 1) (lf p) p.length = v at *
      have hr3 : rowL (w3.1 12) p := fun i v h => by rw [g2.at' _ rfl]; exact hr i v h
      have hF3 : Fr TO w w3 := hv3.tr (g2.wd (fun o k h => TW_TO h))
      by_cases hc : x.1 < v
      · obtain ⟨w4, q1, q2, q3⟩ := keepsOrder_ev (N := N) hr3 (by omega) (by omega)
        refine ⟨zI v, w4, ?_, fun i u h => by rw [q2.at' _ rfl]; exact hr3 i u h, fun r w'' hn => ?_⟩
        · simp only [bestG, hV, hc, if_true]
          exact ⟨trivial, by omega, by omega, hF3.tr (q2.wd (fun o k h => by simp only [TO, Bool.or_eq_false_iff] at h; exact h.2)), q3⟩
        · rw [hpl] at g1 g4 q1
          simp (disch := omega) only [lbX12_mostOfAll_15_1, n0, n1, neq, if_neg (show ¬ 1 = 0 by omega), g1, g4, lw_eq, bd_some', bd2_some', gd_true, zle, if_neg (show ¬ v ≤ x.1 by omega), q1, hn]
      · refine ⟨zI x.1, w3, ?_, hr3, fun r w'' hn => ?_⟩
        · simp only [bestG, hV, hc, if_false]
          exact ⟨trivial, hv1, hv2, hF3, fun i u h => by rw [g2.at' _ rfl]; exact hv4 i u h⟩
        · rw [hpl] at g1 g4
          simp (disch := omega) only [lbX12_mostOfAll_15_1, n0, n1, neq, if_neg (show ¬ 1 = 0 by omega), g1, g4, lw_eq, bd_some', bd2_some', gd_true, zle, if_pos (show v ≤ x.1 by omega), hn])
    (fun a w2 => by simp only [lbX12_mostOfAll_15_1, if_true])
    (b := (-2147483648, [])) (a := -2147483648) (w := w1) ⟨rfl, by simp, by simp, e2.wd (fun o k h => by simp only [TO, Bool.or_eq_false_iff] at h; exact h.1.2), fun i v h => by simp at h⟩ e3
  refine ⟨w', _, _, ?_, k2.2.2.2.1, k2.2.2.2.2, rfl⟩
  have := k2.1
  subst this
  simp only [fX12_mostOfAll, e1, lw_eq, bd_some', bd2_some', gd_true, k1]
