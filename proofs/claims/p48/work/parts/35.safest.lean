/-! 35: the program's SAFEST -/
def bestP (f : List Nat → Int) (pre : List Nat) (b : Int × List Nat) (p : List Nat) : Int × List Nat := if b.1 < f p then (f p, pre ++ p) else b
theorem bestP_stay {f : List Nat → Int} {pre : List Nat} {b : Int × List Nat} : ∀ {l : List (List Nat)}, (∀ p ∈ l, f p ≤ b.1) → l.foldl (bestP f pre) b = b := by
  intro l
  induction l with
  | nil => intro _; rfl
  | cons p l ih =>
    intro h
    have hp := h p List.mem_cons_self
    rw [List.foldl_cons, show bestP f pre b p = b from if_neg (by omega)]
    exact ih (fun q hq => h q (List.mem_cons_of_mem _ hq))
theorem foldl_congr' {α β : Type} {f g : β → α → β} : ∀ {l : List α} {b : β}, (∀ b x, x ∈ l → f b x = g b x) → l.foldl f b = l.foldl g b := by
  intro l
  induction l with
  | nil => intro b _; rfl
  | cons x l ih => intro b h; rw [List.foldl_cons, List.foldl_cons, h b x List.mem_cons_self]; exact ih (fun b y hy => h b y (List.mem_cons_of_mem _ hy))
theorem shlk {x : Int32} {y : Int32} {c : Nat} (h : y.toBitVec.smod 32 = BitVec.ofNat 32 c) (hc : c < 32) : x <<< y = x * nI (2 ^ c) := by
  apply Int32.toBitVec_inj.mp
  rw [Int32.toBitVec_shiftLeft, Int32.toBitVec_mul, h, BitVec.shiftLeft_eq', BitVec.shiftLeft_eq_mul_twoPow]
  congr 1
  apply BitVec.eq_of_toNat_eq
  rw [BitVec.toNat_twoPow]
  simp only [nI, Int32.toBitVec_ofNat', BitVec.toNat_ofNat]
  rw [Nat.mod_eq_of_lt (a := c) (by omega)]
theorem shl4 {s k : Nat} (hk : k ≤ 6) (hs : s * 4 ^ k ≤ 4096) : nI s <<< (nI (2 * k) &&& 31) = nI (s * 4 ^ k) := by
  have h : ∀ k, k < 7 → (nI (2 * k) &&& 31).toBitVec.smod 32 = BitVec.ofNat 32 (2 * k) := by decide +kernel
  rw [shlk (h k (by omega)) (by omega), nmul, Nat.pow_mul]
theorem svO_le {dy : Nat → Nat} {st c0 l0 odds was : Nat} {J : Nat → Nat → Nat} {l : List Nat} (ho : odds ≤ 4) : ∀ {o : List (Nat × Nat)}, svO dy st c0 l0 odds J was l o ≤ (sO o * 4 ^ l.length : Nat) ∧ 0 ≤ svO dy st c0 l0 odds J was l o := by
  intro o
  induction o with
  | nil => simp [svO, sO]
  | cons q o ih =>
    have h := svL_bd (dy := dy) (st := st) (c0 := c0) (l0 := l0) (J := J) (l := l) (u := q.1) (was := was) ho
    have h1 := Int.mul_le_mul_of_nonneg_left h.2 (show (0 : Int) ≤ (q.2 : Int) by omega)
    have h2 := Int.mul_nonneg (show (0 : Int) ≤ (q.2 : Int) by omega) h.1
    have e : ((sO (q :: o) * 4 ^ l.length : Nat) : Int) = (q.2 : Int) * 4 ^ l.length + ((sO o * 4 ^ l.length : Nat) : Int) := by
      simp only [sO, Nat.add_mul, Int.natCast_add, Int.natCast_mul, Int.natCast_pow]; rfl
    rw [e]
    simp only [svO]
    omega
def TV (d o k : Nat) : Bool := ((o == 53 || o == 54) && decide (2 ^ (d + 1) ≤ k)) || (o == 52 && (k == 7 || k == 8)) || (o == 55 && decide (d + 1 ≤ k)) || (o == 56) || (o == 57)
theorem TV_lo {d o k : Nat} (h : o < 52) : TV d o k = false := by
  have h1 : (o == 53) = false := by simp; omega
  have h2 : (o == 54) = false := by simp; omega
  have h3 : (o == 52) = false := by simp; omega
  have h4 : (o == 55) = false := by simp; omega
  have h5 : (o == 56) = false := by simp; omega
  have h6 : (o == 57) = false := by simp; omega
  simp [TV, h1, h2, h3, h4, h5, h6]
theorem CB.tv {dy : Nat → Nat} {st c0 l0 fine odds late n d : Nat} {J : Nat → Nat → Nat} {w w' : AW} (h : CB dy st c0 l0 fine odds late n J w) (f : Fr (TV d) w w') : CB dy st c0 l0 fine odds late n J w' :=
  h.fr f (fun k => TV_lo (by omega)) (fun k => TV_lo (by omega)) (fun i hi k => TV_lo (by omega)) rfl
theorem TS_TV {d o k : Nat} (h : TV d o k = false) : TS d o k = false := by
  simp only [TV, TS, Bool.or_eq_false_iff, Bool.and_eq_false_iff, decide_eq_false_iff_not, beq_eq_false_iff_ne] at h ⊢
  omega
theorem TV_TV {d o k : Nat} (h : TV d o k = false) : TV (d + 1) o k = false := by
  have : 2 ^ (d + 1 + 1) = 2 ^ (d + 1) * 2 := Nat.pow_succ ..
  simp only [TV, Bool.or_eq_false_iff, Bool.and_eq_false_iff, decide_eq_false_iff_not, beq_eq_false_iff_ne] at h ⊢
  omega
theorem rowO.fr {d : Nat} {l : List (Nat × Nat)} {w w' : AW} (h : rowO d l w) (hl : l.length ≤ 2 ^ d) (f : Fr (TV d) w w') : rowO d l w' := by
  obtain ⟨h1, h2⟩ := h
  have hp : 2 ^ (d + 1) = 2 ^ d * 2 := Nat.pow_succ ..
  refine ⟨by rw [f.at' _ (by simp [TV])]; exact h1, fun i q hq => ?_⟩
  have hi : i < l.length := by rw [List.getElem?_eq_some_iff] at hq; exact hq.1
  rw [f.at' _ (by simp [TV]; omega), f.at' _ (by simp [TV]; omega)]
  exact h2 i q hq
theorem swalk_ev {dy : Nat → Nat} {st c0 l0 fine odds n N : Nat} {J : Nat → Nat → Nat} (bc : bC dy st c0 l0 fine odds) (bj : bJ n J) (hn : n ≤ 6) (hN : 100 < N) :
    ∀ (f k : Nat) (pre : List Nat) (g was : Nat) (out : List (Nat × Nat)) (mo : Int) (ch : List Nat) (w : AW), k < f → CB dy st c0 l0 fine odds 0 n J w → pre.length + k = n → w.1 52 8 = zI mo → -1 ≤ mo → mo ≤ 5000 →
      (rmX 0 n g).length = k → g < 64 → rowL (w.1 56) pre → rowL (w.1 57) ch → was ≤ 1 → okO pre.length out → rowO pre.length out w →
      ∃ w' mo' ch', fX2_walk N f 2 (nI pre.length) (nI was) (nI g) (nI (sO out)) w = some w' ∧ Fr (TV pre.length) w w' ∧ rowL (w'.1 56) pre ∧ w'.1 52 8 = zI mo' ∧ rowL (w'.1 57) ch' ∧ -1 ≤ mo' ∧ mo' ≤ 5000 ∧
        (mo', ch') = (pms k (rmX 0 n g)).foldl (bestP (fun p => svO dy st c0 l0 odds J was p out) pre) (mo, ch) := by
  have bo := bc.2.2.2.2.1
  intro f
  induction f with
  | zero => intro k _ _ _ _ _ _ _ h; omega
  | succ f ih =>
    intro k pre g was out mo ch w hf hB hpk hmo hm1 hm2 hk hg hr hr57 hwas hok hrow
    have h4 : 4 ^ pre.length * 4 ^ k = 4 ^ n := by rw [← Nat.pow_add, hpk]
    have h4n := four_le hn
    have hso : sO out * 4 ^ k ≤ 4096 := by
      have := Nat.mul_le_mul_right (4 ^ k) hok.2.1
      omega
    have hsh : nI (sO out) <<< ((2 * (nI n - nI pre.length)) &&& 31) = nI (sO out * 4 ^ k) := by
      rw [nsub (by omega), n2, nmul, show n - pre.length = k by omega]
      exact shl4 (by omega) hso
    by_cases hcut : mo < ((sO out * 4 ^ k : Nat) : Int)
    · have hc1 : zI mo < nI (sO out * 4 ^ k) := by rw [zI_nI, zlt (by omega) (by omega) (by omega) (by omega)]; exact hcut
      cases k with
      | zero =>
        refine ⟨cpyI (setI w 52 8 (nI (sO out))) 56 0 57 0 6, (sO out : Int), pre, ?_, (Fr.set (by simp [TV])).tr (Fr.cpy (fun k => by simp [TV])), ?_, ?_, ?_, by omega, by simp at hso; omega, ?_⟩
        · have hnn : ¬ nI pre.length < nI n := by rw [nlt (by omega) (by omega)]; omega
          simp only [fX2_walk, fX2_walk_b, lw_eq, bd_some', bd2_some', gd_true, hB.2.1.1, hmo, hsh, hc1, if_true, hnn, if_false]
          rfl
        · intro i v hv; simp [cpyI1, setI1]; exact hr i v hv
        · simp [cpyI1, setI1, zI_nI]
        · intro i v hv
          have hi : i < 6 := by
            rw [List.getElem?_eq_some_iff] at hv; have := hv.1; omega
          simp [cpyI1, setI1, hi]; exact hr i v hv
        · rw [Nat.pow_zero, Nat.mul_one] at hcut
          simp [pms, bestP, svO_nil, hcut]
      | succ k =>
        have key := wh_cnt (body := lbX2_walk_52_1 N (fun o0 a1 a2 a3 a4 w => fX2_walk N f o0 a1 a2 a3 a4 w) 2 (nI pre.length) (nI was) (nI g)) (n := n)
          (I := fun x s => ∃ w1 mo1 ch1, s = (nI x, w1) ∧ Fr (TV pre.length) w w1 ∧ rowL (w1.1 56) pre ∧ w1.1 52 8 = zI mo1 ∧ rowL (w1.1 57) ch1 ∧ -1 ≤ mo1 ∧ mo1 ≤ 5000 ∧
            (rmX x n g).foldl (fun acc j => ((pms k ((rmX 0 n g).erase j)).map (fun p => j :: p)).foldl (bestP (fun p => svO dy st c0 l0 odds J was p out) pre) acc) (mo1, ch1) = (pms (k + 1) (rmX 0 n g)).foldl (bestP (fun p => svO dy st c0 l0 odds J was p out) pre) (mo, ch))
          (Q := fun w1 => ∃ mo1 ch1, Fr (TV pre.length) w w1 ∧ rowL (w1.1 56) pre ∧ w1.1 52 8 = zI mo1 ∧ rowL (w1.1 57) ch1 ∧ -1 ≤ mo1 ∧ mo1 ≤ 5000 ∧ (mo1, ch1) = (pms (k + 1) (rmX 0 n g)).foldl (bestP (fun p => svO dy st c0 l0 odds J was p out) pre) (mo, ch))
          ?_ ?_ (N := N) (i := 0) (s := (0, w)) ⟨w, mo, ch, rfl, Fr.rf, hr, hmo, hr57, hm1, hm2, by rw [pms, List.foldl_flatMap]⟩ (by omega) (by omega)
        · obtain ⟨w1, e1, mo1, ch1, e2, e3, e4, e5, e6, e7, e8⟩ := key
          refine ⟨w1, mo1, ch1, ?_, e2, e3, e4, e5, e6, e7, e8⟩
          have hnn : nI pre.length < nI n := by rw [nlt (by omega) (by omega)]; omega
          simp only [fX2_walk, fX2_walk_b, lw_eq, bd_some', bd2_some', gd_true, hB.2.1.1, hmo, hsh, hc1, if_true, hnn, e1]
        · rintro x s hx ⟨w1, mo1, ch1, rfl, hF, g1, g2, g3, g4, g4', g5⟩
          have hB1 := hB.tv hF
          have hrow1 := hrow.fr hok.1 hF
          rw [rmX_step hx] at g5
          by_cases hb : g.testBit x = true
          · rw [if_pos hb] at g5
            refine ⟨(nI (x + 1), w1), ?_, w1, mo1, ch1, rfl, hF, g1, g2, g3, g4, g4', g5⟩
            have hb0 : ¬ (((nI g >>> (nI x &&& 31)) &&& 1) = 0) := by rw [bt0 hg (by omega), hb]; simp
            rw [lbX2_walk_52_1]
            simp only [hb0, if_false]
            simp (disch := omega) only [n0, n1, n2, n3, n4, n5, n6, n7, n8, n9, n10, n13, n16, n18, n20, n30, n32, n40, n48, n57, n59, n60, n64, n97, n99, n122, n126, n186, n200, n1000000, nadd, nmul, nlt, nle, neq, ntn, gd_n, lw_eq, bd_some', bd2_some', gd_true, hB1.2.1.1, if_neg (show ¬ n ≤ x by omega)]
          · rw [if_neg hb, List.foldl_cons] at g5
            have hbf : g.testBit x = false := by simpa using hb
            have hb0 : ((nI g >>> (nI x &&& 31)) &&& 1) = 0 := by rw [bt0 hg (by omega), hbf]
            have hxm : x ∈ rmX 0 n g := rmX_mem.mpr ⟨hx, hbf⟩
            have bx := bj x hx
            have hw2F : Fr (TV pre.length) w1 (setI w1 56 pre.length (nI x)) := Fr.set (by simp [TV])
            have hB2 := hB1.tv hw2F
            have hrow2 := hrow1.fr hok.1 hw2F
            obtain ⟨w3, s1, s2, s3, s4⟩ := spread_ev (N := N) hB2 bc bj hn (by omega) hN (lv := pre.length) (was := was) (j := x) (l := out) (by omega) hok hrow2 hx hwas
            have hB3 := hB2.ts s2
            have hokn := okO_next (dy := dy) (st := st) (c0 := c0) (l0 := l0) (late := 0) (J := J) (was := was) (j := x) hok bo bc.1 bc.2.2.1 bx.2.2.1
            have hcol := (hB2.2.1.2 x hx).2.2.1
            have hlen : ((rmX 0 n g).erase x).length = k := by rw [List.length_erase_of_mem hxm]; omega
            have hrw : rowL (w3.1 56) (pre ++ [x]) := by
              intro i v hv
              rw [s2.at' _ rfl]
              rw [List.getElem?_append] at hv
              by_cases hi : i < pre.length
              · rw [if_pos hi] at hv
                simp [setI1, show ¬ i = pre.length by omega]; exact g1 i v hv
              · rw [if_neg hi] at hv
                cases hq : i - pre.length with
                | zero =>
                  rw [hq] at hv
                  simp at hv
                  simp [setI1, show i = pre.length by omega, hv]
                | succ y => rw [hq] at hv; simp at hv
            rw [rmX_erase] at hlen g5
            have hpl : (pre ++ [x]).length = pre.length + 1 := by simp
            obtain ⟨w4, mo3, ch3, r1, r2, r3, r4, r5, r6, r6', r7⟩ := ih k (pre ++ [x]) (g ||| 1 <<< x) (J 2 x) (sprd dy st c0 l0 odds 0 J was x out) mo1 ch1 w3 (by omega) hB3 (by rw [hpl]; omega)
              (by rw [s2.at' _ rfl]; simp [setI1, g2]) g4 g4' hlen (btlt hg (by omega)) hrw (by intro i v hv; rw [s2.at' _ rfl]; simp [setI1]; exact g3 i v hv) bx.2.2.2.1 (by rw [hpl]; exact hokn) (by rw [hpl]; exact s3)
            rw [hpl] at r1 r2
            refine ⟨(nI (x + 1), w4), ?_, w4, mo3, ch3, rfl, hF.tr (hw2F.tr ((s2.wd (fun o k h => TS_TV h)).tr (r2.wd (fun o k h => TV_TV h)))), ?_, r4, r5, r6, r6', ?_⟩
            · rw [lbX2_walk_52_1]
              simp only [hb0, if_true]
              simp (disch := omega) only [n0, n1, nadd, nle, ntn, gd_n, lw_eq, bd_some', bd2_some', gd_true, hB1.2.1.1, if_neg (show ¬ n ≤ x by omega), s1]
              rw [← n1, btor hg (by omega), hcol, r1]
              rfl
            · intro i v hv
              exact r3 i v (by rw [List.getElem?_append, if_pos (by rw [List.getElem?_eq_some_iff] at hv; exact hv.1)]; exact hv)
            · rw [← g5]
              congr 1
              rw [r7, List.foldl_map]
              congr 1
              funext b p
              simp only [bestP, svO_next bo, List.append_assoc, List.singleton_append]
        · rintro s ⟨w1, mo1, ch1, rfl, hF, g1, g2, g3, g4, g4', g5⟩
          have hB1 := hB.tv hF
          rw [rmX_out (Nat.le_refl n)] at g5
          refine ⟨w1, ?_, mo1, ch1, hF, g1, g2, g3, g4, g4', g5⟩
          simp (disch := omega) only [lbX2_walk_52_1, n0, n1, n2, n3, n4, n5, n6, n7, n8, n9, n10, n13, n16, n18, n20, n30, n32, n40, n48, n57, n59, n60, n64, n97, n99, n122, n126, n186, n200, n1000000, nadd, nmul, nlt, nle, neq, ntn, gd_n, lw_eq, bd_some', bd2_some', gd_true, hB1.2.1.1, Nat.le_refl, if_true]
    · have hc1 : ¬ zI mo < nI (sO out * 4 ^ k) := by rw [zI_nI, zlt (by omega) (by omega) (by omega) (by omega)]; exact hcut
      refine ⟨w, mo, ch, ?_, Fr.rf, hr, hmo, hr57, hm1, hm2, (bestP_stay (fun p hp => ?_)).symm⟩
      · simp only [fX2_walk, fX2_walk_b, lw_eq, bd_some', bd2_some', gd_true, hB.2.1.1, hmo, hsh, hc1, if_false]
      · have hpl := (pms_perm hk hp).length_eq
        have := (svO_le (dy := dy) (st := st) (c0 := c0) (l0 := l0) (odds := odds) (J := J) (was := was) (l := p) bo (o := out)).1
        rw [hpl, hk] at this
        show svO dy st c0 l0 odds J was p out ≤ mo
        omega
def TD (o k : Nat) : Bool := (o == 52) || (o == 53) || (o == 54) || (o == 55) || (o == 56) || (o == 57)
theorem surest_ev {dy : Nat → Nat} {st c0 l0 fine odds n N : Nat} {J : Nat → Nat → Nat} {w : AW} (hC : CCo dy st c0 l0 fine odds w) (hJ : CJo 2 n J w) (bc : bC dy st c0 l0 fine odds) (bj : bJ n J) (hn : n ≤ 6) (hN : 100 < N) :
    ∃ w' mo ch, fX2_surest N 2 w = some (zI mo, w') ∧ Fr TD w w' ∧ rowL (w'.1 57) ch ∧ -1 ≤ mo ∧ mo ≤ 5000 ∧ (mo, ch) = (prm n 6).foldl (bestG (fun p => svL dy st c0 l0 odds J 0 0 p)) (-1, []) := by
  obtain ⟨w0, b1, b2, b3, b4⟩ := begin_ev (late := 0) hC hJ (by omega)
  have hF : Fr (TV 0) w0 (setI w0 52 8 (-1)) := Fr.set (by simp [TV])
  have hrm : rmX 0 n 0 = rmB n 6 := by
    have := rmX_rmB (n := n) (b := 6) (Or.inr rfl) hn
    rwa [if_neg (by omega)] at this
  have hlen : (rmB n 6).length = n := by rw [rmB_all hn, List.length_range]
  obtain ⟨w', mo, ch, e1, e2, e3, e4, e5, e6, e7, e8⟩ := swalk_ev bc bj hn hN 8 n [] 0 0 [(0, 1)] (-1) [] (setI w0 52 8 (-1)) (by omega) (b3.tv hF) (by simp) (by simp [setI1]; rfl) (by omega) (by omega) (by rw [hrm, hlen]) (by omega) (fun i v h => by simp at h) (fun i v h => by simp at h) (by omega)
    ⟨by simp, by simp [sO], fun q hq => by simp at hq; subst hq; simp⟩ (b4.fr (by simp) hF)
  have hTV : ∀ {o k : Nat}, TD o k = false → TV 0 o k = false := fun {o k} h => by
    simp only [TD, TV, Bool.or_eq_false_iff, Bool.and_eq_false_iff, decide_eq_false_iff_not, beq_eq_false_iff_ne] at h ⊢
    omega
  refine ⟨w', mo, ch, ?_, (b2.wd (fun o k h => ?_)).tr ((hF.wd (fun o k h => hTV h)).tr (e2.wd (fun o k h => hTV h))), e5, e6, e7, ?_⟩
  · have e1' : fX2_walk N 8 2 0 0 0 1 (setI w0 52 8 (-1)) = some w' := e1
    rw [show nI 0 = 0 from rfl] at b1
    simp only [fX2_surest, b1, lw_eq, bd_some', bd2_some', gd_true, e1', e4]
  · simp only [TD, TC, Bool.or_eq_false_iff] at h ⊢
    exact h.1.1
  · rw [e8, hrm]
    unfold prm
    rw [hlen]
    congr 1
    funext b p
    simp [bestP, bestG, svO]

