/-! 63: words of a text -/
def nmN : List (List Nat) := [[115, 108, 111, 116, 115], [115, 101, 116, 116, 105, 110, 103], [102, 105, 110, 101], [106, 111, 98], [119, 101, 100, 100, 105, 110, 103], [112, 111, 115, 116, 101, 114], [116, 105, 99, 107, 101, 116], [117, 114, 103, 101, 110, 116], [104, 97, 108, 102], [98, 108, 97, 99, 107], [98, 121], [102, 111, 114]]
def hsh (l : List Nat) : Nat := l.foldl (fun a b => 27 * a + (b - 96)) 0
def hsR (l : List Nat) : Nat := l.foldr (fun b a => 27 * a + (b - 96)) 0
theorem hsh_rev (l : List Nat) : hsh l = hsR l.reverse := by
  unfold hsh hsR; rw [List.foldr_reverse]
theorem hsR_inj : ∀ {l l' : List Nat}, (∀ x ∈ l, 97 ≤ x ∧ x ≤ 122) → (∀ x ∈ l', 97 ≤ x ∧ x ≤ 122) → hsR l = hsR l' → l = l' := by
  intro l
  induction l with
  | nil =>
    intro l' _ h2 h
    cases l' with
    | nil => rfl
    | cons b t =>
      have := h2 b (by simp)
      simp only [hsR, List.foldr] at h
      omega
  | cons a t ih =>
    intro l' h1 h2 h
    have ha := h1 a (by simp)
    cases l' with
    | nil => simp only [hsR, List.foldr] at h; omega
    | cons b t' =>
      have hb := h2 b (by simp)
      have e : 27 * hsR t + (a - 96) = 27 * hsR t' + (b - 96) := h
      have e1 : hsR t = hsR t' := by omega
      have e2 : a = b := by omega
      rw [e2, ih (fun x hx => h1 x (by simp [hx])) (fun x hx => h2 x (by simp [hx])) e1]
theorem hsh_inj {l l' : List Nat} (h1 : ∀ x ∈ l, 97 ≤ x ∧ x ≤ 122) (h2 : ∀ x ∈ l', 97 ≤ x ∧ x ≤ 122) (h : hsh l = hsh l') : l = l' := by
  rw [hsh_rev, hsh_rev] at h
  have := hsR_inj (fun x hx => h1 x (List.mem_reverse.mp hx)) (fun x hx => h2 x (List.mem_reverse.mp hx)) h
  exact List.reverse_inj.mp this
theorem hsR_lt : ∀ {l : List Nat}, (∀ x ∈ l, x ≤ 122) → hsR l < 27 ^ l.length := by
  intro l
  induction l with
  | nil => intro _; decide
  | cons a t ih =>
    intro h
    have h1 := ih (fun x hx => h x (by simp [hx]))
    have h2 := h a (by simp)
    have e : hsR (a :: t) = 27 * hsR t + (a - 96) := rfl
    rw [e, List.length_cons, Nat.pow_succ]
    omega
theorem hsh_lt {l : List Nat} (h : ∀ x ∈ l, x ≤ 122) (hl : l.length ≤ 8) : hsh l < 282429536482 := by
  rw [hsh_rev]
  have := hsR_lt (l := l.reverse) (fun x hx => h x (List.mem_reverse.mp hx))
  rw [List.length_reverse] at this
  have h2 : 27 ^ l.length ≤ 27 ^ 8 := Nat.pow_le_pow_right (by omega) hl
  have : (27 : Nat) ^ 8 = 282429536481 := by decide
  omega
def tokL (Y : Nat → Nat) (p m : Nat) : List Nat := (List.range m).map (fun k => Y (p + k))
theorem tokL_len {Y : Nat → Nat} {p m : Nat} : (tokL Y p m).length = m := by simp [tokL]
theorem tokL_snoc {Y : Nat → Nat} {p m : Nat} : tokL Y p (m + 1) = tokL Y p m ++ [Y (p + m)] := by
  simp [tokL, List.range_succ]
theorem tokL_mem {Y : Nat → Nat} {p m x : Nat} (h : x ∈ tokL Y p m) : ∃ k, k < m ∧ x = Y (p + k) := by
  unfold tokL at h
  obtain ⟨k, h1, h2⟩ := List.mem_map.mp h
  exact ⟨k, by simpa using h1, h2.symm⟩
theorem L_add (a b : Int) : Int64.ofInt a + Int64.ofInt b = Int64.ofInt (a + b) := (Int64.ofInt_add a b).symm
theorem L_mul (a b : Int) : Int64.ofInt a * Int64.ofInt b = Int64.ofInt (a * b) := (Int64.ofInt_mul a b).symm
theorem L_sub (a b : Int) : Int64.ofInt a - Int64.ofInt b = Int64.ofInt (a - b) := (Int64.ofInt_sub a b).symm
theorem L_inj {a b : Nat} (ha : a < 9223372036854775808) (hb : b < 9223372036854775808) : (Int64.ofNat a = Int64.ofNat b) = (a = b) := by
  rw [← Int64.toInt_inj, Int64.toInt_ofNat_of_lt (by omega), Int64.toInt_ofNat_of_lt (by omega)]
  exact propext Int.ofNat_inj
theorem L_nI {y : Nat} (hy : y < 256) : (nI y).toInt64 = Int64.ofInt y := by
  apply Int64.toInt_inj.mp
  rw [Int32.toInt_toInt64, Int64.toInt_ofInt_of_le (by omega) (by omega), zI_nI, ztoInt (by omega) (by omega)]
theorem wdF_hsh {Y : Nat → Nat} {p : Nat} (hY : ∀ i, Y i < 256) : ∀ {k : Nat}, k ≤ 8 → (∀ x ∈ tokL Y p k, 97 ≤ x) → wdF Y p k = Int64.ofNat (hsh (tokL Y p k)) := by
  intro k
  induction k with
  | zero => intro _ _; rfl
  | succ k ih =>
    intro hk h
    rw [tokL_snoc] at h ⊢
    have h1 := ih (by omega) (fun x hx => h x (by simp [hx]))
    have h2 := h (Y (p + k)) (by simp)
    simp only [wdF]
    rw [if_neg (by omega), h1, L_nI (hY _), show (27 : Int64) = Int64.ofInt 27 from rfl, show (96 : Int64) = Int64.ofInt 96 from rfl, ← Int64.ofInt_eq_ofNat, L_mul, L_add, L_sub, ← Int64.ofInt_eq_ofNat]
    congr 1
    unfold hsh
    rw [List.foldl_append]
    simp only [List.foldl]
    omega
theorem wdF_long {Y : Nat → Nat} {p k : Nat} (hk : 8 < k) : wdF Y p k = -1 := by
  obtain ⟨m, rfl⟩ : ∃ m, k = m + 1 := ⟨k - 1, by omega⟩
  simp only [wdF]
  rw [if_pos (by omega)]
/-- a word of letters is a name, by its number -/
theorem word_iff {Y : Nat → Nat} {p m : Nat} {l : List Nat} (hY : ∀ i, Y i < 256) (h : ∀ x ∈ tokL Y p m, 97 ≤ x ∧ x ≤ 122) (hl : ∀ x ∈ l, 97 ≤ x ∧ x ≤ 122) (h8 : l.length ≤ 8) : (wdF Y p m = Int64.ofNat (hsh l)) = (tokL Y p m = l) := by
  have b2 := hsh_lt (fun x hx => (hl x hx).2) h8
  by_cases hm : m ≤ 8
  · have b1 := hsh_lt (fun x hx => (h x hx).2) (by rw [tokL_len]; exact hm)
    rw [wdF_hsh hY hm (fun x hx => (h x hx).1), L_inj (by omega) (by omega)]
    exact propext ⟨fun q => hsh_inj h hl q, fun q => by rw [q]⟩
  · rw [wdF_long (by omega)]
    apply propext
    constructor
    · intro q
      have := congrArg Int64.toInt q
      rw [Int64.toInt_ofNat_of_lt (by omega), show (-1 : Int64).toInt = -1 from rfl] at this
      omega
    · intro q
      have := congrArg List.length q
      rw [tokL_len] at this
      omega
theorem nm_ok : ∀ i, i < 12 → (nmN.getD i []).length ≤ 8 ∧ (∀ x ∈ nmN.getD i [], 97 ≤ x ∧ x ≤ 122) ∧ lenS.getD i 0 = (nmN.getD i []).length := by decide
theorem nm_byte : ∀ i, i < 12 → ∀ x, x < 8 → x < (nmN.getD i []).length → ((((bytS.getD i []).getD x 0) &&& 255).toUInt32 % 65536).toInt32 = nI ((nmN.getD i []).getD x 0) ∧ isc (nI ((nmN.getD i []).getD x 0)) = true := by decide
theorem len_ev {i : Nat} (hi : i < 12) (w : AW) : fJ0_length_8abf5 i w = some (nI (nmN.getD i []).length) := by
  have h := (nm_ok i hi).2.2
  simp only [fJ0_length_8abf5, fJ0_coder_7d493, bd_some', h]
  congr 1
  have h8 := (nm_ok i hi).1
  generalize (nmN.getD i []).length = k at h8
  have : k = 0 ∨ k = 1 ∨ k = 2 ∨ k = 3 ∨ k = 4 ∨ k = 5 ∨ k = 6 ∨ k = 7 ∨ k = 8 := by omega
  rcases this with rfl | rfl | rfl | rfl | rfl | rfl | rfl | rfl | rfl <;> rfl
theorem char_ev {i x : Nat} (hi : i < 12) (hx : x < (nmN.getD i []).length) (w : AW) : fJ0_charAt_5068e i (nI x) w = some (nI ((nmN.getD i []).getD x 0)) := by
  obtain ⟨h8, hl, he⟩ := nm_ok i hi
  obtain ⟨h1, h2⟩ := nm_byte i hi x (by omega) hx
  have hn : ¬ nI x < 0 := by rw [n0, nlt (by omega) (by omega)]; omega
  have hlt : nI x < Int32.ofNat (nmN.getD i []).length := by
    have : nI x < nI (nmN.getD i []).length := by rw [nlt (by omega) (by omega)]; exact hx
    exact this
  simp only [fJ0_charAt_5068e, fJ0_isLatin1_aae02, bd_some', show ¬ ((1 : Int32) = 0) by decide, if_false, fJ1_charAt_3b067, fJ0_checkIndex_df160, fJ3_checkIndex_8e157, hn, he, hlt, if_true, gd_n hx (show x ≤ 2147483647 by omega), ntn (show x ≤ 2147483647 by omega), h1, h2, gd_true]
theorem tokL_eq {Y : Nat → Nat} {p : Nat} {l : List Nat} : (tokL Y p l.length = l) ↔ (∀ x, x < l.length → Y (p + x) = l.getD x 0) := by
  constructor
  · intro q x hx
    have h1 : (tokL Y p l.length)[x]? = l[x]? := by rw [q]
    rw [List.getD_eq_getElem?_getD, ← h1]
    simp [tokL, hx]
  · intro q
    apply List.ext_getElem
    · exact tokL_len
    · intro x h1 h2
      have := q x h2
      rw [List.getD_eq_getElem?_getD, List.getElem?_eq_getElem h2] at this
      simp only [tokL, List.getElem_map, List.getElem_range, this]
      rfl
section
variable {c : Nat} {Y : Nat → Nat} {w : AW} {N : Nat}
theorem tok_letters {e0 p e : Nat} (ht : TkP Y c e0 1 p e) : ∀ x ∈ tokL Y p (e - p), 97 ≤ x ∧ x ≤ 122 := by
  intro x hx
  obtain ⟨k, h1, rfl⟩ := tokL_mem hx
  have := (ht.2.2.2.2.2.2.2.2.2 (Or.inl rfl)).2.1 (p + k) (by omega) (by omega)
  unfold srt at this
  revert this
  repeat' split
  all_goals omega
theorem isWord_ev {s p e : Nat} {h : Int64} (hm : MTk Y c s p e w) (hs : s ≤ 3) : fX12_isWord h w = some (if s = 1 ∧ wdF Y p (e - p) = h then 1 else 0) := by
  obtain ⟨a1, a2, a3, a4, a5⟩ := hm
  by_cases h1 : s = 1
  · subst h1
    rw [if_pos rfl] at a4
    simp only [fX12_isWord, a1, show nI 1 = 1 from rfl, if_true, a4, true_and, lg_cmp]
    by_cases hq : wdF Y p (e - p) = h
    · rw [if_pos hq]
      have : ¬ wdF Y p (e - p) > h := by rw [hq]; exact Int64.lt_irrefl
      rw [if_neg this, if_pos hq, if_pos rfl]
    · rw [if_neg hq, if_neg (show ¬ wdF Y p (e - p) = h from hq)]
      have : ∀ x : Int32, x = 1 ∨ x = -1 → ¬ x = 0 := by intro x hx; rcases hx with rfl | rfl <;> decide
      rw [if_neg]
      apply this
      split
      · exact Or.inl rfl
      · exact Or.inr rfl
  · have : ¬ nI s = 1 := by rw [n1, neq (by omega) (by omega)]; exact h1
    rw [if_neg (fun q => h1 q.1)]
    simp only [fX12_isWord, a1, this, if_false]
theorem isWord_nm {e0 s p e i : Nat} {h : Int64} (hm : MTk Y c s p e w) (ht : TkP Y c e0 s p e) (hY : ∀ i, Y i < 256) (hi : i < 12) (hh : h = Int64.ofNat (hsh (nmN.getD i []))) : fX12_isWord h w = some (if s = 1 ∧ tokL Y p (e - p) = nmN.getD i [] then 1 else 0) := by
  have hs : s ≤ 3 := by rw [ht.2.2.2.2.1]; exact srt_le
  rw [isWord_ev hm hs]
  by_cases h1 : s = 1
  · subst h1
    obtain ⟨g1, g2, g3⟩ := nm_ok i hi
    have := word_iff hY (tok_letters ht) g2 g1
    simp only [hh, this]
  · rw [if_neg (fun q => h1 q.1), if_neg (fun q => h1 q.1)]
theorem isNamed_ev {e0 s p e i : Nat} (h : TpC c Y w) (hm : CTk s p e w) (ht : TkP Y c e0 s p e) (hY : ∀ i, Y i < 256) (hc : c ≤ 200) (hi : i < 12) (hN : 20 < N) : fX8_isNamed N i w = some (if s = 1 ∧ tokL Y p (e - p) = nmN.getD i [] then 1 else 0) := by
  have hs : s ≤ 3 := by rw [ht.2.2.2.2.1]; exact srt_le
  obtain ⟨a1, a2, a3⟩ := hm
  have hpe := ht.2.2.2.2.2.1
  have hec := ht.2.2.2.2.2.2.1
  by_cases h1 : s = 1
  · subst h1
    have e1 : nI e - nI p = nI (e - p) := nsub hpe
    have h8 := (nm_ok i hi).1
    simp only [fX8_isNamed, a1, show nI 1 = 1 from rfl, if_true, len_ev hi, bd_some', a2, a3, e1, true_and]
    by_cases hl : e - p = (nmN.getD i []).length
    · rw [hl, if_pos rfl]
      have el := tokL_eq (Y := Y) (p := p) (l := nmN.getD i [])
      obtain ⟨b, b1, b2, b3, b4⟩ := run_ex (fun x => x < (nmN.getD i []).length ∧ Y (p + x) = (nmN.getD i []).getD x 0) (nmN.getD i []).length (fun q => by omega) (Nat.zero_le _) (Nat.lt_succ_self _)
      have key := wh_cnt (body := lbX8_isNamed_28_1 N i w) (n := b) (I := fun x s => s = nI x) (Q := fun r => r = if b = (nmN.getD i []).length then Sum.inl () else Sum.inr ())
        ?_ ?_ (N := N) (i := 0) (s := (0 : Int32)) rfl (Nat.zero_le _) (by omega)
      · obtain ⟨r, r1, r2⟩ := key
        rw [r1, bd_some', r2]
        by_cases hb : b = (nmN.getD i []).length
        · rw [if_pos hb, if_pos (el.mpr (fun x hx => (b3 x (Nat.zero_le _) (by omega)).2))]; rfl
        · rw [if_neg hb, if_neg (fun q => b4 ⟨by omega, el.mp q b (by omega)⟩)]; rfl
      · rintro x s' hx rfl
        obtain ⟨g1, g2⟩ := b3 x (Nat.zero_le _) hx
        have hb := h.2 (p + x) (by omega)
        have hv : (nmN.getD i []).getD x 0 ≤ 127 := by rw [← g2, ]; have := tok_letters ht (Y (p + x)) (by unfold tokL; rw [List.mem_map]; exact ⟨x, by simp; omega, rfl⟩); omega
        refine ⟨nI (x + 1), ?_, rfl⟩
        simp (disch := omega) only [lbX8_isNamed_28_1, len_ev hi, bd_some', nle, if_neg (show ¬ (nmN.getD i []).length ≤ x by omega), a2, nadd, gd_n, ntn, hb, char_ev hi g1, g2, sB_nat (show (nmN.getD i []).getD x 0 < 128 by omega), if_true, n1]
      · rintro s' rfl
        by_cases hb : b = (nmN.getD i []).length
        · refine ⟨Sum.inl (), ?_, by rw [if_pos hb]⟩
          simp (disch := omega) only [lbX8_isNamed_28_1, len_ev hi, bd_some', nle, if_pos (show (nmN.getD i []).length ≤ b by omega)]
        · have hbl : b < (nmN.getD i []).length := by omega
          have g2 : Y (p + b) ≠ (nmN.getD i []).getD b 0 := fun q => b4 ⟨hbl, q⟩
          have hbb := h.2 (p + b) (by omega)
          have hv : (nmN.getD i []).getD b 0 ≤ 127 := by
            have := (nm_ok i hi).2.1 _ (getD_mem hbl)
            omega
          have hne : ¬ sB (Y (p + b)) = nI ((nmN.getD i []).getD b 0) := by rw [sB_eq (hY _) hv]; exact g2
          refine ⟨Sum.inr (), ?_, by rw [if_neg hb]⟩
          simp (disch := omega) only [lbX8_isNamed_28_1, len_ev hi, bd_some', nle, if_neg (show ¬ (nmN.getD i []).length ≤ b by omega), a2, nadd, gd_n, ntn, hbb, char_ev hi hbl, hne, if_false]
    · rw [if_neg (by rw [neq (by omega) (by omega)]; exact hl), if_neg]
      intro q
      have := congrArg List.length q
      rw [tokL_len] at this
      exact hl this
  · have : ¬ nI s = 1 := by rw [n1, neq (by omega) (by omega)]; exact h1
    rw [if_neg (fun q => h1 q.1)]
    simp only [fX8_isNamed, a1, this, if_false]
end
