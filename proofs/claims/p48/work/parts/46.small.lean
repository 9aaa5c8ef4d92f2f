/-! 46: the small calls on the board -/
theorem CBd.with {b n n' : Nat} {J J' : Nat → Nat → Nat} {L lost nig : Nat → Nat} {day col left : Nat} {till : Int32} {p p' : List Nat} {w w' : AW} {T : Nat → Nat → Bool} (h : CBd b n J L lost nig day col left till p w) (f : Fr T w w') (h7 : ∀ k, T (b + 7) k = false) (h8 : ∀ k, T (b + 8) k = false) (h9 : ∀ k, T (b + 9) k = false) (h0 : ∀ k, 5 ≤ k → k ≤ 8 → T b k = false) (hJ : CJo (b + 1) n' J' w') (hp : rowL (w'.1 (b + 10)) p') : CBd b n' J' L lost nig day col left till p' w' := by
  obtain ⟨a1, a2, a3, a4, a5, a6, a7, a8, a9⟩ := h
  exact ⟨hJ, fun i hi => by rw [f.at' _ (h7 _)]; exact a2 i hi, fun i hi => by rw [f.at' _ (h8 _)]; exact a3 i hi, fun i hi => by rw [f.at' _ (h9 _)]; exact a4 i hi, hp, by rw [f.at' _ (h0 5 (by omega) (by omega))]; exact a6, by rw [f.at' _ (h0 6 (by omega) (by omega))]; exact a7, by rw [f.at' _ (h0 7 (by omega) (by omega))]; exact a8, by rw [f.at' _ (h0 8 (by omega) (by omega))]; exact a9⟩
theorem rowL_snoc {r : Nat → Int32} {p : List Nat} {x : Nat} (h : rowL r p) (hx : r p.length = nI x) : rowL r (p ++ [x]) := by
  intro i v hv
  rcases getElem?_app_lt hv with ⟨h1, h2⟩ | ⟨h1, h2⟩
  · exact h i v h2
  · have : i - p.length = 0 := by
      cases hq : i - p.length with
      | zero => rfl
      | succ y => rw [hq] at h2; simp at h2
    rw [this] at h2
    simp at h2
    subst h2
    rw [show i = p.length by omega]; exact hx
