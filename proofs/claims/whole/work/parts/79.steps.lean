def N0 : Nat := 4000
def Rel (wC wM : AW) : Prop := wC = wC ∧ wM = wM
theorem Rel_0 : Rel w0C w0M := ⟨rfl, rfl⟩
section
variable {wC wM : AW}
theorem st_feed (h : Rel wC wM) (a0 : Int64) (a1 : Int32) : ∃ r wC' wM', fX11_feed N0 a0 a1 wC = some (r, wC') ∧ fX12_feed N0 a0 a1 wM = some (r, wM') ∧ Rel wC' wM' := by
  sorry
theorem st_board (h : Rel wC wM) : ∃ r wC' wM', fX11_board N0 wC = some (r, wC') ∧ fX12_board N0 wM = some (r, wM') ∧ Rel wC' wM' := by
  sorry
theorem st_job (h : Rel wC wM) (a0 : Int32) (a1 : Int32) (a2 : Int32) (a3 : Int32) (a4 : Int32) : ∃ r wC' wM', fX11_job a0 a1 a2 a3 a4 wC = some (r, wC') ∧ fX12_job a0 a1 a2 a3 a4 wM = some (r, wM') ∧ Rel wC' wM' := by
  sorry
theorem st_jobOf (h : Rel wC wM) (a0 : Int32) (a1 : Int32) : ∃ r, fX11_jobOf a0 a1 wC = some r ∧ fX12_jobOf a0 a1 wM = some r := by
  sorry
theorem st_drop (h : Rel wC wM) (a0 : Int32) : ∃ r wC' wM', fX11_drop N0 a0 wC = some (r, wC') ∧ fX12_drop N0 a0 wM = some (r, wM') ∧ Rel wC' wM' := by
  sorry
theorem st_set (h : Rel wC wM) (a0 : Int32) (a1 : Int32) : ∃ r wC' wM', fX11_set a0 a1 wC = some (r, wC') ∧ fX12_set a0 a1 wM = some (r, wM') ∧ Rel wC' wM' := by
  sorry
theorem st_lose (h : Rel wC wM) (a0 : Int32) (a1 : Int32) : ∃ r wC' wM', fX11_lose a0 a1 wC = some (r, wC') ∧ fX12_lose a0 a1 wM = some (r, wM') ∧ Rel wC' wM' := by
  sorry
theorem st_night (h : Rel wC wM) (a0 : Int32) (a1 : Int32) : ∃ r wC' wM', fX11_night a0 a1 wC = some (r, wC') ∧ fX12_night a0 a1 wM = some (r, wM') ∧ Rel wC' wM' := by
  sorry
theorem st_slots (h : Rel wC wM) (a0 : Int32) : ∃ r, fX11_slots a0 wC = some r ∧ fX12_slots a0 wM = some r := by
  sorry
theorem st_plan (h : Rel wC wM) (a0 : Int32) : ∃ r wC' wM', fX11_plan N0 a0 wC = some (r, wC') ∧ fX12_plan N0 a0 wM = some (r, wM') ∧ Rel wC' wM' := by
  sorry
theorem st_planOf (h : Rel wC wM) (a0 : Int32) : ∃ r, fX11_planOf a0 wC = some r ∧ fX12_planOf a0 wM = some r := by
  sorry
theorem st_press (h : Rel wC wM) (a0 : Int32) : ∃ r, fX11_press a0 wC = some r ∧ fX12_press a0 wM = some r := by
  sorry
theorem st_ends (h : Rel wC wM) (a0 : Int32) : ∃ r wC' wM', fX11_ends N0 a0 wC = some (r, wC') ∧ fX12_ends N0 a0 wM = some (r, wM') ∧ Rel wC' wM' := by
  sorry
theorem st_late (h : Rel wC wM) : ∃ r wC' wM', fX11_late N0 wC = some (r, wC') ∧ fX12_late N0 wM = some (r, wM') ∧ Rel wC' wM' := by
  sorry
theorem st_worth (h : Rel wC wM) : ∃ r wC' wM', fX11_worth N0 wC = some (r, wC') ∧ fX12_worth N0 wM = some (r, wM') ∧ Rel wC' wM' := by
  sorry
theorem st_best (h : Rel wC wM) (a0 : Int32) : ∃ r wC' wM', fX11_best N0 a0 wC = some (r, wC') ∧ fX12_best N0 a0 wM = some (r, wM') ∧ Rel wC' wM' := by
  sorry
theorem st_fewest (h : Rel wC wM) : ∃ r wC' wM', fX11_fewest N0 wC = some (r, wC') ∧ fX12_fewest N0 wM = some (r, wM') ∧ Rel wC' wM' := by
  sorry
theorem st_soonest (h : Rel wC wM) (a0 : Int32) (a1 : Int32) (a2 : Int32) : ∃ r wC' wM', fX11_soonest N0 a0 a1 a2 wC = some (r, wC') ∧ fX12_soonest N0 a0 a1 a2 wM = some (r, wM') ∧ Rel wC' wM' := by
  sorry
theorem st_gain (h : Rel wC wM) (a0 : Int32) (a1 : Int32) (a2 : Int32) (a3 : Int32) (a4 : Int32) : ∃ r wC' wM', fX11_gain N0 a0 a1 a2 a3 a4 wC = some (r, wC') ∧ fX12_gain N0 a0 a1 a2 a3 a4 wM = some (r, wM') ∧ Rel wC' wM' := by
  sorry
theorem st_across (h : Rel wC wM) (a0 : Int32) : ∃ r wC' wM', fX11_across N0 a0 wC = some (r, wC') ∧ fX12_across N0 a0 wM = some (r, wM') ∧ Rel wC' wM' := by
  sorry
theorem st_nights (h : Rel wC wM) : ∃ r wC' wM', fX11_nights N0 wC = some (r, wC') ∧ fX12_nights N0 wM = some (r, wM') ∧ Rel wC' wM' := by
  sorry
theorem st_sure (h : Rel wC wM) (a0 : Int32) : ∃ r wC' wM', fX11_sure N0 a0 wC = some (r, wC') ∧ fX12_sure N0 a0 wM = some (r, wM') ∧ Rel wC' wM' := by
  sorry
theorem st_safest (h : Rel wC wM) (a0 : Int32) : ∃ r wC' wM', fX11_safest N0 a0 wC = some (r, wC') ∧ fX12_safest N0 a0 wM = some (r, wM') ∧ Rel wC' wM' := by
  sorry
theorem st_mean (h : Rel wC wM) (a0 : Int32) : ∃ r wC' wM', fX11_mean N0 a0 wC = some (r, wC') ∧ fX12_mean N0 a0 wM = some (r, wM') ∧ Rel wC' wM' := by
  sorry
theorem st_type (h : Rel wC wM) (a0 : Int32) (a1 : Int32) (a2 : Int32) (a3 : Int32) (a4 : Int32) (a5 : Int32) : ∃ r wC' wM', fX11_type N0 a0 a1 a2 a3 a4 a5 wC = some (r, wC') ∧ fX12_type N0 a0 a1 a2 a3 a4 a5 wM = some (r, wM') ∧ Rel wC' wM' := by
  sorry
theorem st_typeOf (h : Rel wC wM) (a0 : Int32) (a1 : Int32) : ∃ r, fX11_typeOf a0 a1 wC = some r ∧ fX12_typeOf a0 a1 wM = some r := by
  sorry
theorem st_ahead (h : Rel wC wM) (a0 : Int32) (a1 : Int32) : ∃ r wC' wM', fX11_ahead N0 a0 a1 wC = some (r, wC') ∧ fX12_ahead N0 a0 a1 wM = some (r, wM') ∧ Rel wC' wM' := by
  sorry
theorem st_comes (h : Rel wC wM) : ∃ r wC' wM', fX11_comes N0 wC = some (r, wC') ∧ fX12_comes N0 wM = some (r, wM') ∧ Rel wC' wM' := by
  sorry
theorem st_seed (h : Rel wC wM) (a0 : Int32) : ∃ r wC' wM', fX11_seed a0 wC = some (r, wC') ∧ fX12_seed a0 wM = some (r, wM') ∧ Rel wC' wM' := by
  sorry
theorem st_goes (h : Rel wC wM) : ∃ r wC' wM', fX11_goes N0 wC = some (r, wC') ∧ fX12_goes N0 wM = some (r, wM') ∧ Rel wC' wM' := by
  sorry
theorem st_till (h : Rel wC wM) : ∃ r, fX11_till  wC = some r ∧ fX12_till  wM = some r := by
  sorry
theorem st_prove (h : Rel wC wM) : ∃ r wC' wM', fX11_prove N0 wC = some (r, wC') ∧ fX12_prove N0 wM = some (r, wM') ∧ Rel wC' wM' := by
  sorry
theorem st_row (h : Rel wC wM) (a0 : Int32) (a1 : Int32) : ∃ r, fX11_row a0 a1 wC = some r ∧ fX12_row a0 a1 wM = some r := by
  sorry
theorem st_alterRow (h : Rel wC wM) (a0 : Int32) (a1 : Int32) (a2 : Int32) : ∃ r wC' wM', fX11_alterRow a0 a1 a2 wC = some (r, wC') ∧ fX12_alterRow a0 a1 a2 wM = some (r, wM') ∧ Rel wC' wM' := by
  sorry
theorem st_judge (h : Rel wC wM) : ∃ r wC' wM', fX11_judge N0 wC = some (r, wC') ∧ fX12_judge N0 wM = some (r, wM') ∧ Rel wC' wM' := by
  sorry
theorem st_sheet (h : Rel wC wM) (a0 : Int32) (a1 : Int32) (a2 : Int32) : ∃ r wC' wM', fX11_sheet N0 a0 a1 a2 wC = some (r, wC') ∧ fX12_sheet N0 a0 a1 a2 wM = some (r, wM') ∧ Rel wC' wM' := by
  sorry
theorem st_put (h : Rel wC wM) (a0 : Int32) (a1 : Int32) (a2 : Int32) : ∃ r wC' wM', fX11_put a0 a1 a2 wC = some (r, wC') ∧ fX12_put a0 a1 a2 wM = some (r, wM') ∧ Rel wC' wM' := by
  sorry
theorem st_item (h : Rel wC wM) (a0 : Int32) (a1 : Int32) (a2 : Int32) : ∃ r, fX11_item a0 a1 a2 wC = some r ∧ fX12_item a0 a1 a2 wM = some r := by
  sorry
theorem st_shelf (h : Rel wC wM) (a0 : Int32) (a1 : Int32) (a2 : Int32) : ∃ r wC' wM', fX11_shelf a0 a1 a2 wC = some (r, wC') ∧ fX12_shelf a0 a1 a2 wM = some (r, wM') ∧ Rel wC' wM' := by
  sorry
theorem st_taken (h : Rel wC wM) (a0 : Int32) (a1 : Int32) : ∃ r, fX11_taken a0 a1 wC = some r ∧ fX12_taken a0 a1 wM = some r := by
  sorry
theorem st_act (h : Rel wC wM) (a0 : Int32) (a1 : Int32) (a2 : Int32) : ∃ r wC' wM', fX11_act a0 a1 a2 wC = some (r, wC') ∧ fX12_act a0 a1 a2 wM = some (r, wM') ∧ Rel wC' wM' := by
  sorry
theorem st_trace (h : Rel wC wM) (a0 : Int32) : ∃ r, fX11_trace a0 wC = some r ∧ fX12_trace a0 wM = some r := by
  sorry
theorem st_many (h : Rel wC wM) (a0 : Int32) : ∃ r, fX11_many a0 wC = some r ∧ fX12_many a0 wM = some r := by
  sorry
theorem st_keep (h : Rel wC wM) : ∃ r wC' wM', fX11_keep N0 wC = some (r, wC') ∧ fX12_keep N0 wM = some (r, wM') ∧ Rel wC' wM' := by
  sorry
theorem st_again (h : Rel wC wM) : ∃ r wC' wM', fX11_again N0 wC = some (r, wC') ∧ fX12_again N0 wM = some (r, wM') ∧ Rel wC' wM' := by
  sorry
end
