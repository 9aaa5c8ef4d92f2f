/-! 79: the law's body answers 1 -/
theorem law_ok (S : SC) (hS : S.1 ≤ 260) : ∃ wZ, fL_law1 N0 S (fun x6 x24 w => fL_law2 N0 S x6 x24 (zr w)) w0C = some (1, wZ) :=
  law1_ev hS (fun n J L lost nig ch hn5 => law2_ev hS hn5)
