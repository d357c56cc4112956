theorem pure_main (sn : Nat) (xs : Nat → Int32) (h : sn ≤ 384) : ∃ μ : Mem, law_L18 sn xs FU 0 142 (0 : Int32) mst = some (1, μ) := by
  sorry
