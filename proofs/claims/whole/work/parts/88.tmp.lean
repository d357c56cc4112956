theorem sim_text {μ : Mem} (h : Rel μ) (x : Int32) : Sm (f_X8_text 0 x μ) (f_X9_text 142 x) := by
  sorry
