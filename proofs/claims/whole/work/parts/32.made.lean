/-! WHAT IS MADE: the cells behind the two constructors -/
def dfl8 : List Value := [.null, .null, .null, .null, .null, .null, .null, .null, .int 0]
def dfl9 : List Value := [.null, .null, .null, .int 0, .null, .int 0, .int 0, .int 0, .int 0, .null, .null, .null, .null, .int 0, .int 0, .int 0, .null, .null, .null, .null]
def EA : EW := [(8, dfl8)]
def EB : EW := (i_X8 0 (EA.length + 141) (esl EA + 2208) EA).getD []
def EC : EW := EB ++ [(9, dfl9)]
def ED : EW := (i_X9 142 (EC.length + 12) (esl EC + 2029) EC).getD []
theorem EB_some : (i_X8 0 (EA.length + 141) (esl EA + 2208) EA).isSome = true := by decide +kernel
theorem EB_len : EB.length = 142 ∧ esl EB = 2217 := by decide +kernel
theorem ED_some : (i_X9 142 (EC.length + 12) (esl EC + 2029) EC).isSome = true := by decide +kernel
theorem ED_len : ED.length = 155 ∧ esl ED = 4266 := by decide +kernel
