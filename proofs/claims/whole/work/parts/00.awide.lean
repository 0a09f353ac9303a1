/-! a name of the whole library: a round learns at once that it is wanted -/
theorem wide_on : FP.Core.Good FP.Core.b32 := FP.Core.good_b32
