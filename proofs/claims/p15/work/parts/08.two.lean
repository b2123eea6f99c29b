theorem yn_h4 : ¬ (4 : Int32) = 0 := by decide
theorem yn_h2 : ¬ (2 : Int32) = 0 := by decide
