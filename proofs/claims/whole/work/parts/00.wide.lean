/-! rows of arrays of arrays stand in the rest of the library: this name makes the rounds read over the whole of it -/
theorem zz_wide : True := by
  have _h := @Jvm.Stand.multianewarray2F
  trivial
