/-! the whole library is wanted (025): asked for at once -/
theorem zz_wide : True := by
  have _h := @Jvm.Stand.outThrough
  trivial
