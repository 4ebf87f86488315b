theorem zz_wide : True := by
  have := @Stand.outThrough
  trivial
