theorem wd_0 : True := by
  have _h := @Jvm.Stand.outThrough
  exact trivial
