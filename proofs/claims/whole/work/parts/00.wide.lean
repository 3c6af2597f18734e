theorem wd_lib : True := by
  have _h := @Jvm.Stand.thenCaughtThrough
  trivial
