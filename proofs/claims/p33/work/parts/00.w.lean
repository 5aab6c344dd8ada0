theorem am_wide : True := by
  have := @Jvm.Free.Multi.fill_facts
  trivial
