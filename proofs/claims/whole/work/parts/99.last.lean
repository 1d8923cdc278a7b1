theorem zz_1 : True := trivial
theorem zz_2 : True := by
  have h := @c6_change
  have h2 := @c9_runScript
  trivial
