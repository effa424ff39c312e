section
theorem wide9 : True := by
  have h := @Jvm.Stand.outThrough
  trivial
end
