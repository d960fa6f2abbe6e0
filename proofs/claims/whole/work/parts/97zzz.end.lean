/-! nothing -/
theorem dummyZ : True := trivial
