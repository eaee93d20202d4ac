/-! STEPS, second part (to come) -/
theorem steps2_ok : True := trivial
