/-! stretches of the methods -/
set_option maxRecDepth 100000 in
theorem s_part9 : True := trivial

