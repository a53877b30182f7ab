theorem look_99 : True := trivial
