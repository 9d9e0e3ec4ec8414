theorem look_ok : True := trivial
