theorem look0 : True := trivial
