theorem my_zz : True := trivial
