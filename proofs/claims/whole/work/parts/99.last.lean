theorem zz_last_0 : True := trivial
