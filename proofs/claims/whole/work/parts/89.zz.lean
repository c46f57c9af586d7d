theorem zz_triv : True := trivial
