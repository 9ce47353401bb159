theorem zq_triv : True := trivial
