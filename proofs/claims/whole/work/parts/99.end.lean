theorem mk_end : True := trivial
