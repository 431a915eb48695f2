theorem hg_end : True := trivial
