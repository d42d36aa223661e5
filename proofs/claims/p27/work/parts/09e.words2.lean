theorem tw_w_none : True := trivial
