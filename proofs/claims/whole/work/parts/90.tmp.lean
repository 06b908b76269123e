theorem tmp_x : True := trivial
