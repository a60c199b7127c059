theorem t_look : True := trivial
