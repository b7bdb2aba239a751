theorem k48_none : True := trivial
