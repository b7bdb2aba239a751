theorem k47_none : True := trivial
