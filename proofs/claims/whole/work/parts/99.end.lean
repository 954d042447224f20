theorem end_ : True := trivial
