theorem na_last : True := trivial
