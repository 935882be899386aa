theorem tst : True := trivial
