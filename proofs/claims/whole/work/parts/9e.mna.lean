theorem tst0 : True := trivial
