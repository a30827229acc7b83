theorem xx_look : True := trivial
