theorem z_pure : zPure := sorry
