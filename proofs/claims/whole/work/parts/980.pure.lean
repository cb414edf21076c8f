theorem zpure : zPure := sorry
