abbrev am_o : am_V := .inr (.inr none)
