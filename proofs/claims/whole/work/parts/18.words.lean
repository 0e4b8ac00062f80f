theorem px_words : True := trivial

