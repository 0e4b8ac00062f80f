theorem px_words7 : True := trivial
theorem mi_X5_init : Cond.instanceMethod m_X5_init.1 ∈ px_T := px_Tm 19 (by decide +kernel) rfl
theorem mi_X6_init : Cond.instanceMethod m_X6_init.1 ∈ px_T := px_Tm 848 (by decide +kernel) rfl
theorem ml_L_9 : Cond.methodLink RL 9 m_X5_init.1 ∈ px_T := px_Tm 18 (by decide +kernel) rfl
theorem ml_L_12 : Cond.methodLink RL 12 m_X6_init.1 ∈ px_T := px_Tm 847 (by decide +kernel) rfl
theorem cl_L_7 : Cond.classLink RL 7 "ThreeOfThem" ∈ px_T := px_Tm 16 (by decide +kernel) rfl
theorem cl_L_10 : Cond.classLink RL 10 "ThreeOfThemModel" ∈ px_T := px_Tm 845 (by decide +kernel) rfl
