/-- THE MATHEMATICS: an invariant that both constructors give and every call keeps, with equal answers -/
theorem px_math : ∃ (Inv : Nat → px_S → Prop) (s1 s2 : px_S), (∀ T st, Inv T st → T ≤ 5) ∧ (∀ T st (ag : px_ag), Inv T st → ∃ T2 st2, px_ops T st ag T2 st2 ∧ Inv T2 st2) ∧ f_X5_init = some s1 ∧ px_ok 1 s1 ∧ f_X6_init s1 = some s2 ∧ Inv 0 s2 := sorry
