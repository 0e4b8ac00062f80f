theorem px_each {T : Nat} {st : px_S} (ag : px_ag) (hI : Inv T st) : ∃ T2 st2, px_ops T st ag T2 st2 ∧ Inv T2 st2 := by
  by_cases hk : ∃ k, k < 29 ∧ ag 0 &&& 31 = nI k
  · obtain ⟨k, hk, e⟩ := hk
    rcases (show k = 0 ∨ k = 1 ∨ k = 2 ∨ k = 3 ∨ k = 4 ∨ k = 5 ∨ k = 6 ∨ k = 7 ∨ k = 8 ∨ k = 9 ∨ k = 10 ∨ k = 11 ∨ k = 12 ∨ k = 13 ∨ k = 14 ∨ k = 15 ∨ k = 16 ∨ k = 17 ∨ k = 18 ∨ k = 19 ∨ k = 20 ∨ k = 21 ∨ k = 22 ∨ k = 23 ∨ k = 24 ∨ k = 25 ∨ k = 26 ∨ k = 27 ∨ k = 28 by omega) with rfl | rfl | rfl | rfl | rfl | rfl | rfl | rfl | rfl | rfl | rfl | rfl | rfl | rfl | rfl | rfl | rfl | rfl | rfl | rfl | rfl | rfl | rfl | rfl | rfl | rfl | rfl | rfl | rfl
    · obtain ⟨T2, st2, a, b⟩ := op_inmate ag hI
      exact ⟨T2, st2, ⟨fun k' h' e' => by have : k' = 0 := nI_inj32 (by omega) (by omega) (e'.symm.trans e); subst this; exact a, fun hno => absurd e (hno 0 (by decide))⟩, b⟩
    · obtain ⟨T2, st2, a, b⟩ := op_like ag hI
      exact ⟨T2, st2, ⟨fun k' h' e' => by have : k' = 1 := nI_inj32 (by omega) (by omega) (e'.symm.trans e); subst this; exact a, fun hno => absurd e (hno 1 (by decide))⟩, b⟩
    · obtain ⟨T2, st2, a, b⟩ := op_swear ag hI
      exact ⟨T2, st2, ⟨fun k' h' e' => by have : k' = 2 := nI_inj32 (by omega) (by omega) (e'.symm.trans e); subst this; exact a, fun hno => absurd e (hno 2 (by decide))⟩, b⟩
    · obtain ⟨T2, st2, a, b⟩ := op_set ag hI
      exact ⟨T2, st2, ⟨fun k' h' e' => by have : k' = 3 := nI_inj32 (by omega) (by omega) (e'.symm.trans e); subst this; exact a, fun hno => absurd e (hno 3 (by decide))⟩, b⟩
    · obtain ⟨T2, st2, a, b⟩ := op_told ag hI
      exact ⟨T2, st2, ⟨fun k' h' e' => by have : k' = 4 := nI_inj32 (by omega) (by omega) (e'.symm.trans e); subst this; exact a, fun hno => absurd e (hno 4 (by decide))⟩, b⟩
    · obtain ⟨T2, st2, a, b⟩ := op_feed ag hI
      exact ⟨T2, st2, ⟨fun k' h' e' => by have : k' = 5 := nI_inj32 (by omega) (by omega) (e'.symm.trans e); subst this; exact a, fun hno => absurd e (hno 5 (by decide))⟩, b⟩
    · obtain ⟨T2, st2, a, b⟩ := op_text ag hI
      exact ⟨T2, st2, ⟨fun k' h' e' => by have : k' = 6 := nI_inj32 (by omega) (by omega) (e'.symm.trans e); subst this; exact a, fun hno => absurd e (hno 6 (by decide))⟩, b⟩
    · obtain ⟨T2, st2, a, b⟩ := op_force ag hI
      exact ⟨T2, st2, ⟨fun k' h' e' => by have : k' = 7 := nI_inj32 (by omega) (by omega) (e'.symm.trans e); subst this; exact a, fun hno => absurd e (hno 7 (by decide))⟩, b⟩
    · obtain ⟨T2, st2, a, b⟩ := op_would ag hI
      exact ⟨T2, st2, ⟨fun k' h' e' => by have : k' = 8 := nI_inj32 (by omega) (by omega) (e'.symm.trans e); subst this; exact a, fun hno => absurd e (hno 8 (by decide))⟩, b⟩
    · obtain ⟨T2, st2, a, b⟩ := op_now ag hI
      exact ⟨T2, st2, ⟨fun k' h' e' => by have : k' = 9 := nI_inj32 (by omega) (by omega) (e'.symm.trans e); subst this; exact a, fun hno => absurd e (hno 9 (by decide))⟩, b⟩
    · obtain ⟨T2, st2, a, b⟩ := op_turnOut ag hI
      exact ⟨T2, st2, ⟨fun k' h' e' => by have : k' = 10 := nI_inj32 (by omega) (by omega) (e'.symm.trans e); subst this; exact a, fun hno => absurd e (hno 10 (by decide))⟩, b⟩
    · obtain ⟨T2, st2, a, b⟩ := op_goOn ag hI
      exact ⟨T2, st2, ⟨fun k' h' e' => by have : k' = 11 := nI_inj32 (by omega) (by omega) (e'.symm.trans e); subst this; exact a, fun hno => absurd e (hno 11 (by decide))⟩, b⟩
    · obtain ⟨T2, st2, a, b⟩ := op_end ag hI
      exact ⟨T2, st2, ⟨fun k' h' e' => by have : k' = 12 := nI_inj32 (by omega) (by omega) (e'.symm.trans e); subst this; exact a, fun hno => absurd e (hno 12 (by decide))⟩, b⟩
    · obtain ⟨T2, st2, a, b⟩ := op_safe ag hI
      exact ⟨T2, st2, ⟨fun k' h' e' => by have : k' = 13 := nI_inj32 (by omega) (by omega) (e'.symm.trans e); subst this; exact a, fun hno => absurd e (hno 13 (by decide))⟩, b⟩
    · obtain ⟨T2, st2, a, b⟩ := op_sworn ag hI
      exact ⟨T2, st2, ⟨fun k' h' e' => by have : k' = 14 := nI_inj32 (by omega) (by omega) (e'.symm.trans e); subst this; exact a, fun hno => absurd e (hno 14 (by decide))⟩, b⟩
    · obtain ⟨T2, st2, a, b⟩ := op_oaths ag hI
      exact ⟨T2, st2, ⟨fun k' h' e' => by have : k' = 15 := nI_inj32 (by omega) (by omega) (e'.symm.trans e); subst this; exact a, fun hno => absurd e (hno 15 (by decide))⟩, b⟩
    · obtain ⟨T2, st2, a, b⟩ := op_shield ag hI
      exact ⟨T2, st2, ⟨fun k' h' e' => by have : k' = 16 := nI_inj32 (by omega) (by omega) (e'.symm.trans e); subst this; exact a, fun hno => absurd e (hno 16 (by decide))⟩, b⟩
    · obtain ⟨T2, st2, a, b⟩ := op_holds ag hI
      exact ⟨T2, st2, ⟨fun k' h' e' => by have : k' = 17 := nI_inj32 (by omega) (by omega) (e'.symm.trans e); subst this; exact a, fun hno => absurd e (hno 17 (by decide))⟩, b⟩
    · obtain ⟨T2, st2, a, b⟩ := op_who ag hI
      exact ⟨T2, st2, ⟨fun k' h' e' => by have : k' = 18 := nI_inj32 (by omega) (by omega) (e'.symm.trans e); subst this; exact a, fun hno => absurd e (hno 18 (by decide))⟩, b⟩
    · obtain ⟨T2, st2, a, b⟩ := op_drawn ag hI
      exact ⟨T2, st2, ⟨fun k' h' e' => by have : k' = 19 := nI_inj32 (by omega) (by omega) (e'.symm.trans e); subst this; exact a, fun hno => absurd e (hno 19 (by decide))⟩, b⟩
    · obtain ⟨T2, st2, a, b⟩ := op_chance ag hI
      exact ⟨T2, st2, ⟨fun k' h' e' => by have : k' = 20 := nI_inj32 (by omega) (by omega) (e'.symm.trans e); subst this; exact a, fun hno => absurd e (hno 20 (by decide))⟩, b⟩
    · obtain ⟨T2, st2, a, b⟩ := op_image ag hI
      exact ⟨T2, st2, ⟨fun k' h' e' => by have : k' = 21 := nI_inj32 (by omega) (by omega) (e'.symm.trans e); subst this; exact a, fun hno => absurd e (hno 21 (by decide))⟩, b⟩
    · obtain ⟨T2, st2, a, b⟩ := op_back ag hI
      exact ⟨T2, st2, ⟨fun k' h' e' => by have : k' = 22 := nI_inj32 (by omega) (by omega) (e'.symm.trans e); subst this; exact a, fun hno => absurd e (hno 22 (by decide))⟩, b⟩
    · obtain ⟨T2, st2, a, b⟩ := op_count ag hI
      exact ⟨T2, st2, ⟨fun k' h' e' => by have : k' = 23 := nI_inj32 (by omega) (by omega) (e'.symm.trans e); subst this; exact a, fun hno => absurd e (hno 23 (by decide))⟩, b⟩
    · obtain ⟨T2, st2, a, b⟩ := op_sheet ag hI
      exact ⟨T2, st2, ⟨fun k' h' e' => by have : k' = 24 := nI_inj32 (by omega) (by omega) (e'.symm.trans e); subst this; exact a, fun hno => absurd e (hno 24 (by decide))⟩, b⟩
    · obtain ⟨T2, st2, a, b⟩ := op_cell ag hI
      exact ⟨T2, st2, ⟨fun k' h' e' => by have : k' = 25 := nI_inj32 (by omega) (by omega) (e'.symm.trans e); subst this; exact a, fun hno => absurd e (hno 25 (by decide))⟩, b⟩
    · obtain ⟨T2, st2, a, b⟩ := op_copy ag hI
      exact ⟨T2, st2, ⟨fun k' h' e' => by have : k' = 26 := nI_inj32 (by omega) (by omega) (e'.symm.trans e); subst this; exact a, fun hno => absurd e (hno 26 (by decide))⟩, b⟩
    · obtain ⟨T2, st2, a, b⟩ := op_likes ag hI
      exact ⟨T2, st2, ⟨fun k' h' e' => by have : k' = 27 := nI_inj32 (by omega) (by omega) (e'.symm.trans e); subst this; exact a, fun hno => absurd e (hno 27 (by decide))⟩, b⟩
    · obtain ⟨T2, st2, a, b⟩ := op_taken ag hI
      exact ⟨T2, st2, ⟨fun k' h' e' => by have : k' = 28 := nI_inj32 (by omega) (by omega) (e'.symm.trans e); subst this; exact a, fun hno => absurd e (hno 28 (by decide))⟩, b⟩
  · exact ⟨T, st, ⟨fun k' h' e' => absurd ⟨k', h', e'⟩ hk, fun _ => ⟨rfl, rfl⟩⟩, hI⟩
/-- THE MATHEMATICS: an invariant that both constructors give and every call keeps, with equal answers -/
theorem px_math : ∃ (Inv : Nat → px_S → Prop) (s1 s2 : px_S), (∀ T st, Inv T st → T ≤ 5) ∧ (∀ T st (ag : px_ag), Inv T st → ∃ T2 st2, px_ops T st ag T2 st2 ∧ Inv T2 st2) ∧ f_X5_init = some s1 ∧ px_ok 1 s1 ∧ f_X6_init s1 = some s2 ∧ Inv 0 s2 := by
  obtain ⟨s1, s2, a1, a2, a3, a4⟩ := m_begin
  exact ⟨Inv, s1, s2, fun T st h => h.1, fun T st ag h => px_each ag h, a1, a2, a3, a4⟩
