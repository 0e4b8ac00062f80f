theorem m_spell {k : Nat} (hk : k + 8 ≤ 960) (x1 x2 x3 x4 x5 x6 x7 x8 : Int32) (st : px_S) : ∃ st', f_X6_spell 0 (nI k) x1 x2 x3 x4 x5 x6 x7 x8 st = some st' ∧ (∀ a, a ≠ 49 → st' a = st a) ∧ (∀ j, j < k → st' 49 j = st 49 j) ∧ ∀ j, j < 8 → st' 49 (k + j) = [x1, x2, x3, x4, x5, x6, x7, x8].getD j 0 := by
  have e1 : nI k + 1 = nI (k + 1) := nI_1 k
  have e2 : nI k + 2 = nI (k + 2) := nI_add k 2
  have e3 : nI k + 3 = nI (k + 3) := nI_add k 3
  have e4 : nI k + 4 = nI (k + 4) := nI_add k 4
  have e5 : nI k + 5 = nI (k + 5) := nI_add k 5
  have e6 : nI k + 6 = nI (k + 6) := nI_add k 6
  have e7 : nI k + 7 = nI (k + 7) := nI_add k 7
  rw [f_X6_spell, e1, e2, e3, e4, e5, e6, e7, if_pos (m_px (by omega) (by omega)), if_pos (m_px (by omega) (by omega)), if_pos (m_px (by omega) (by omega)), if_pos (m_px (by omega) (by omega)), if_pos (m_px (by omega) (by omega)), if_pos (m_px (by omega) (by omega)), if_pos (m_px (by omega) (by omega)), if_pos (m_px (by omega) (by omega)), nI_clamp (n := k) (by omega), nI_clamp (n := k + 1) (by omega), nI_clamp (n := k + 2) (by omega), nI_clamp (n := k + 3) (by omega), nI_clamp (n := k + 4) (by omega), nI_clamp (n := k + 5) (by omega), nI_clamp (n := k + 6) (by omega), nI_clamp (n := k + 7) (by omega)]
  refine ⟨_, rfl, fun a ha => ?_, fun j hj => ?_, fun j hj => ?_⟩
  · rw [m_up_row _ _ _ _ ha, m_up_row _ _ _ _ ha, m_up_row _ _ _ _ ha, m_up_row _ _ _ _ ha, m_up_row _ _ _ _ ha, m_up_row _ _ _ _ ha, m_up_row _ _ _ _ ha, m_up_row _ _ _ _ ha]
  · iterate 8 rw [m_up, if_pos rfl, if_neg (by omega)]
  · rcases (show j = 0 ∨ j = 1 ∨ j = 2 ∨ j = 3 ∨ j = 4 ∨ j = 5 ∨ j = 6 ∨ j = 7 by omega) with rfl | rfl | rfl | rfl | rfl | rfl | rfl | rfl <;> simp [m_up]
def m_rb : List Int32 := [99, 111, 109, 112, 97, 110, 121, 32, 108, 105, 107, 101, 32, 59, 32, 111, 97, 116, 104, 32, 50, 48, 32, 59, 32, 106, 111, 105, 110, 115, 32, 108, 105, 107, 101, 32, 60, 32, 57, 32, 59, 32, 32, 32, 32, 32, 32, 32]
def m_B6 (j : Nat) : Int32 := m_rb.getD j 0
theorem m_B6p : ∀ j, j < 48 → ¬ m_B6 j < 0 := by decide +kernel
theorem m_ok5 : m_ok (m_tk (m_lx (px_ch 0) 41 0)) = true := by decide +kernel
theorem m_ok6 : m_ok (m_tk (m_lx m_B6 48 0)) = true := by decide +kernel
theorem m_same : m_C (m_tk (m_lx (px_ch 0) 41 0)) 0 = m_C (m_tk (m_lx m_B6 48 0)) 0 ∧ m_C (m_tk (m_lx (px_ch 0) 41 0)) 1 = m_C (m_tk (m_lx m_B6 48 0)) 1 ∧ m_C (m_tk (m_lx (px_ch 0) 41 0)) 2 = m_C (m_tk (m_lx m_B6 48 0)) 2 := by decide +kernel
theorem m_initC : ∃ s1, f_X5_init = some s1 ∧ px_ok 1 s1 ∧ (∀ a, a ≠ 0 → a ≠ 36 → a ≠ 31 → a ≠ 32 → a ≠ 33 → a ≠ 34 → a ≠ 35 → a ≠ 46 → a ≠ 47 → s1 a = px_c0 a) ∧ s1 0 6 = 1 ∧ (∀ j, j ≠ 6 → s1 0 j = px_c0 0 j) ∧ s1 36 0 = nI 46 ∧ (∀ j, j ≠ 0 → s1 36 j = -1) ∧ s1 31 1 = 0 ∧ m_TX s1 46 (m_C (m_tk (m_lx (px_ch 0) 41 0))) := by
  have el : px_len.getD 0 0 = 41 := rfl
  have put : ∃ b, f_X5_init_93 1000 0 px_c0 = some b ∧ (∀ a, a ≠ 31 → a ≠ 32 → b a = px_c0 a) ∧ b 31 1 = nI 41 ∧ ∀ j, j < 41 → b 32 j = px_ch 0 j := by
    refine m_for (σ := px_S) (fun n i z => f_X5_init_93 n (nI i) z) 41 (fun i z => (∀ a, a ≠ 31 → a ≠ 32 → z a = px_c0 a) ∧ z 31 1 = nI i ∧ ∀ j, j < i → z 32 j = px_ch 0 j) (fun r => ∃ b, r = some b ∧ (∀ a, a ≠ 31 → a ≠ 32 → b a = px_c0 a) ∧ b 31 1 = nI 41 ∧ ∀ j, j < 41 → b 32 j = px_ch 0 j) ?_ ?_ 41 0 px_c0 1000 (by omega) ⟨fun _ _ _ => rfl, by decide, fun j hj => by omega⟩ (by omega)
    · intro n i z hi hz
      obtain ⟨a1, a2, a3⟩ := hz
      left
      try simp only
      rw [f_X5_init_93, el, if_pos (nI_lt hi (by omega)), if_pos (m_px hi (by omega)), nI_clamp (by omega), f_X2_put, a2, if_pos (show nI i < 160 by rw [show (160 : Int32) = nI 160 from rfl]; exact nI_lt (by omega) (by omega)), if_pos (m_px (by omega) (by omega)), nI_clamp (by omega), nI_1, Option.bind_some]
      refine ⟨_, ⟨fun a h1 h2 => ?_, ?_, fun j hj => ?_⟩, rfl⟩
      · rw [m_up_row _ _ _ _ h1, m_up_row _ _ _ _ h2]; exact a1 a h1 h2
      · rw [m_up, if_pos rfl, if_pos rfl]
      · rw [m_up_row _ _ _ _ (by decide), m_up, if_pos rfl]
        rcases Nat.lt_or_ge j i with hl | hl
        · rw [if_neg (by omega)]; exact a3 j hl
        · rw [if_pos (by omega), show j = i by omega]
    · intro n z hz
      obtain ⟨a1, a2, a3⟩ := hz
      try simp only
      rw [f_X5_init_93, el, if_neg (nI_nlt (Nat.le_refl _) (by omega))]
      exact ⟨z, rfl, a1, a2, a3⟩
  obtain ⟨b, e0, b1, b2, b3⟩ := put
  have c11 : px_c0 11 1 = 17 := by decide
  have c36 : ∀ j, px_c0 36 j = -1 := fun j => by simp [px_c0]
  have hok : px_ok 0 b := by
    refine ⟨?_, fun j hj => ?_⟩
    · rw [b1 11 (by decide) (by decide), c11]; decide
    · rw [b1 36 (by decide) (by decide), c36]; left; decide
  rcases m_compileC (T := 0) (st := b) (B := px_ch 0) (sz := 41) (by omega) b2 b3 ⟨by decide, by decide⟩ hok with ⟨_, s, e1, tx, s0, cf, f0, _⟩ | ⟨ok, _⟩
  · have pn : px_n 0 = 46 := rfl
    rw [pn] at tx f0
    obtain ⟨s1, es1⟩ : ∃ s1, s1 = up (up (up s 36 0 46) 0 6 1) 31 1 0 := ⟨_, rfl⟩
    have row0 : ∀ a, a ≠ 31 → a ≠ 32 → a ≠ 33 → a ≠ 34 → a ≠ 35 → a ≠ 46 → a ≠ 47 → s a = px_c0 a := fun a h1 h2 h3 h4 h5 h6 h7 => by
      rw [f0 a (by simp; omega), cf.1 a (by simp; omega), b1 a h1 h2]
    have row : ∀ a, a ≠ 0 → a ≠ 36 → a ≠ 31 → a ≠ 32 → a ≠ 33 → a ≠ 34 → a ≠ 35 → a ≠ 46 → a ≠ 47 → s1 a = px_c0 a := fun a h1 h2 h3 h4 h5 h6 h7 h8 h9 => by
      rw [es1, m_up_row _ _ _ _ h3, m_up_row _ _ _ _ h1, m_up_row _ _ _ _ h2, row0 a h3 h4 h5 h6 h7 h8 h9]
    have v36 : ∀ j, s1 36 j = if j = 0 then 46 else -1 := fun j => by
      rw [es1, m_up_row _ _ _ _ (by decide), m_up_row _ _ _ _ (by decide), m_up, if_pos rfl, row0 36 (by decide) (by decide) (by decide) (by decide) (by decide) (by decide) (by decide), c36]
    have v0 : ∀ j, s1 0 j = if j = 6 then 1 else px_c0 0 j := fun j => by
      rw [es1, m_up_row _ _ _ _ (by decide), m_up, if_pos rfl, m_up_row _ _ _ _ (by decide), row0 0 (by decide) (by decide) (by decide) (by decide) (by decide) (by decide) (by decide)]
    refine ⟨s1, ?_, ⟨?_, fun j hj => ?_⟩, row, by rw [v0, if_pos rfl], fun j hj => by rw [v0, if_neg hj], by rw [v36, if_pos rfl]; rfl, fun j hj => by rw [v36, if_neg hj], by rw [es1, m_up, if_pos rfl, if_pos rfl], ?_⟩
    · rw [f_X5_init, m_eq_bind e0, m_eq_bind e1]
      dsimp only
      rw [f_X2_clear, Option.bind_some, ← es1]
    · rw [row 11 (by decide) (by decide) (by decide) (by decide) (by decide) (by decide) (by decide) (by decide) (by decide), c11]; decide
    · rw [v36]
      by_cases e : j = 0
      · rw [if_pos e]; right; decide
      · rw [if_neg e]; left; decide
    · refine m_TX_eq tx ?_ ?_
      · rw [es1, m_up_row _ _ _ _ (by decide), m_up_row _ _ _ _ (by decide), m_up_row _ _ _ _ (by decide)]
      · rw [es1, m_up_row _ _ _ _ (by decide), m_up_row _ _ _ _ (by decide), m_up_row _ _ _ _ (by decide)]
  · rw [m_ok5] at ok; cases ok
theorem m_initR (s1 : px_S) : ∃ s2, f_X6_init s1 = some s2 ∧ (∀ a, a ≠ 48 → a ≠ 49 → a ≠ 50 → s2 a = px_m0 s1 a) ∧ s2 48 3 = 1 ∧ (∀ j, j ≠ 3 → s2 48 j = px_m0 s1 48 j) ∧ m_reft s2 0 m_B6 48 := by
  obtain ⟨b1, e1, f1, g1, h1⟩ := m_spell (k := 0) (by omega) 99 111 109 112 97 110 121 32 (px_m0 s1)
  obtain ⟨b2, e2, f2, g2, h2⟩ := m_spell (k := 8) (by omega) 108 105 107 101 32 59 32 111 b1
  obtain ⟨b3, e3, f3, g3, h3⟩ := m_spell (k := 16) (by omega) 97 116 104 32 50 48 32 59 b2
  obtain ⟨b4, e4, f4, g4, h4⟩ := m_spell (k := 24) (by omega) 32 106 111 105 110 115 32 108 b3
  obtain ⟨b5, e5, f5, g5, h5⟩ := m_spell (k := 32) (by omega) 105 107 101 32 60 32 57 32 b4
  obtain ⟨b6, e6, f6, g6, h6⟩ := m_spell (k := 40) (by omega) 59 32 32 32 32 32 32 32 b5
  refine ⟨up (up b6 50 0 48) 48 3 1, ?_, fun a n1 n2 n3 => ?_, ?_, fun j hj => ?_, ?_⟩
  · rw [f_X6_init, m_eq_bind (show f_X6_spell 0 0 99 111 109 112 97 110 121 32 (px_m0 s1) = some b1 from e1), m_eq_bind (show f_X6_spell 0 8 108 105 107 101 32 59 32 111 b1 = some b2 from e2), m_eq_bind (show f_X6_spell 0 16 97 116 104 32 50 48 32 59 b2 = some b3 from e3), m_eq_bind (show f_X6_spell 0 24 32 106 111 105 110 115 32 108 b3 = some b4 from e4), m_eq_bind (show f_X6_spell 0 32 105 107 101 32 60 32 57 32 b4 = some b5 from e5), m_eq_bind (show f_X6_spell 0 40 59 32 32 32 32 32 32 32 b5 = some b6 from e6)]
  · rw [m_up_row _ _ _ _ n1, m_up_row _ _ _ _ n3, f6 a n2, f5 a n2, f4 a n2, f3 a n2, f2 a n2, f1 a n2]
  · rw [m_up, if_pos rfl, if_pos rfl]
  · rw [m_up, if_pos rfl, if_neg hj, m_up_row _ _ _ _ (by decide), f6 48 (by decide), f5 48 (by decide), f4 48 (by decide), f3 48 (by decide), f2 48 (by decide), f1 48 (by decide)]
  · refine ⟨by decide, by rw [m_up_row _ _ _ _ (by decide), m_up, if_pos rfl, if_pos rfl]; rfl, by decide, fun j hj => ?_, m_B6p⟩
    rw [m_up_row _ _ _ _ (by decide), m_up_row _ _ _ _ (by decide), Nat.mul_zero, Nat.zero_add]
    have part : ∀ (k i : Nat) (l : List Int32), i < 8 → j = k + i → ((List.range 8).all (fun i => m_B6 (k + i) == l.getD i 0)) = true → l.getD i 0 = m_B6 j := fun k i l hi hj hl => by
      have := List.all_eq_true.mp hl i (List.mem_range.mpr hi)
      rw [beq_iff_eq] at this
      rw [hj, this]
    rcases Nat.lt_or_ge j 8 with c | c
    · rw [g6 j (by omega), g5 j (by omega), g4 j (by omega), g3 j (by omega), g2 j (by omega)]
      have := h1 j c
      rw [Nat.zero_add] at this
      rw [this]; exact part 0 j _ c (by omega) (by decide +kernel)
    rcases Nat.lt_or_ge j 16 with c2 | c2
    · rw [g6 j (by omega), g5 j (by omega), g4 j (by omega), g3 j (by omega)]
      have := h2 (j - 8) (by omega)
      rw [show 8 + (j - 8) = j by omega] at this
      rw [this]; exact part 8 (j - 8) _ (by omega) (by omega) (by decide +kernel)
    rcases Nat.lt_or_ge j 24 with c3 | c3
    · rw [g6 j (by omega), g5 j (by omega), g4 j (by omega)]
      have := h3 (j - 16) (by omega)
      rw [show 16 + (j - 16) = j by omega] at this
      rw [this]; exact part 16 (j - 16) _ (by omega) (by omega) (by decide +kernel)
    rcases Nat.lt_or_ge j 32 with c4 | c4
    · rw [g6 j (by omega), g5 j (by omega)]
      have := h4 (j - 24) (by omega)
      rw [show 24 + (j - 24) = j by omega] at this
      rw [this]; exact part 24 (j - 24) _ (by omega) (by omega) (by decide +kernel)
    rcases Nat.lt_or_ge j 40 with c5 | c5
    · rw [g6 j (by omega)]
      have := h5 (j - 32) (by omega)
      rw [show 32 + (j - 32) = j by omega] at this
      rw [this]; exact part 32 (j - 32) _ (by omega) (by omega) (by decide +kernel)
    · have := h6 (j - 40) (by omega)
      rw [show 40 + (j - 40) = j by omega] at this
      rw [this]; exact part 40 (j - 40) _ (by omega) (by omega) (by decide +kernel)
/-- the house at the start -/
def h_0 : px_H := fun a j => if a = 2 then 5 else if j = 0 then (if a = 6 then 100 else if a = 7 then 3 else 0) else 0
theorem h_0w : m_HW h_0 := by
  refine ⟨by decide, by decide, by decide, by decide, by decide, fun j hj => absurd hj (by simp [h_0]), fun p q hp hq => ?_, fun j hj => ?_, fun p q hp hq => ?_, fun p hp => ?_⟩
  · simp [h_0]
  · simp [h_0]
  · simp [h_0]
  · simp [h_0]
theorem m_begin : ∃ s1 s2, f_X5_init = some s1 ∧ px_ok 1 s1 ∧ f_X6_init s1 = some s2 ∧ Inv 0 s2 := by
  obtain ⟨s1, a1, a2, a3, a4, a5, a6, a7, a8, a9⟩ := m_initC
  obtain ⟨s2, b1, b2, b3, b4, b5⟩ := m_initR s1
  refine ⟨s1, s2, a1, a2, b1, ?_⟩
  have lo : ∀ a, a < 48 → s2 a = s1 a := fun a ha => by rw [b2 a (by omega) (by omega) (by omega), px_m0, if_pos ha]
  have hi : ∀ a, 51 ≤ a → a < 70 → ∀ j, s2 a j = 0 := fun a h1 h2 j => by rw [b2 a (by omega) (by omega) (by omega), px_m0, if_neg (by omega), if_neg (by omega), if_pos h2]
  have sl : ∀ j, j ≠ 3 → s2 48 j = if j = 13 then 100 else if j = 14 then 3 else if j = 48 then (-1) else 0 := fun j hj => by rw [b4 j hj, px_m0, if_neg (by omega), if_pos rfl]
  have row : ∀ a, a ≠ 0 → a < 31 → s2 a = px_c0 a := fun a h0 h1 => by
    rw [lo a (by omega), a3 a h0 (by omega) (by omega) (by omega) (by omega) (by omega) (by omega) (by omega) (by omega)]
  refine ⟨by omega, ⟨?_, fun j hj => ?_⟩, ⟨?_, ?_, fun k hk => ?_⟩, ⟨0, by omega, ?_, ?_, fun j hj => by omega⟩, fun k hk => Or.inl ⟨?_, ?_⟩, h_0, ⟨h_0w, by decide, ?_, ?_⟩, Or.inl ⟨?_, ?_⟩⟩
  · rw [row 11 (by decide) (by decide)]; decide
  · rw [lo 36 (by decide)]
    by_cases e : j = 0
    · rw [e, a6]; right; decide
    · rw [a7 j e]; left; decide
  · rw [lo 0 (by decide), a4]; rfl
  · rw [b3]; rfl
  · have e : k = 0 := by omega
    subst e
    refine ⟨m_B6, 48, ?_, ?_, b5, m_ok6⟩
    · rw [lo 36 (by decide), a6]; rfl
    · have t : m_TX s2 46 (m_C (m_tk (m_lx (px_ch 0) 41 0))) := m_TX_eq a9 (lo 46 (by decide)) (lo 47 (by decide))
      unfold m_TX at t
      rw [m_same.1, m_same.2.1, m_same.2.2] at t
      exact t
  · rw [lo 31 (by decide), a8]; rfl
  · rw [sl 6 (by decide)]; rfl
  · rw [lo _ (by omega), a3 _ (by omega) (by omega) (by omega) (by omega) (by omega) (by omega) (by omega) (by omega) (by omega)]
    rcases (show k = 0 ∨ k = 1 ∨ k = 2 ∨ k = 3 by omega) with rfl | rfl | rfl | rfl <;> decide
  · rw [hi 66 (by decide) (by decide)]
  · refine ⟨?_, ?_, ?_, ?_, ?_, ?_, fun j hj => absurd hj (by simp [h_0]), fun j hj => ?_, fun j hj => ?_⟩
    · rw [row 1 (by decide) (by decide)]; decide
    · rw [row 1 (by decide) (by decide)]; decide
    · rw [row 1 (by decide) (by decide)]; decide
    · rw [row 1 (by decide) (by decide)]; decide
    · rw [row 1 (by decide) (by decide)]; decide
    · rw [row 1 (by decide) (by decide)]; decide
    · rw [row (1 + 3) (by decide) (by decide)]; rfl
    · rw [row (1 + 4) (by decide) (by decide)]
      have : h_0 3 j = 0 := by simp [h_0]
      rw [this]; rfl
  · refine ⟨?_, ?_, ?_, ?_, ?_, ?_, fun j hj => absurd hj (by simp [h_0]), fun p q hp => absurd hp (by simp [h_0]), fun j hj => absurd hj (by simp [h_0])⟩
    · rw [sl 11 (by decide)]; decide
    · rw [sl 12 (by decide)]; decide
    · rw [sl 13 (by decide)]; decide
    · rw [sl 14 (by decide)]; decide
    · rw [sl 15 (by decide)]; decide
    · rw [sl 4 (by decide)]; decide
  · rw [lo 0 (by decide), a5 7 (by decide)]; decide
  · rw [sl 48 (by decide)]; rfl
