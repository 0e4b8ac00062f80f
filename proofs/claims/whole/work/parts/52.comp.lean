theorem rl0 (w : Nat → Int32) : px_rl 46 (px_cell 0 w) := by simp [px_cell, px_house, px_sheet, px_text, px_f0, px_f31, px_f48, px_rl, px_rvs, px_rv]
theorem rl1 (w : Nat → Int32) : px_rl 46 (px_cell 1 w) := by simp [px_cell, px_house, px_sheet, px_text, px_f0, px_f31, px_f48, px_rl, px_rvs, px_rv]
theorem rl2 (w : Nat → Int32) : px_rl 46 (px_cell 2 w) := by simp [px_cell, px_house, px_sheet, px_text, px_f0, px_f31, px_f48, px_rl, px_rvs, px_rv]
theorem rl3 (w : Nat → Int32) : px_rl 46 (px_cell 3 w) := by simp [px_cell, px_house, px_sheet, px_text, px_f0, px_f31, px_f48, px_rl, px_rvs, px_rv]
theorem rl4 (w : Nat → Int32) : px_rl 46 (px_cell 4 w) := by simp [px_cell, px_house, px_sheet, px_text, px_f0, px_f31, px_f48, px_rl, px_rvs, px_rv]
theorem rl5 (w : Nat → Int32) : px_rl 46 (px_cell 5 w) := by simp [px_cell, px_house, px_sheet, px_text, px_f0, px_f31, px_f48, px_rl, px_rvs, px_rv]
theorem rl6 (w : Nat → Int32) : px_rl 46 (px_cell 6 w) := by simp [px_cell, px_house, px_sheet, px_text, px_f0, px_f31, px_f48, px_rl, px_rvs, px_rv]
theorem rl7 (w : Nat → Int32) : px_rl 46 (px_cell 7 w) := by simp [px_cell, px_house, px_sheet, px_text, px_f0, px_f31, px_f48, px_rl, px_rvs, px_rv]
theorem rl8 (w : Nat → Int32) : px_rl 46 (px_cell 8 w) := by simp [px_cell, px_house, px_sheet, px_text, px_f0, px_f31, px_f48, px_rl, px_rvs, px_rv]
theorem rl9 (w : Nat → Int32) : px_rl 46 (px_cell 9 w) := by simp [px_cell, px_house, px_sheet, px_text, px_f0, px_f31, px_f48, px_rl, px_rvs, px_rv]
theorem rl10 (w : Nat → Int32) : px_rl 46 (px_cell 10 w) := by simp [px_cell, px_house, px_sheet, px_text, px_f0, px_f31, px_f48, px_rl, px_rvs, px_rv]
theorem rl12 (w : Nat → Int32) : px_rl 46 (px_cell 12 w) := by simp [px_cell, px_house, px_sheet, px_text, px_f0, px_f31, px_f48, px_rl, px_rvs, px_rv]
theorem rl13 (w : Nat → Int32) : px_rl 46 (px_cell 13 w) := by simp [px_cell, px_house, px_sheet, px_text, px_f0, px_f31, px_f48, px_rl, px_rvs, px_rv]
theorem rl14 (w : Nat → Int32) : px_rl 46 (px_cell 14 w) := by simp [px_cell, px_house, px_sheet, px_text, px_f0, px_f31, px_f48, px_rl, px_rvs, px_rv]
theorem rl15 (w : Nat → Int32) : px_rl 46 (px_cell 15 w) := by simp [px_cell, px_house, px_sheet, px_text, px_f0, px_f31, px_f48, px_rl, px_rvs, px_rv]
theorem rl16 (w : Nat → Int32) : px_rl 46 (px_cell 16 w) := by simp [px_cell, px_house, px_sheet, px_text, px_f0, px_f31, px_f48, px_rl, px_rvs, px_rv]
theorem rl17 (w : Nat → Int32) : px_rl 46 (px_cell 17 w) := by simp [px_cell, px_house, px_sheet, px_text, px_f0, px_f31, px_f48, px_rl, px_rvs, px_rv]
theorem rl18 (w : Nat → Int32) : px_rl 46 (px_cell 18 w) := by simp [px_cell, px_house, px_sheet, px_text, px_f0, px_f31, px_f48, px_rl, px_rvs, px_rv]
theorem rl19 (w : Nat → Int32) : px_rl 46 (px_cell 19 w) := by simp [px_cell, px_house, px_sheet, px_text, px_f0, px_f31, px_f48, px_rl, px_rvs, px_rv]
theorem rl20 (w : Nat → Int32) : px_rl 46 (px_cell 20 w) := by simp [px_cell, px_house, px_sheet, px_text, px_f0, px_f31, px_f48, px_rl, px_rvs, px_rv]
theorem rl21 (w : Nat → Int32) : px_rl 46 (px_cell 21 w) := by simp [px_cell, px_house, px_sheet, px_text, px_f0, px_f31, px_f48, px_rl, px_rvs, px_rv]
theorem rl22 (w : Nat → Int32) : px_rl 46 (px_cell 22 w) := by simp [px_cell, px_house, px_sheet, px_text, px_f0, px_f31, px_f48, px_rl, px_rvs, px_rv]
theorem rl23 (w : Nat → Int32) : px_rl 46 (px_cell 23 w) := by simp [px_cell, px_house, px_sheet, px_text, px_f0, px_f31, px_f48, px_rl, px_rvs, px_rv]
theorem rl24 (w : Nat → Int32) : px_rl 46 (px_cell 24 w) := by simp [px_cell, px_house, px_sheet, px_text, px_f0, px_f31, px_f48, px_rl, px_rvs, px_rv]
theorem rl25 (w : Nat → Int32) : px_rl 46 (px_cell 25 w) := by simp [px_cell, px_house, px_sheet, px_text, px_f0, px_f31, px_f48, px_rl, px_rvs, px_rv]
theorem rl26 (w : Nat → Int32) : px_rl 46 (px_cell 26 w) := by simp [px_cell, px_house, px_sheet, px_text, px_f0, px_f31, px_f48, px_rl, px_rvs, px_rv]
theorem rl27 (w : Nat → Int32) : px_rl 46 (px_cell 27 w) := by simp [px_cell, px_house, px_sheet, px_text, px_f0, px_f31, px_f48, px_rl, px_rvs, px_rv]
theorem rl28 (w : Nat → Int32) : px_rl 46 (px_cell 28 w) := by simp [px_cell, px_house, px_sheet, px_text, px_f0, px_f31, px_f48, px_rl, px_rvs, px_rv]
theorem rl29 (w : Nat → Int32) : px_rl 46 (px_cell 29 w) := by simp [px_cell, px_house, px_sheet, px_text, px_f0, px_f31, px_f48, px_rl, px_rvs, px_rv]
theorem rl30 (w : Nat → Int32) : px_rl 46 (px_cell 30 w) := by simp [px_cell, px_house, px_sheet, px_text, px_f0, px_f31, px_f48, px_rl, px_rvs, px_rv]
theorem rl31 (w : Nat → Int32) : px_rl 46 (px_cell 31 w) := by simp [px_cell, px_house, px_sheet, px_text, px_f0, px_f31, px_f48, px_rl, px_rvs, px_rv]
theorem rl32 (w : Nat → Int32) : px_rl 46 (px_cell 32 w) := by simp [px_cell, px_house, px_sheet, px_text, px_f0, px_f31, px_f48, px_rl, px_rvs, px_rv]
theorem rl33 (w : Nat → Int32) : px_rl 46 (px_cell 33 w) := by simp [px_cell, px_house, px_sheet, px_text, px_f0, px_f31, px_f48, px_rl, px_rvs, px_rv]
theorem rl34 (w : Nat → Int32) : px_rl 46 (px_cell 34 w) := by simp [px_cell, px_house, px_sheet, px_text, px_f0, px_f31, px_f48, px_rl, px_rvs, px_rv]
theorem rl35 (w : Nat → Int32) : px_rl 46 (px_cell 35 w) := by simp [px_cell, px_house, px_sheet, px_text, px_f0, px_f31, px_f48, px_rl, px_rvs, px_rv]
theorem rl38 (w : Nat → Int32) : px_rl 46 (px_cell 38 w) := by simp [px_cell, px_house, px_sheet, px_text, px_f0, px_f31, px_f48, px_rl, px_rvs, px_rv]
theorem rl39 (w : Nat → Int32) : px_rl 46 (px_cell 39 w) := by simp [px_cell, px_house, px_sheet, px_text, px_f0, px_f31, px_f48, px_rl, px_rvs, px_rv]
theorem rl40 (w : Nat → Int32) : px_rl 46 (px_cell 40 w) := by simp [px_cell, px_house, px_sheet, px_text, px_f0, px_f31, px_f48, px_rl, px_rvs, px_rv]
theorem rl41 (w : Nat → Int32) : px_rl 46 (px_cell 41 w) := by simp [px_cell, px_house, px_sheet, px_text, px_f0, px_f31, px_f48, px_rl, px_rvs, px_rv]
theorem rl42 (w : Nat → Int32) : px_rl 46 (px_cell 42 w) := by simp [px_cell, px_house, px_sheet, px_text, px_f0, px_f31, px_f48, px_rl, px_rvs, px_rv]
theorem rl43 (w : Nat → Int32) : px_rl 46 (px_cell 43 w) := by simp [px_cell, px_house, px_sheet, px_text, px_f0, px_f31, px_f48, px_rl, px_rvs, px_rv]
theorem rl44 (w : Nat → Int32) : px_rl 46 (px_cell 44 w) := by simp [px_cell, px_house, px_sheet, px_text, px_f0, px_f31, px_f48, px_rl, px_rvs, px_rv]
theorem rl45 (w : Nat → Int32) : px_rl 46 (px_cell 45 w) := by simp [px_cell, px_house, px_sheet, px_text, px_f0, px_f31, px_f48, px_rl, px_rvs, px_rv]
theorem rl46 (w : Nat → Int32) : px_rl 48 (px_cell 46 w) := by simp [px_cell, px_house, px_sheet, px_text, px_f0, px_f31, px_f48, px_rl, px_rvs, px_rv]
theorem rl47 (w : Nat → Int32) : px_rl 48 (px_cell 47 w) := by simp [px_cell, px_house, px_sheet, px_text, px_f0, px_f31, px_f48, px_rl, px_rvs, px_rv]
theorem rl48 (w : Nat → Int32) : px_rl 70 (px_cell 48 w) := by simp [px_cell, px_house, px_sheet, px_text, px_f0, px_f31, px_f48, px_rl, px_rvs, px_rv]
theorem rl49 (w : Nat → Int32) : px_rl 70 (px_cell 49 w) := by simp [px_cell, px_house, px_sheet, px_text, px_f0, px_f31, px_f48, px_rl, px_rvs, px_rv]
theorem rl50 (w : Nat → Int32) : px_rl 70 (px_cell 50 w) := by simp [px_cell, px_house, px_sheet, px_text, px_f0, px_f31, px_f48, px_rl, px_rvs, px_rv]
theorem rl51 (w : Nat → Int32) : px_rl 70 (px_cell 51 w) := by simp [px_cell, px_house, px_sheet, px_text, px_f0, px_f31, px_f48, px_rl, px_rvs, px_rv]
theorem rl52 (w : Nat → Int32) : px_rl 70 (px_cell 52 w) := by simp [px_cell, px_house, px_sheet, px_text, px_f0, px_f31, px_f48, px_rl, px_rvs, px_rv]
theorem rl53 (w : Nat → Int32) : px_rl 70 (px_cell 53 w) := by simp [px_cell, px_house, px_sheet, px_text, px_f0, px_f31, px_f48, px_rl, px_rvs, px_rv]
theorem rl54 (w : Nat → Int32) : px_rl 70 (px_cell 54 w) := by simp [px_cell, px_house, px_sheet, px_text, px_f0, px_f31, px_f48, px_rl, px_rvs, px_rv]
theorem rl55 (w : Nat → Int32) : px_rl 70 (px_cell 55 w) := by simp [px_cell, px_house, px_sheet, px_text, px_f0, px_f31, px_f48, px_rl, px_rvs, px_rv]
theorem rl56 (w : Nat → Int32) : px_rl 70 (px_cell 56 w) := by simp [px_cell, px_house, px_sheet, px_text, px_f0, px_f31, px_f48, px_rl, px_rvs, px_rv]
theorem rl57 (w : Nat → Int32) : px_rl 70 (px_cell 57 w) := by simp [px_cell, px_house, px_sheet, px_text, px_f0, px_f31, px_f48, px_rl, px_rvs, px_rv]
theorem rl58 (w : Nat → Int32) : px_rl 70 (px_cell 58 w) := by simp [px_cell, px_house, px_sheet, px_text, px_f0, px_f31, px_f48, px_rl, px_rvs, px_rv]
theorem rl59 (w : Nat → Int32) : px_rl 70 (px_cell 59 w) := by simp [px_cell, px_house, px_sheet, px_text, px_f0, px_f31, px_f48, px_rl, px_rvs, px_rv]
theorem rl60 (w : Nat → Int32) : px_rl 70 (px_cell 60 w) := by simp [px_cell, px_house, px_sheet, px_text, px_f0, px_f31, px_f48, px_rl, px_rvs, px_rv]
theorem rl61 (w : Nat → Int32) : px_rl 70 (px_cell 61 w) := by simp [px_cell, px_house, px_sheet, px_text, px_f0, px_f31, px_f48, px_rl, px_rvs, px_rv]
theorem rl62 (w : Nat → Int32) : px_rl 70 (px_cell 62 w) := by simp [px_cell, px_house, px_sheet, px_text, px_f0, px_f31, px_f48, px_rl, px_rvs, px_rv]
theorem rl63 (w : Nat → Int32) : px_rl 70 (px_cell 63 w) := by simp [px_cell, px_house, px_sheet, px_text, px_f0, px_f31, px_f48, px_rl, px_rvs, px_rv]
theorem rl64 (w : Nat → Int32) : px_rl 70 (px_cell 64 w) := by simp [px_cell, px_house, px_sheet, px_text, px_f0, px_f31, px_f48, px_rl, px_rvs, px_rv]
theorem rl65 (w : Nat → Int32) : px_rl 70 (px_cell 65 w) := by simp [px_cell, px_house, px_sheet, px_text, px_f0, px_f31, px_f48, px_rl, px_rvs, px_rv]
theorem rl66 (w : Nat → Int32) : px_rl 70 (px_cell 66 w) := by simp [px_cell, px_house, px_sheet, px_text, px_f0, px_f31, px_f48, px_rl, px_rvs, px_rv]
theorem rl67 (w : Nat → Int32) : px_rl 70 (px_cell 67 w) := by simp [px_cell, px_house, px_sheet, px_text, px_f0, px_f31, px_f48, px_rl, px_rvs, px_rv]
theorem rl68 (w : Nat → Int32) : px_rl 70 (px_cell 68 w) := by simp [px_cell, px_house, px_sheet, px_text, px_f0, px_f31, px_f48, px_rl, px_rvs, px_rv]
theorem rl69 (w : Nat → Int32) : px_rl 70 (px_cell 69 w) := by simp [px_cell, px_house, px_sheet, px_text, px_f0, px_f31, px_f48, px_rl, px_rvs, px_rv]
theorem px_n_1 {T : Nat} (h : 1 ≤ T) : 48 ≤ px_n T := by unfold px_n; rw [if_neg (by omega)]; split <;> omega
theorem px_n_2 {T : Nat} (h : 2 ≤ T) : px_n T = 66 + 2 * T := by unfold px_n; rw [if_neg (by omega), if_neg (by omega)]
theorem px_n_lt {T k : Nat} (h : k < px_n T) : k < 46 ∨ (1 ≤ T ∧ k < 48) ∨ (2 ≤ T ∧ k < 66 + 2 * T) := by
  unfold px_n at h
  split at h
  · exact Or.inl h
  · split at h
    · exact Or.inr (Or.inl ⟨by omega, h⟩)
    · exact Or.inr (Or.inr ⟨by omega, h⟩)
abbrev px_ok (T : Nat) (st : px_S) : Prop := (st 11 1).toNatClampNeg < px_n T ∧ ∀ j, j < 6 → st 36 j < 0 ∨ (st 36 j).toNatClampNeg < px_n T
theorem px_rl_cell {T : Nat} {st : px_S} (hok : px_ok T st) : ∀ k, k < px_n T → px_rl (px_n T) (px_cell k (st k)) := by
  intro k hk
  have h46 := px_n_ge T
  match k, hk with
  | 0, _ => exact px_rl_mono h46 (rl0 _)
  | 1, _ => exact px_rl_mono h46 (rl1 _)
  | 2, _ => exact px_rl_mono h46 (rl2 _)
  | 3, _ => exact px_rl_mono h46 (rl3 _)
  | 4, _ => exact px_rl_mono h46 (rl4 _)
  | 5, _ => exact px_rl_mono h46 (rl5 _)
  | 6, _ => exact px_rl_mono h46 (rl6 _)
  | 7, _ => exact px_rl_mono h46 (rl7 _)
  | 8, _ => exact px_rl_mono h46 (rl8 _)
  | 9, _ => exact px_rl_mono h46 (rl9 _)
  | 10, _ => exact px_rl_mono h46 (rl10 _)
  | 11, _ =>
    have h1 := hok.1
    have lt : ∀ {x}, x < 46 → x < px_n T := fun hx => Nat.lt_of_lt_of_le hx h46
    exact (show px_rvs (px_n T) (px_f11 (st 11)) from ⟨lt (by decide), h1, lt (by decide), lt (by decide), trivial, lt (by decide), lt (by decide), lt (by decide), lt (by decide), lt (by decide), lt (by decide), lt (by decide), trivial, lt (by decide), lt (by decide), lt (by decide), trivial⟩)
  | 12, _ => exact px_rl_mono h46 (rl12 _)
  | 13, _ => exact px_rl_mono h46 (rl13 _)
  | 14, _ => exact px_rl_mono h46 (rl14 _)
  | 15, _ => exact px_rl_mono h46 (rl15 _)
  | 16, _ => exact px_rl_mono h46 (rl16 _)
  | 17, _ => exact px_rl_mono h46 (rl17 _)
  | 18, _ => exact px_rl_mono h46 (rl18 _)
  | 19, _ => exact px_rl_mono h46 (rl19 _)
  | 20, _ => exact px_rl_mono h46 (rl20 _)
  | 21, _ => exact px_rl_mono h46 (rl21 _)
  | 22, _ => exact px_rl_mono h46 (rl22 _)
  | 23, _ => exact px_rl_mono h46 (rl23 _)
  | 24, _ => exact px_rl_mono h46 (rl24 _)
  | 25, _ => exact px_rl_mono h46 (rl25 _)
  | 26, _ => exact px_rl_mono h46 (rl26 _)
  | 27, _ => exact px_rl_mono h46 (rl27 _)
  | 28, _ => exact px_rl_mono h46 (rl28 _)
  | 29, _ => exact px_rl_mono h46 (rl29 _)
  | 30, _ => exact px_rl_mono h46 (rl30 _)
  | 31, _ => exact px_rl_mono h46 (rl31 _)
  | 32, _ => exact px_rl_mono h46 (rl32 _)
  | 33, _ => exact px_rl_mono h46 (rl33 _)
  | 34, _ => exact px_rl_mono h46 (rl34 _)
  | 35, _ => exact px_rl_mono h46 (rl35 _)
  | 36, _ =>
    intro j q hq
    simp only at hq
    split at hq
    · rename_i hj
      rcases hok.2 j hj with z | z
      · rw [px_on, if_pos z] at hq; cases hq
      · rw [px_on] at hq
        split at hq
        · cases hq
        · cases hq; exact z
    · cases hq
  | 37, _ =>
    intro j q hq
    simp only at hq
    split at hq
    · cases hq; omega
    · cases hq
  | 38, _ => exact px_rl_mono h46 (rl38 _)
  | 39, _ => exact px_rl_mono h46 (rl39 _)
  | 40, _ => exact px_rl_mono h46 (rl40 _)
  | 41, _ => exact px_rl_mono h46 (rl41 _)
  | 42, _ => exact px_rl_mono h46 (rl42 _)
  | 43, _ => exact px_rl_mono h46 (rl43 _)
  | 44, _ => exact px_rl_mono h46 (rl44 _)
  | 45, _ => exact px_rl_mono h46 (rl45 _)
  | 46, hk => exact px_rl_mono (px_n_1 (by rcases px_n_lt hk with z | z | z <;> omega)) (rl46 _)
  | 47, hk => exact px_rl_mono (px_n_1 (by rcases px_n_lt hk with z | z | z <;> omega)) (rl47 _)
  | 48, hk => exact px_rl_mono (by rw [px_n_2 (by rcases px_n_lt hk with z | z | z <;> omega)]; rcases px_n_lt hk with z | z | z <;> omega) (rl48 _)
  | 49, hk => exact px_rl_mono (by rw [px_n_2 (by rcases px_n_lt hk with z | z | z <;> omega)]; rcases px_n_lt hk with z | z | z <;> omega) (rl49 _)
  | 50, hk => exact px_rl_mono (by rw [px_n_2 (by rcases px_n_lt hk with z | z | z <;> omega)]; rcases px_n_lt hk with z | z | z <;> omega) (rl50 _)
  | 51, hk => exact px_rl_mono (by rw [px_n_2 (by rcases px_n_lt hk with z | z | z <;> omega)]; rcases px_n_lt hk with z | z | z <;> omega) (rl51 _)
  | 52, hk => exact px_rl_mono (by rw [px_n_2 (by rcases px_n_lt hk with z | z | z <;> omega)]; rcases px_n_lt hk with z | z | z <;> omega) (rl52 _)
  | 53, hk => exact px_rl_mono (by rw [px_n_2 (by rcases px_n_lt hk with z | z | z <;> omega)]; rcases px_n_lt hk with z | z | z <;> omega) (rl53 _)
  | 54, hk => exact px_rl_mono (by rw [px_n_2 (by rcases px_n_lt hk with z | z | z <;> omega)]; rcases px_n_lt hk with z | z | z <;> omega) (rl54 _)
  | 55, hk => exact px_rl_mono (by rw [px_n_2 (by rcases px_n_lt hk with z | z | z <;> omega)]; rcases px_n_lt hk with z | z | z <;> omega) (rl55 _)
  | 56, hk => exact px_rl_mono (by rw [px_n_2 (by rcases px_n_lt hk with z | z | z <;> omega)]; rcases px_n_lt hk with z | z | z <;> omega) (rl56 _)
  | 57, hk => exact px_rl_mono (by rw [px_n_2 (by rcases px_n_lt hk with z | z | z <;> omega)]; rcases px_n_lt hk with z | z | z <;> omega) (rl57 _)
  | 58, hk => exact px_rl_mono (by rw [px_n_2 (by rcases px_n_lt hk with z | z | z <;> omega)]; rcases px_n_lt hk with z | z | z <;> omega) (rl58 _)
  | 59, hk => exact px_rl_mono (by rw [px_n_2 (by rcases px_n_lt hk with z | z | z <;> omega)]; rcases px_n_lt hk with z | z | z <;> omega) (rl59 _)
  | 60, hk => exact px_rl_mono (by rw [px_n_2 (by rcases px_n_lt hk with z | z | z <;> omega)]; rcases px_n_lt hk with z | z | z <;> omega) (rl60 _)
  | 61, hk => exact px_rl_mono (by rw [px_n_2 (by rcases px_n_lt hk with z | z | z <;> omega)]; rcases px_n_lt hk with z | z | z <;> omega) (rl61 _)
  | 62, hk => exact px_rl_mono (by rw [px_n_2 (by rcases px_n_lt hk with z | z | z <;> omega)]; rcases px_n_lt hk with z | z | z <;> omega) (rl62 _)
  | 63, hk => exact px_rl_mono (by rw [px_n_2 (by rcases px_n_lt hk with z | z | z <;> omega)]; rcases px_n_lt hk with z | z | z <;> omega) (rl63 _)
  | 64, hk => exact px_rl_mono (by rw [px_n_2 (by rcases px_n_lt hk with z | z | z <;> omega)]; rcases px_n_lt hk with z | z | z <;> omega) (rl64 _)
  | 65, hk => exact px_rl_mono (by rw [px_n_2 (by rcases px_n_lt hk with z | z | z <;> omega)]; rcases px_n_lt hk with z | z | z <;> omega) (rl65 _)
  | 66, hk => exact px_rl_mono (by rw [px_n_2 (by rcases px_n_lt hk with z | z | z <;> omega)]; rcases px_n_lt hk with z | z | z <;> omega) (rl66 _)
  | 67, hk => exact px_rl_mono (by rw [px_n_2 (by rcases px_n_lt hk with z | z | z <;> omega)]; rcases px_n_lt hk with z | z | z <;> omega) (rl67 _)
  | 68, hk => exact px_rl_mono (by rw [px_n_2 (by rcases px_n_lt hk with z | z | z <;> omega)]; rcases px_n_lt hk with z | z | z <;> omega) (rl68 _)
  | 69, hk => exact px_rl_mono (by rw [px_n_2 (by rcases px_n_lt hk with z | z | z <;> omega)]; rcases px_n_lt hk with z | z | z <;> omega) (rl69 _)
  | k + 70, hk =>
    have h2 : 2 ≤ T := by rcases px_n_lt hk with z | z | z <;> omega
    rw [px_n_2 h2] at hk ⊢
    rw [px_cell_hi]
    split
    · rename_i he
      exact (show px_rvs (66 + 2 * T) [.ref (k + 70 + 1), .int _, .int _] from ⟨(show k + 70 + 1 < 66 + 2 * T by omega), trivial, trivial, trivial⟩)
    · trivial
theorem hp_wf {T : Nat} {st : px_S} (hok : px_ok T st) : px_wf (HP T st) := by
  intro c hc
  rw [hp_len]
  obtain ⟨k, hk, rfl⟩ := List.mem_map.mp hc
  exact px_rl_cell hok k (List.mem_range.mp hk)
theorem px_n_succ {T : Nat} (h : T ≠ 1) : px_n (T + 1) = px_n T + 1 + 1 := by
  unfold px_n
  by_cases h0 : T = 0
  · subst h0; rfl
  · rw [if_neg (by omega), if_neg (by omega), if_neg h0, if_neg h]; omega
theorem px_cell_t {T : Nat} (h : T ≠ 1) (w : Nat → Int32) : px_cell (px_n T) w = px_text (px_n T) w := by
  by_cases h0 : T = 0
  · subst h0; rfl
  · have h2 : 2 ≤ T := by omega
    rw [px_n_2 h2]
    obtain ⟨k, hk⟩ : ∃ k, 66 + 2 * T = k + 70 := ⟨2 * T - 4, by omega⟩
    rw [hk, px_cell_hi, if_pos (by omega)]
theorem px_cell_c {T : Nat} (h : T ≠ 1) (w : Nat → Int32) : px_cell (px_n T + 1) w = px_code w := by
  by_cases h0 : T = 0
  · subst h0; rfl
  · have h2 : 2 ≤ T := by omega
    rw [px_n_2 h2]
    obtain ⟨k, hk⟩ : ∃ k, 66 + 2 * T + 1 = k + 70 := ⟨2 * T - 3, by omega⟩
    rw [hk, px_cell_hi, if_neg (by omega)]
theorem hp_grow {T : Nat} (st : px_S) (h : T ≠ 1) (w1 w2 : Nat → Int32) : HP T st ++ [px_text (px_n T) w1, px_code w2] = HP (T + 1) (upr (upr st (px_n T) w1) (px_n T + 1) w2) := by
  have e0 : (List.range (px_n T)).map (fun k => px_cell k (st k)) = (List.range (px_n T)).map (fun k => px_cell k (upr (upr st (px_n T) w1) (px_n T + 1) w2 k)) := by
    refine List.map_congr_left (fun k hk => ?_)
    have hk2 := List.mem_range.mp hk
    have e : upr (upr st (px_n T) w1) (px_n T + 1) w2 k = st k := by
      simp only [upr]
      rw [if_neg (by omega), if_neg (by omega)]
    rw [e]
  rw [HP, HP, px_n_succ h, List.range_succ, List.range_succ, List.map_append, List.map_append, e0, List.append_assoc]
  congr 1
  have e1 : upr (upr st (px_n T) w1) (px_n T + 1) w2 (px_n T) = w1 := by
    rw [upr, if_neg (by omega), upr, if_pos rfl]
  have e2 : upr (upr st (px_n T) w1) (px_n T + 1) w2 (px_n T + 1) = w2 := by
    rw [upr, if_pos rfl]
  show [px_text (px_n T) w1, px_code w2] = [px_cell (px_n T) (upr (upr st (px_n T) w1) (px_n T + 1) w2 (px_n T))] ++ [px_cell (px_n T + 1) (upr (upr st (px_n T) w1) (px_n T + 1) w2 (px_n T + 1))]
  rw [e1, e2, px_cell_t h, px_cell_c h]
  rfl
set_option maxRecDepth 20000 in
/-- Arrays.copyOf of a row of 160, to fewer -/
theorem k_copyOf {h : List px_C} {a m : Nat} {f : Nat → Int32} (wf : px_wf h) (hc : h[a]? = some (.inr (.inl (0, 160, f)))) (hm : m < 160) (hlt : h.length < 1000) : px_K 1 1 160 m_J7_copyOf_59c91 [.ref a, .int (nI m)] h (some (.ref h.length)) (h ++ [.inr (.inl (0, m, va_cpy f (fun _ => 0) 0 0 m))]) := by
  have ha : a < h.length := (List.getElem?_eq_some_iff.mp hc).1
  have e1 : (nI m).toNatClampNeg = m := nI_clamp (by omega)
  have hc2 : (h ++ [.inr (.inl (0, m, fun _ => 0))])[a]? = some (.inr (.inl (0, 160, f))) := by rw [List.getElem?_append_left ha]; exact hc
  refine px_Kof (g := fun _ : Unit => (some (.ref h.length), h ++ [.inr (.inl (0, m, va_cpy f (fun _ => 0) 0 0 m))])) (f := some ()) (b := ()) rfl mf_J7_copyOf_59c91 (as := [.ref a, .int (nI m)]) (Nat.le_of_ble_eq_true rfl) (L := [some (.ref a), some (.int (nI m)), none]) rfl ?_
  refine o_iload_n dJ7_copyOf_59c91_0 rfl ?_
  refine o_aload_n dJ7_copyOf_59c91_1 rfl ?_
  refine o_alen (v := nI 160) (Or.inl rfl) dJ7_copyOf_59c91_2 hc rfl ?_
  refine o_icmpne_t (tgt := 14) dJ7_copyOf_59c91_3 (by decide) (fun z => ?_) ?_
  · have := congrArg Int32.toNatClampNeg z
    rw [e1, nI_clamp (by decide)] at this
    omega
  refine o_iload_n dJ7_copyOf_59c91_14 rfl ?_
  refine n_newi (m := m) (N := h.length) (h' := h ++ [.inr (.inl (0, m, fun _ => 0))]) dJ7_copyOf_59c91_15 w_aint (nI_pos (by omega)) e1 (by omega) (Nat.le_of_ble_eq_true rfl) (by show 0 + m ≤ 160; omega) rfl hlt wf ⟨ha, trivial, trivial⟩ trivial rfl ?_
  refine o_astore_n (L' := [some (.ref a), some (.int (nI m)), some (.ref h.length)]) dJ7_copyOf_59c91_17 (Nat.le_of_ble_eq_true rfl) rfl rfl ?_
  refine o_aload_n dJ7_copyOf_59c91_18 rfl ?_
  refine o_iconst (v := 0) dJ7_copyOf_59c91_19 (by decide) ?_
  refine o_aload_n dJ7_copyOf_59c91_20 rfl ?_
  refine o_iconst (v := 0) dJ7_copyOf_59c91_21 (by decide) ?_
  refine o_aload_n dJ7_copyOf_59c91_22 rfl ?_
  refine o_alen (v := nI 160) (Or.inl rfl) dJ7_copyOf_59c91_23 hc2 rfl ?_
  refine o_iload_n dJ7_copyOf_59c91_24 rfl ?_
  refine o_min dJ7_copyOf_59c91_25 ml_J7_304 w_min_s w_math_i w_min_c (Nat.le_of_ble_eq_true rfl) (Nat.le_of_ble_eq_true rfl) ⟨(Nat.le_of_ble_eq_true rfl), (by show 0 + m ≤ 160; omega)⟩ ?_
  rw [if_pos (nI_lt hm (by decide))]
  refine o_copy (n0 := 160) (n1 := m) (f := f) (f1 := fun _ => 0) dJ7_copyOf_59c91_28 ml_J7_150 w_cpy_n w_cpy_s w_sys_i hc2 (by rw [List.getElem?_append_right (Nat.le_refl _), Nat.sub_self]; rfl) (by decide) (by decide) (nI_pos (by omega)) (by rw [e1]; show 0 + m ≤ 160; omega) (by rw [e1]; show 0 + m ≤ m; omega) (Nat.le_of_ble_eq_true rfl) (Nat.le_of_ble_eq_true rfl) (h' := h ++ [.inr (.inl (0, m, va_cpy f (fun _ => 0) 0 0 m))]) (by rw [e1, List.set_append_right _ _ (Nat.le_refl _), Nat.sub_self]; rfl) ?_
  refine o_aload_n dJ7_copyOf_59c91_31 rfl ?_
  exact o_aret rfl (Or.inr ⟨_, rfl⟩) dJ7_copyOf_59c91_32 rfl (Nat.le_of_ble_eq_true rfl) (by show 0 + m ≤ 160; omega)
/-- the state behind a good compile: a new TEXT -/
def px_mkT (T : Nat) (st : px_S) (x y : Int32) : px_S := upr (upr st (px_n T) (fun j => if j = 1 then x else if j = 2 then y else 0)) (px_n T + 1) (fun j => if j = 100000 then st 31 7 else st 35 j)
def f_X2_compile (T : Nat) (st : px_S) : Option (px_S ⊕ px_S) :=
  ((f_X2_split T st).bind fun b1 => ((f_X2_readPart T (-19) (up (up b1 31 5 0) 31 7 0)).bind fun b2 => (if b2.1 = 0 then some (.inl b2.2) else ((f_X2_readPart T (-20) b2.2).bind fun b3 => (if b3.1 = 0 then some (.inl b3.2) else ((f_X2_readPart T (-21) b3.2).bind fun b4 => (if b4.1 = 0 then some (.inl b4.2) else ((f_X2_current T b4.2).bind fun b5 => (if b5 = (-22) then (if (T ≠ 1 ∧ px_n T < 900 ∧ px_ok T b4.2) ∧ px_in (b4.2 31 7) 160 then some (.inr (px_mkT T b4.2 (b2.2 31 7) (b3.2 31 7))) else none) else some (.inl b4.2))))))))))
def px_gc (T : Nat) (b : px_S ⊕ px_S) : Option Value × List px_C := match b with
  | .inl s => (some .null, HP T s)
  | .inr s => (some (.ref (px_n T)), HP (T + 1) s)
set_option maxRecDepth 20000 in
theorem t_X2_compile (T : Nat) (st : px_S) : px_O (122, 2, 163, px_n T, m_X2_compile) (px_gc T) (f_X2_compile T st) 0 [some (.ref 31), none, none] [] (HP T st) 0 0 := by
  rw [f_X2_compile]
  refine o_aload_n dX2_compile_0 rfl ?_
  refine h_cVv (as := []) (S1 := []) (d' := 9) dX2_compile_1 mf_X2_split ml_X2_34 mv_X2_split q2 rfl (hp_at (px_lt (by decide)) (c31 _)) rfl (Nat.le_of_ble_eq_true rfl) rfl (Nat.le_of_ble_eq_true rfl) (fun b hb => k_X2_split hb) (fun b1 hb1 => ?_)
  refine o_aload_n dX2_compile_4 rfl ?_
  refine o_iconst (v := 0) dX2_compile_5 (by decide) ?_
  refine h_puti dX2_compile_6 q2 fl_X2_28 pf_X2_5 (px_lt (by decide)) (c31 _) (Nat.le_of_ble_eq_true rfl) (s31_5 _ _) ?_
  refine o_aload_n dX2_compile_9 rfl ?_
  refine o_iconst (v := 0) dX2_compile_10 (by decide) ?_
  refine h_puti dX2_compile_11 q2 fl_X2_37 pf_X2_7 (px_lt (by decide)) (c31 _) (Nat.le_of_ble_eq_true rfl) (s31_7 _ _) ?_
  refine o_aload_n dX2_compile_14 rfl ?_
  refine o_bipush (v := (-19)) dX2_compile_15 (by decide) ?_
  refine h_cVi (as := [.int (-19)]) (S1 := []) (d' := 121) dX2_compile_17 mf_X2_readPart ml_X2_40 mv_X2_readPart q2 rfl (hp_at (px_lt (by decide)) (c31 _)) rfl (Nat.le_of_ble_eq_true rfl) rfl (Nat.le_of_ble_eq_true rfl) (fun b hb => k_X2_readPart hb) (fun b2 hb2 => ?_)
  refine o_ifne (tgt := 25) dX2_compile_20 (by decide) (fun u2 => ?_) (fun u2 => ?_)
  rotate_left
  · refine o_null dX2_compile_23 ?_
    exact o_aretN rfl (Or.inl ⟨_, rfl⟩) dX2_compile_24 rfl (Nat.zero_le _) (Nat.zero_le _)
  refine o_aload_n dX2_compile_25 rfl ?_
  refine h_get (v := .int (b2.2 31 7)) dX2_compile_26 q2 fl_X2_37 (by decide) (px_lt (by decide)) (c31 _) rfl ?_
  refine o_istore_n (L' := [some (.ref 31), some (.int (b2.2 31 7)), none]) dX2_compile_29 (Nat.le_of_ble_eq_true rfl) rfl rfl ?_
  refine o_aload_n dX2_compile_30 rfl ?_
  refine o_bipush (v := (-20)) dX2_compile_31 (by decide) ?_
  refine h_cVi (as := [.int (-20)]) (S1 := []) (d' := 121) dX2_compile_33 mf_X2_readPart ml_X2_40 mv_X2_readPart q2 rfl (hp_at (px_lt (by decide)) (c31 _)) rfl (Nat.le_of_ble_eq_true rfl) rfl (Nat.le_of_ble_eq_true rfl) (fun b hb => k_X2_readPart hb) (fun b3 hb3 => ?_)
  refine o_ifne (tgt := 41) dX2_compile_36 (by decide) (fun u3 => ?_) (fun u3 => ?_)
  rotate_left
  · refine o_null dX2_compile_39 ?_
    exact o_aretN rfl (Or.inl ⟨_, rfl⟩) dX2_compile_40 rfl (Nat.zero_le _) (Nat.zero_le _)
  refine o_aload_n dX2_compile_41 rfl ?_
  refine h_get (v := .int (b3.2 31 7)) dX2_compile_42 q2 fl_X2_37 (by decide) (px_lt (by decide)) (c31 _) rfl ?_
  refine o_istore_n (L' := [some (.ref 31), some (.int (b2.2 31 7)), some (.int (b3.2 31 7))]) dX2_compile_45 (Nat.le_of_ble_eq_true rfl) rfl rfl ?_
  refine o_aload_n dX2_compile_46 rfl ?_
  refine o_bipush (v := (-21)) dX2_compile_47 (by decide) ?_
  refine h_cVi (as := [.int (-21)]) (S1 := []) (d' := 121) dX2_compile_49 mf_X2_readPart ml_X2_40 mv_X2_readPart q2 rfl (hp_at (px_lt (by decide)) (c31 _)) rfl (Nat.le_of_ble_eq_true rfl) rfl (Nat.le_of_ble_eq_true rfl) (fun b hb => k_X2_readPart hb) (fun b4 hb4 => ?_)
  refine o_ifeq (tgt := 64) dX2_compile_52 (by decide) (fun u4 => ?_) (fun u4 => ?_)
  · refine o_null dX2_compile_64 ?_
    exact o_aretN rfl (Or.inl ⟨_, rfl⟩) dX2_compile_65 rfl (Nat.zero_le _) (Nat.zero_le _)
  refine o_aload_n dX2_compile_55 rfl ?_
  refine h_cV0 (as := []) (S1 := []) (d' := 0) dX2_compile_56 mf_X2_current ml_X2_44 mv_X2_current q2 rfl (hp_at (px_lt (by decide)) (c31 _)) rfl (Nat.le_of_ble_eq_true rfl) rfl (Nat.le_of_ble_eq_true rfl) ⟨Nat.zero_le _, Nat.zero_le _⟩ (fun b hb => k_X2_current hb) (fun b5 hb5 => ?_)
  refine o_bipush (v := (-22)) dX2_compile_59 (by decide) ?_
  refine o_icmpeq (tgt := 66) dX2_compile_61 (by decide) (fun u5 => ?_) (fun u5 => ?_)
  rotate_left
  · refine o_null dX2_compile_64 ?_
    exact o_aretN rfl (Or.inl ⟨_, rfl⟩) dX2_compile_65 rfl (Nat.zero_le _) (Nat.zero_le _)
  refine o_ite (fun u6 => ?_) (fun _ => o_none)
  obtain ⟨⟨hT, hN, hok⟩, hlen⟩ := u6
  have wf := hp_wf hok
  have hl := hp_len T b4.2
  generalize hs : b4.2 = s at *
  obtain ⟨m, hm, em⟩ : ∃ m, m < 160 ∧ s 31 7 = nI m := by
    obtain ⟨m, h1, h2⟩ := nI_of (Int32.not_lt.mpr hlen.1)
    refine ⟨m, ?_, h2⟩
    have := hlen.2
    rwa [h2, nI_clamp h1] at this
  refine n_new (N := px_n T) (h' := HP T s ++ [.inl (4, px_b4)]) dX2_compile_66 nw4 cl_X2_48 (Nat.le_of_ble_eq_true rfl) (Nat.le_of_ble_eq_true rfl) hl (by omega) wf ⟨Nat.lt_of_lt_of_le (by decide) (px_n_ge T), trivial, trivial, trivial⟩ trivial rfl ?_
  refine o_dup dX2_compile_69 rfl ?_
  have wf2 : px_wf (HP T s ++ [.inl (4, px_b4)]) := by
    intro c hc
    rw [List.length_append]
    rcases List.mem_append.mp hc with z | z
    · exact px_rl_mono (Nat.le_add_right _ _) (wf c z)
    · rw [List.mem_singleton.mp z]; simp [px_rl, px_rvs, px_rv]
  have h31 : (HP T s ++ [.inl (4, px_b4)])[31]? = some (.inl (2, px_f31 (s 31))) := by
    rw [List.getElem?_append_left (by rw [hl]; exact px_lt (by decide))]
    exact hp_at (px_lt (by decide)) (c31 _)
  have h35 : (HP T s ++ [.inl (4, px_b4)])[35]? = some (px_ia 160 (s 35)) := by
    rw [List.getElem?_append_left (by rw [hl]; exact px_lt (by decide))]
    exact hp_at (px_lt (by decide)) (c35 _)
  refine o_aload_n dX2_compile_70 rfl ?_
  refine o_get (v := .ref 35) dX2_compile_71 q2 fl_X2_21 (by decide) h31 rfl ?_
  refine o_aload_n dX2_compile_74 rfl ?_
  refine o_get (v := .int (nI m)) dX2_compile_75 q2 fl_X2_37 (by decide) h31 (by rw [← em]; rfl) ?_
  have hK1 := k_copyOf (m := m) wf2 h35 hm (by rw [List.length_append, hl]; show px_n T + 1 < 1000; omega)
  have hl2 : (HP T s ++ ([.inl (4, px_b4)] : List px_C)).length = px_n T + 1 := by rw [List.length_append, hl]; rfl
  have hge := px_n_ge T
  refine o_callS (M' := m_J7_copyOf_59c91) (as := [.ref 35, .int (nI m)]) (S1 := [.ref (px_n T), .ref (px_n T)]) (mc' := 1) (ms' := 160) (d' := 1) dX2_compile_78 mf_J7_copyOf_59c91 ml_X2_50 ms_J7_copyOf_59c91 rfl hK1 (Nat.le_of_ble_eq_true rfl) rfl (Nat.le_of_ble_eq_true rfl) ⟨(Nat.le_of_ble_eq_true rfl), (Nat.le_of_ble_eq_true rfl)⟩ (px_oL (N := px_n T + 1) hl2 ⟨(show 31 < px_n T + 1 by omega), trivial, trivial, trivial⟩) (px_oS (N := px_n T + 1) hl2 ⟨Nat.lt_succ_self _, Nat.lt_succ_self _, trivial⟩) ?_
  rw [hl2]
  refine o_iload_n dX2_compile_81 rfl ?_
  refine o_iload_n dX2_compile_82 rfl ?_
  have wf3 : px_wf (HP T s ++ [.inl (4, px_b4)] ++ [.inr (.inl (0, m, va_cpy (px_nm 160 (s 35)) (fun _ => 0) 0 0 m))]) := by
    intro c hc
    rw [List.length_append]
    rcases List.mem_append.mp hc with z | z
    · exact px_rl_mono (Nat.le_add_right _ _) (wf2 c z)
    · rw [List.mem_singleton.mp z]; trivial
  have hK2 := k_X4_init (k := px_n T) (c := px_n T + 1) (x := b2.2 31 7) (y := b3.2 31 7) wf3 (by rw [List.getElem?_append_left (by rw [hl2]; omega), List.getElem?_append_right (by omega), hl, Nat.sub_self]; rfl) (by rw [List.length_append, hl2]; show px_n T + 1 + 1 + 10 < 1000; omega)
  have eF : px_hx (HP T s ++ [.inl (4, px_b4)] ++ [.inr (.inl (0, m, va_cpy (px_nm 160 (s 35)) (fun _ => 0) 0 0 m))]) (px_n T) (.inl (4, [.ref (px_n T + 1), .int (b2.2 31 7), .int (b3.2 31 7)])) [] = HP (T + 1) (px_mkT T s (b2.2 31 7) (b3.2 31 7)) := by
    rw [px_mkT, ← hp_grow s hT, px_hx, List.append_nil, List.append_assoc, List.set_append_right _ _ (by omega), hl, Nat.sub_self]
    show HP T s ++ [.inl (4, [.ref (px_n T + 1), .int (b2.2 31 7), .int (b3.2 31 7)]), .inr (.inl (0, m, va_cpy (px_nm 160 (s 35)) (fun _ => 0) 0 0 m))] = _
    have e2 : px_nm m (fun j => if j = 100000 then s 31 7 else s 35 j) = va_cpy (px_nm 160 (s 35)) (fun _ => 0) 0 0 m := by
      funext j
      by_cases hj : j < m
      · have z1 : ¬ j = 100000 := by omega
        have z2 : j < 160 := by omega
        simp [px_nm, va_cpy, hj, z1, z2]
      · simp [px_nm, va_cpy, hj]
    have e3 : ((fun j => if j = 100000 then s 31 7 else s 35 j : Nat → Int32) 100000).toNatClampNeg = m := by
      show (if (100000 : Nat) = 100000 then s 31 7 else s 35 100000).toNatClampNeg = m
      rw [if_pos rfl, em, nI_clamp (by omega)]
    have e4 : px_code (fun j => if j = 100000 then s 31 7 else s 35 j) = .inr (.inl (0, m, va_cpy (px_nm 160 (s 35)) (fun _ => 0) 0 0 m)) := by
      rw [px_code, px_ia, e3, e2]
    rw [e4]
    rfl
  rw [eF] at hK2
  refine o_callI (ci := 0) (fs := []) (M' := m_X4_init) (as := [.ref (px_n T + 1), .int (b2.2 31 7), .int (b3.2 31 7)]) (S1 := [.ref (px_n T)]) (rv := none) (mc' := 0) (ms' := 0) (d' := 1) dX2_compile_83 mf_X4_init ml_X2_56 mi_X4_init rfl rfl rfl hK2 (Nat.le_of_ble_eq_true rfl) rfl (Nat.le_of_ble_eq_true rfl) ⟨(Nat.le_of_ble_eq_true rfl), (Nat.le_of_ble_eq_true rfl)⟩ (px_oL (N := px_n T + 1 + 1) (by rw [List.length_append, hl2]; rfl) ⟨(show 31 < px_n T + 1 + 1 by omega), trivial, trivial, trivial⟩) (px_oS (N := px_n T + 1 + 1) (by rw [List.length_append, hl2]; rfl) ⟨(show px_n T < px_n T + 1 + 1 by omega), trivial⟩) ?_
  exact o_aret rfl (Or.inl ⟨_, rfl⟩) dX2_compile_86 rfl (Nat.le_of_ble_eq_true rfl) (Nat.le_of_ble_eq_true rfl)
theorem k_X2_compile {T : Nat} {st : px_S} {b : px_S ⊕ px_S} (hf : f_X2_compile T st = some b) : px_K 122 2 163 m_X2_compile [.ref 31] (HP T st) (px_gc T b).1 (px_gc T b).2 := px_KofH hf mf_X2_compile (Nat.le_of_ble_eq_true rfl) rfl (t_X2_compile T st)
