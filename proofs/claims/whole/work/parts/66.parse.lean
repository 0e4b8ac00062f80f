/-- what a reading gives: whether it went through, the code, the token at which it stands -/
abbrev m_R : Type := Bool × List Int32 × Nat
def m_loop (tok : Nat → Int32) (rd : Nat → m_R) (lev : Int32) : Nat → Nat → m_R
  | 0, i => (true, [], i)
  | k + 1, i => if p_X2_levelOf (tok i) = lev then
      (if (rd (i + 1)).1 then ((m_loop tok rd lev k (rd (i + 1)).2.2).1, (rd (i + 1)).2.1 ++ ([tok i] ++ (m_loop tok rd lev k (rd (i + 1)).2.2).2.1), (m_loop tok rd lev k (rd (i + 1)).2.2).2.2) else rd (i + 1))
    else (true, [], i)
def m_open (rd : Nat → Nat → Nat → m_R) (step : Int32) (l o i : Nat) : m_R :=
  if o < 5 then (if (rd l (o + 1) (i + 1)).1 then (true, (rd l (o + 1) (i + 1)).2.1 ++ (if step = -16 then [] else [step]), (rd l (o + 1) (i + 1)).2.2) else rd l (o + 1) (i + 1)) else (false, [], i)
def m_one (tok : Nat → Int32) (rd : Nat → Nat → Nat → m_R) (o i : Nat) : m_R :=
  if tok i < -6 then
    (if tok i = -13 then m_open rd (-15) 5 o i
    else if tok i = -16 then (if (m_open rd (-16) 0 o i).1 then (if tok (m_open rd (-16) 0 o i).2.2 = -17 then (true, (m_open rd (-16) 0 o i).2.1, (m_open rd (-16) 0 o i).2.2 + 1) else (false, (m_open rd (-16) 0 o i).2.1, (m_open rd (-16) 0 o i).2.2)) else m_open rd (-16) 0 o i)
    else (false, [], i))
  else (true, [tok i], i + 1)
def m_lvl (tok : Nat → Int32) : Nat → Nat → Nat → Nat → m_R
  | 0, _, _, i => (false, [], i)
  | d + 1, l, o, i =>
    if l < 5 then
      (if l = 2 ∧ tok i = -9 then m_open (m_lvl tok d) (-9) l o i
      else (if (m_lvl tok d (l + 1) o i).1 then ((m_loop tok (m_lvl tok d (l + 1) o) (nI l) (if l = 2 then 1 else 160) (m_lvl tok d (l + 1) o i).2.2).1, (m_lvl tok d (l + 1) o i).2.1 ++ (m_loop tok (m_lvl tok d (l + 1) o) (nI l) (if l = 2 then 1 else 160) (m_lvl tok d (l + 1) o i).2.2).2.1, (m_loop tok (m_lvl tok d (l + 1) o) (nI l) (if l = 2 then 1 else 160) (m_lvl tok d (l + 1) o i).2.2).2.2) else m_lvl tok d (l + 1) o i))
    else m_one tok (m_lvl tok d) o i
/-- it goes on, not beyond the end, and writes no more than it reads -/
def m_good (cnt i : Nat) (r : m_R) : Prop := r.2.1.length + i ≤ r.2.2 ∧ r.2.2 ≤ cnt
section
variable {tok : Nat → Int32} {cnt : Nat} (hend : ∀ i, cnt ≤ i → tok i = -22)
theorem m_tok_lt (hend : ∀ i, cnt ≤ i → tok i = -22) {i : Nat} {c : Int32} (h : tok i = c) (hc : c ≠ -22) : i < cnt := by
  rcases Nat.lt_or_ge i cnt with hl | hl
  · exact hl
  · exact absurd (h.symm.trans (hend i hl)) hc
theorem m_lev_lt (hend : ∀ i, cnt ≤ i → tok i = -22) {i l : Nat} (hl : l < 5) (h : p_X2_levelOf (tok i) = nI l) : i < cnt := by
  rcases Nat.lt_or_ge i cnt with hl | hl2
  · exact hl
  · rw [hend i hl2] at h
    rcases (show l = 0 ∨ l = 1 ∨ l = 2 ∨ l = 3 ∨ l = 4 by omega) with rfl | rfl | rfl | rfl | rfl <;> exact absurd h (by decide)
theorem m_loop_good (hend : ∀ i, cnt ≤ i → tok i = -22) {rd : Nat → m_R} {l : Nat} (hl : l < 5) (hr : ∀ i, i ≤ cnt → m_good cnt i (rd i)) : ∀ k i, i ≤ cnt → m_good cnt i (m_loop tok rd (nI l) k i) := by
  intro k
  induction k with
  | zero => intro i hi; exact ⟨by simp [m_loop], hi⟩
  | succ k ih =>
    intro i hi
    rw [m_loop]
    by_cases h : p_X2_levelOf (tok i) = nI l
    · rw [if_pos h]
      have hi2 := m_lev_lt hend hl h
      have h1 := hr (i + 1) hi2
      unfold m_good at *
      by_cases hk : (rd (i + 1)).1
      · rw [if_pos hk]
        have h2 := ih (rd (i + 1)).2.2 h1.2
        simp only [List.length_append, List.length_cons, List.length_nil]
        omega
      · rw [if_neg hk]; omega
    · rw [if_neg h]; exact ⟨by simp, hi⟩
theorem m_open_good {rd : Nat → Nat → Nat → m_R} (hr : ∀ l o i, i ≤ cnt → m_good cnt i (rd l o i)) (step : Int32) (l o i : Nat) (hi : i < cnt) : m_good cnt i (m_open rd step l o i) := by
  have h1 := hr l (o + 1) (i + 1) hi
  unfold m_open
  unfold m_good at *
  by_cases ho : o < 5
  · rw [if_pos ho]
    by_cases hk : (rd l (o + 1) (i + 1)).1
    · rw [if_pos hk]
      by_cases hs : step = -16 <;> simp [hs] <;> omega
    · rw [if_neg hk]; omega
  · rw [if_neg ho]; simp; omega
theorem m_one_good (hend : ∀ i, cnt ≤ i → tok i = -22) {rd : Nat → Nat → Nat → m_R} (hr : ∀ l o i, i ≤ cnt → m_good cnt i (rd l o i)) (o i : Nat) (hi : i ≤ cnt) : m_good cnt i (m_one tok rd o i) := by
  unfold m_one
  by_cases h6 : tok i < -6
  · rw [if_pos h6]
    by_cases h13 : tok i = -13
    · rw [if_pos h13]; exact m_open_good hr _ _ _ _ (m_tok_lt hend h13 (by decide))
    · rw [if_neg h13]
      by_cases h16 : tok i = -16
      · rw [if_pos h16]
        have h1 := m_open_good hr (-16) 0 o i (m_tok_lt hend h16 (by decide))
        by_cases hk : (m_open rd (-16) 0 o i).1
        · rw [if_pos hk]
          by_cases h17 : tok (m_open rd (-16) 0 o i).2.2 = -17
          · rw [if_pos h17]
            have := m_tok_lt hend h17 (by decide)
            unfold m_good at *
            simp only
            omega
          · rw [if_neg h17]; exact h1
        · rw [if_neg hk]; exact h1
      · rw [if_neg h16]; exact ⟨by simp, hi⟩
  · rw [if_neg h6]
    refine ⟨by simp; omega, ?_⟩
    rcases Nat.lt_or_ge i cnt with hl | hl
    · exact hl
    · rw [hend i hl] at h6; exact absurd (by decide) h6
theorem m_lvl_good (hend : ∀ i, cnt ≤ i → tok i = -22) : ∀ d l o i, i ≤ cnt → m_good cnt i (m_lvl tok d l o i) := by
  intro d
  induction d with
  | zero => intro l o i hi; exact ⟨by simp [m_lvl], hi⟩
  | succ d ih =>
    intro l o i hi
    rw [m_lvl]
    by_cases hl : l < 5
    · rw [if_pos hl]
      by_cases h9 : l = 2 ∧ tok i = -9
      · rw [if_pos h9]; exact m_open_good ih _ _ _ _ (m_tok_lt hend h9.2 (by decide))
      · rw [if_neg h9]
        have h1 := ih (l + 1) o i hi
        by_cases hk : (m_lvl tok d (l + 1) o i).1
        · rw [if_pos hk]
          have h2 := m_loop_good hend hl (ih (l + 1) o) (if l = 2 then 1 else 160) (m_lvl tok d (l + 1) o i).2.2 h1.2
          unfold m_good at *
          simp only [List.length_append]
          omega
        · rw [if_neg hk]; exact h1
    · rw [if_neg hl]; exact m_one_good hend ih o i hi
end
