theorem m_j14 (y b : Int32) : p_X4_join (-14) y b = y * b := by simp [p_X4_join]
theorem m_j13 (y b : Int32) : p_X4_join (-13) y b = y - b := by simp [p_X4_join]
theorem m_j12 (y b : Int32) : p_X4_join (-12) y b = y + b := by simp [p_X4_join]
theorem m_j8 (y b : Int32) : p_X4_join (-8) y b = if y = 0 then 0 else (if b = 0 then 0 else 1) := by simp [p_X4_join]
theorem m_j7 (y b : Int32) : p_X4_join (-7) y b = if y = 0 then (if b = 0 then 0 else 1) else 1 := by simp [p_X4_join]
section
variable {T t : Nat} {B : Nat → Int32} {sz : Nat} {F : Nat → Int32}
theorem m_rd_atom5 : m_reads T t B sz F (f_X6_atom5 T) 5 5 := m_ratom (ON := g_full T) (OP := g_full T) (by decide) (m_opFull (-13) ⟨by decide, by decide⟩ (-15) 5) m_opParF
theorem m_rd_term5 : m_reads T t B sz F (f_X6_term5 T) 4 5 := by
  refine m_rloop (l := 4) (o := 5) (by decide) (by decide) (A := f_X6_atom5 T) (L := f_X6_term5_5 T) ?_ ?_ ?_ m_rd_atom5 (fun st => rfl)
  · intro n y st j h hj
    have hc : (m_tk (m_lx B sz 0)) j = -14 := by
      rcases m_levs (l := 4) (by decide) hj with ⟨h, _⟩ | ⟨_, h⟩ | ⟨_, h⟩ | ⟨_, h⟩ | ⟨_, h⟩ | ⟨_, h⟩ | ⟨_, h⟩
      · exact h
      all_goals omega
    rw [f_X6_term5_5, m_eq_bind (m_isS_42_y h hc), if_neg (by decide)]
    simp only [hc, m_j14]
  · intro n y st j h hj
    rw [f_X6_term5_5, m_eq_bind (m_isS_42_n h (fun e => hj (by rw [e]; decide))), if_pos rfl]
  · intro n y st h
    rw [f_X6_term5_5, m_eq_bind (m_bad_isS h 42), if_pos rfl]
theorem m_rd_added5 : m_reads T t B sz F (f_X6_added5 T) 3 5 := by
  refine m_rloop (l := 3) (o := 5) (by decide) (by decide) (A := f_X6_term5 T) (L := f_X6_added5_5 T) ?_ ?_ ?_ m_rd_term5 (fun st => rfl)
  · intro n y st j h hj
    have hc : (m_tk (m_lx B sz 0)) j = -13 ∨ (m_tk (m_lx B sz 0)) j = -12 := by
      rcases m_levs (l := 3) (by decide) hj with ⟨_, h⟩ | ⟨h, _⟩ | ⟨h, _⟩ | ⟨_, h⟩ | ⟨_, h⟩ | ⟨_, h⟩ | ⟨_, h⟩
      · omega
      · exact Or.inl h
      · exact Or.inr h
      all_goals omega
    rw [f_X6_added5_5]
    rcases hc with hc | hc
    · rw [m_eq_bind (m_isS_43_n h (by rw [hc]; decide)), if_pos rfl, m_eq_bind (m_isS_45_y h hc), if_neg (by decide), f_X6_added5_23, m_s27_45 h hc, if_neg (by decide), f_X6_added5_39]
      simp only [hc, m_j13, if_true]
    · rw [m_eq_bind (m_isS_43_y h hc), if_neg (by decide), f_X6_added5_23, m_s27_43 h hc, if_pos (by decide), f_X6_added5_39]
      simp only [hc, m_j12, show ¬ ((1 : Int32) = 0) by decide, if_false]
  · intro n y st j h hj
    rw [f_X6_added5_5, m_eq_bind (m_isS_43_n h (fun e => hj (by rw [e]; decide))), if_pos rfl, m_eq_bind (m_isS_45_n h (fun e => hj (by rw [e]; decide))), if_pos rfl]
  · intro n y st h
    rw [f_X6_added5_5, m_eq_bind (m_bad_isS h 43), if_pos rfl, m_eq_bind (m_bad_isS h 45), if_pos rfl]
theorem m_rd_not5 : m_reads T t B sz F (f_X6_not5 T) 2 5 := m_rnot (A := f_X6_added5 T) (O := g_full T) (by decide) m_rd_added5 (m_opFull (-9) ⟨by decide, by decide⟩ (-9) 2)
theorem m_rd_both5 : m_reads T t B sz F (f_X6_both5 T) 1 5 := by
  refine m_rloop (l := 1) (o := 5) (by decide) (by decide) (A := f_X6_not5 T) (L := f_X6_both5_5 T) ?_ ?_ ?_ m_rd_not5 (fun st => rfl)
  · intro n y st j h hj
    have hc : (m_tk (m_lx B sz 0)) j = -8 := by
      rcases m_levs (l := 1) (by decide) hj with ⟨_, h⟩ | ⟨_, h⟩ | ⟨_, h⟩ | ⟨_, h⟩ | ⟨_, h⟩ | ⟨h, _⟩ | ⟨_, h⟩
      · omega
      · omega
      · omega
      · omega
      · omega
      · exact h
      · omega
    rw [f_X6_both5_5, m_eq_bind (m_isW_8_y h hc), if_neg (by decide)]
    simp only [hc, m_j8]
    congr 1; funext b3; congr 1; funext b4
    by_cases h1 : y = 0
    · by_cases h2 : b4.1 = 0
      · simp only [if_pos h1, if_pos h2]
      · simp only [if_pos h1, if_neg h2]
    · by_cases h2 : b4.1 = 0
      · simp only [if_neg h1, if_pos h2]
      · simp only [if_neg h1, if_neg h2]
  · intro n y st j h hj
    rw [f_X6_both5_5, m_eq_bind (m_isW_8_n h (fun e => hj (by rw [e]; decide))), if_pos rfl]
  · intro n y st h
    rw [f_X6_both5_5, m_eq_bind (m_bad_isW h 97 110 100 0 0 0 0 0), if_pos rfl]
theorem m_rd_either5 : m_reads T t B sz F (f_X6_either5 T) 0 5 := by
  refine m_rloop (l := 0) (o := 5) (by decide) (by decide) (A := f_X6_both5 T) (L := f_X6_either5_5 T) ?_ ?_ ?_ m_rd_both5 (fun st => rfl)
  · intro n y st j h hj
    have hc : (m_tk (m_lx B sz 0)) j = -7 := by
      rcases m_levs (l := 0) (by decide) hj with ⟨_, h⟩ | ⟨_, h⟩ | ⟨_, h⟩ | ⟨_, h⟩ | ⟨_, h⟩ | ⟨_, h⟩ | ⟨h, _⟩
      · omega
      · omega
      · omega
      · omega
      · omega
      · omega
      · exact h
    rw [f_X6_either5_5, m_eq_bind (m_isW_7_y h hc), if_neg (by decide)]
    simp only [hc, m_j7]
    congr 1; funext b3; congr 1; funext b4
    by_cases h1 : y = 0
    · by_cases h2 : b4.1 = 0
      · simp only [if_pos h1, if_pos h2]
      · simp only [if_pos h1, if_neg h2]
    · by_cases h2 : b4.1 = 0
      · simp only [if_neg h1, if_pos h2]
      · simp only [if_neg h1, if_neg h2]
  · intro n y st j h hj
    rw [f_X6_either5_5, m_eq_bind (m_isW_7_n h (fun e => hj (by rw [e]; decide))), if_pos rfl]
  · intro n y st h
    rw [f_X6_either5_5, m_eq_bind (m_bad_isW h 111 114 0 0 0 0 0 0), if_pos rfl]
theorem m_rd_atom4 : m_reads T t B sz F (f_X6_atom4 T) 5 4 := m_ratom (ON := g_oneg T (f_X6_atom5 T)) (OP := g_opar T (f_X6_either5 T)) (by decide) (m_opNeg (by decide) m_rd_atom5) (m_opPar (by decide) m_rd_either5)
theorem m_rd_term4 : m_reads T t B sz F (f_X6_term4 T) 4 4 := by
  refine m_rloop (l := 4) (o := 4) (by decide) (by decide) (A := f_X6_atom4 T) (L := f_X6_term4_5 T) ?_ ?_ ?_ m_rd_atom4 (fun st => rfl)
  · intro n y st j h hj
    have hc : (m_tk (m_lx B sz 0)) j = -14 := by
      rcases m_levs (l := 4) (by decide) hj with ⟨h, _⟩ | ⟨_, h⟩ | ⟨_, h⟩ | ⟨_, h⟩ | ⟨_, h⟩ | ⟨_, h⟩ | ⟨_, h⟩
      · exact h
      all_goals omega
    rw [f_X6_term4_5, m_eq_bind (m_isS_42_y h hc), if_neg (by decide)]
    simp only [hc, m_j14]
  · intro n y st j h hj
    rw [f_X6_term4_5, m_eq_bind (m_isS_42_n h (fun e => hj (by rw [e]; decide))), if_pos rfl]
  · intro n y st h
    rw [f_X6_term4_5, m_eq_bind (m_bad_isS h 42), if_pos rfl]
theorem m_rd_added4 : m_reads T t B sz F (f_X6_added4 T) 3 4 := by
  refine m_rloop (l := 3) (o := 4) (by decide) (by decide) (A := f_X6_term4 T) (L := f_X6_added4_5 T) ?_ ?_ ?_ m_rd_term4 (fun st => rfl)
  · intro n y st j h hj
    have hc : (m_tk (m_lx B sz 0)) j = -13 ∨ (m_tk (m_lx B sz 0)) j = -12 := by
      rcases m_levs (l := 3) (by decide) hj with ⟨_, h⟩ | ⟨h, _⟩ | ⟨h, _⟩ | ⟨_, h⟩ | ⟨_, h⟩ | ⟨_, h⟩ | ⟨_, h⟩
      · omega
      · exact Or.inl h
      · exact Or.inr h
      all_goals omega
    rw [f_X6_added4_5]
    rcases hc with hc | hc
    · rw [m_eq_bind (m_isS_43_n h (by rw [hc]; decide)), if_pos rfl, m_eq_bind (m_isS_45_y h hc), if_neg (by decide), f_X6_added4_23, m_s27_45 h hc, if_neg (by decide), f_X6_added4_39]
      simp only [hc, m_j13, if_true]
    · rw [m_eq_bind (m_isS_43_y h hc), if_neg (by decide), f_X6_added4_23, m_s27_43 h hc, if_pos (by decide), f_X6_added4_39]
      simp only [hc, m_j12, show ¬ ((1 : Int32) = 0) by decide, if_false]
  · intro n y st j h hj
    rw [f_X6_added4_5, m_eq_bind (m_isS_43_n h (fun e => hj (by rw [e]; decide))), if_pos rfl, m_eq_bind (m_isS_45_n h (fun e => hj (by rw [e]; decide))), if_pos rfl]
  · intro n y st h
    rw [f_X6_added4_5, m_eq_bind (m_bad_isS h 43), if_pos rfl, m_eq_bind (m_bad_isS h 45), if_pos rfl]
theorem m_rd_not4 : m_reads T t B sz F (f_X6_not4 T) 2 4 := m_rnot (A := f_X6_added4 T) (O := g_onot T (f_X6_not5 T)) (by decide) m_rd_added4 (m_opNot (by decide) m_rd_not5)
theorem m_rd_both4 : m_reads T t B sz F (f_X6_both4 T) 1 4 := by
  refine m_rloop (l := 1) (o := 4) (by decide) (by decide) (A := f_X6_not4 T) (L := f_X6_both4_5 T) ?_ ?_ ?_ m_rd_not4 (fun st => rfl)
  · intro n y st j h hj
    have hc : (m_tk (m_lx B sz 0)) j = -8 := by
      rcases m_levs (l := 1) (by decide) hj with ⟨_, h⟩ | ⟨_, h⟩ | ⟨_, h⟩ | ⟨_, h⟩ | ⟨_, h⟩ | ⟨h, _⟩ | ⟨_, h⟩
      · omega
      · omega
      · omega
      · omega
      · omega
      · exact h
      · omega
    rw [f_X6_both4_5, m_eq_bind (m_isW_8_y h hc), if_neg (by decide)]
    simp only [hc, m_j8]
    congr 1; funext b3; congr 1; funext b4
    by_cases h1 : y = 0
    · by_cases h2 : b4.1 = 0
      · simp only [if_pos h1, if_pos h2]
      · simp only [if_pos h1, if_neg h2]
    · by_cases h2 : b4.1 = 0
      · simp only [if_neg h1, if_pos h2]
      · simp only [if_neg h1, if_neg h2]
  · intro n y st j h hj
    rw [f_X6_both4_5, m_eq_bind (m_isW_8_n h (fun e => hj (by rw [e]; decide))), if_pos rfl]
  · intro n y st h
    rw [f_X6_both4_5, m_eq_bind (m_bad_isW h 97 110 100 0 0 0 0 0), if_pos rfl]
theorem m_rd_either4 : m_reads T t B sz F (f_X6_either4 T) 0 4 := by
  refine m_rloop (l := 0) (o := 4) (by decide) (by decide) (A := f_X6_both4 T) (L := f_X6_either4_5 T) ?_ ?_ ?_ m_rd_both4 (fun st => rfl)
  · intro n y st j h hj
    have hc : (m_tk (m_lx B sz 0)) j = -7 := by
      rcases m_levs (l := 0) (by decide) hj with ⟨_, h⟩ | ⟨_, h⟩ | ⟨_, h⟩ | ⟨_, h⟩ | ⟨_, h⟩ | ⟨_, h⟩ | ⟨h, _⟩
      · omega
      · omega
      · omega
      · omega
      · omega
      · omega
      · exact h
    rw [f_X6_either4_5, m_eq_bind (m_isW_7_y h hc), if_neg (by decide)]
    simp only [hc, m_j7]
    congr 1; funext b3; congr 1; funext b4
    by_cases h1 : y = 0
    · by_cases h2 : b4.1 = 0
      · simp only [if_pos h1, if_pos h2]
      · simp only [if_pos h1, if_neg h2]
    · by_cases h2 : b4.1 = 0
      · simp only [if_neg h1, if_pos h2]
      · simp only [if_neg h1, if_neg h2]
  · intro n y st j h hj
    rw [f_X6_either4_5, m_eq_bind (m_isW_7_n h (fun e => hj (by rw [e]; decide))), if_pos rfl]
  · intro n y st h
    rw [f_X6_either4_5, m_eq_bind (m_bad_isW h 111 114 0 0 0 0 0 0), if_pos rfl]
theorem m_rd_atom3 : m_reads T t B sz F (f_X6_atom3 T) 5 3 := m_ratom (ON := g_oneg T (f_X6_atom4 T)) (OP := g_opar T (f_X6_either4 T)) (by decide) (m_opNeg (by decide) m_rd_atom4) (m_opPar (by decide) m_rd_either4)
theorem m_rd_term3 : m_reads T t B sz F (f_X6_term3 T) 4 3 := by
  refine m_rloop (l := 4) (o := 3) (by decide) (by decide) (A := f_X6_atom3 T) (L := f_X6_term3_5 T) ?_ ?_ ?_ m_rd_atom3 (fun st => rfl)
  · intro n y st j h hj
    have hc : (m_tk (m_lx B sz 0)) j = -14 := by
      rcases m_levs (l := 4) (by decide) hj with ⟨h, _⟩ | ⟨_, h⟩ | ⟨_, h⟩ | ⟨_, h⟩ | ⟨_, h⟩ | ⟨_, h⟩ | ⟨_, h⟩
      · exact h
      all_goals omega
    rw [f_X6_term3_5, m_eq_bind (m_isS_42_y h hc), if_neg (by decide)]
    simp only [hc, m_j14]
  · intro n y st j h hj
    rw [f_X6_term3_5, m_eq_bind (m_isS_42_n h (fun e => hj (by rw [e]; decide))), if_pos rfl]
  · intro n y st h
    rw [f_X6_term3_5, m_eq_bind (m_bad_isS h 42), if_pos rfl]
theorem m_rd_added3 : m_reads T t B sz F (f_X6_added3 T) 3 3 := by
  refine m_rloop (l := 3) (o := 3) (by decide) (by decide) (A := f_X6_term3 T) (L := f_X6_added3_5 T) ?_ ?_ ?_ m_rd_term3 (fun st => rfl)
  · intro n y st j h hj
    have hc : (m_tk (m_lx B sz 0)) j = -13 ∨ (m_tk (m_lx B sz 0)) j = -12 := by
      rcases m_levs (l := 3) (by decide) hj with ⟨_, h⟩ | ⟨h, _⟩ | ⟨h, _⟩ | ⟨_, h⟩ | ⟨_, h⟩ | ⟨_, h⟩ | ⟨_, h⟩
      · omega
      · exact Or.inl h
      · exact Or.inr h
      all_goals omega
    rw [f_X6_added3_5]
    rcases hc with hc | hc
    · rw [m_eq_bind (m_isS_43_n h (by rw [hc]; decide)), if_pos rfl, m_eq_bind (m_isS_45_y h hc), if_neg (by decide), f_X6_added3_23, m_s27_45 h hc, if_neg (by decide), f_X6_added3_39]
      simp only [hc, m_j13, if_true]
    · rw [m_eq_bind (m_isS_43_y h hc), if_neg (by decide), f_X6_added3_23, m_s27_43 h hc, if_pos (by decide), f_X6_added3_39]
      simp only [hc, m_j12, show ¬ ((1 : Int32) = 0) by decide, if_false]
  · intro n y st j h hj
    rw [f_X6_added3_5, m_eq_bind (m_isS_43_n h (fun e => hj (by rw [e]; decide))), if_pos rfl, m_eq_bind (m_isS_45_n h (fun e => hj (by rw [e]; decide))), if_pos rfl]
  · intro n y st h
    rw [f_X6_added3_5, m_eq_bind (m_bad_isS h 43), if_pos rfl, m_eq_bind (m_bad_isS h 45), if_pos rfl]
theorem m_rd_not3 : m_reads T t B sz F (f_X6_not3 T) 2 3 := m_rnot (A := f_X6_added3 T) (O := g_onot T (f_X6_not4 T)) (by decide) m_rd_added3 (m_opNot (by decide) m_rd_not4)
theorem m_rd_both3 : m_reads T t B sz F (f_X6_both3 T) 1 3 := by
  refine m_rloop (l := 1) (o := 3) (by decide) (by decide) (A := f_X6_not3 T) (L := f_X6_both3_5 T) ?_ ?_ ?_ m_rd_not3 (fun st => rfl)
  · intro n y st j h hj
    have hc : (m_tk (m_lx B sz 0)) j = -8 := by
      rcases m_levs (l := 1) (by decide) hj with ⟨_, h⟩ | ⟨_, h⟩ | ⟨_, h⟩ | ⟨_, h⟩ | ⟨_, h⟩ | ⟨h, _⟩ | ⟨_, h⟩
      · omega
      · omega
      · omega
      · omega
      · omega
      · exact h
      · omega
    rw [f_X6_both3_5, m_eq_bind (m_isW_8_y h hc), if_neg (by decide)]
    simp only [hc, m_j8]
    congr 1; funext b3; congr 1; funext b4
    by_cases h1 : y = 0
    · by_cases h2 : b4.1 = 0
      · simp only [if_pos h1, if_pos h2]
      · simp only [if_pos h1, if_neg h2]
    · by_cases h2 : b4.1 = 0
      · simp only [if_neg h1, if_pos h2]
      · simp only [if_neg h1, if_neg h2]
  · intro n y st j h hj
    rw [f_X6_both3_5, m_eq_bind (m_isW_8_n h (fun e => hj (by rw [e]; decide))), if_pos rfl]
  · intro n y st h
    rw [f_X6_both3_5, m_eq_bind (m_bad_isW h 97 110 100 0 0 0 0 0), if_pos rfl]
theorem m_rd_either3 : m_reads T t B sz F (f_X6_either3 T) 0 3 := by
  refine m_rloop (l := 0) (o := 3) (by decide) (by decide) (A := f_X6_both3 T) (L := f_X6_either3_5 T) ?_ ?_ ?_ m_rd_both3 (fun st => rfl)
  · intro n y st j h hj
    have hc : (m_tk (m_lx B sz 0)) j = -7 := by
      rcases m_levs (l := 0) (by decide) hj with ⟨_, h⟩ | ⟨_, h⟩ | ⟨_, h⟩ | ⟨_, h⟩ | ⟨_, h⟩ | ⟨_, h⟩ | ⟨h, _⟩
      · omega
      · omega
      · omega
      · omega
      · omega
      · omega
      · exact h
    rw [f_X6_either3_5, m_eq_bind (m_isW_7_y h hc), if_neg (by decide)]
    simp only [hc, m_j7]
    congr 1; funext b3; congr 1; funext b4
    by_cases h1 : y = 0
    · by_cases h2 : b4.1 = 0
      · simp only [if_pos h1, if_pos h2]
      · simp only [if_pos h1, if_neg h2]
    · by_cases h2 : b4.1 = 0
      · simp only [if_neg h1, if_pos h2]
      · simp only [if_neg h1, if_neg h2]
  · intro n y st j h hj
    rw [f_X6_either3_5, m_eq_bind (m_isW_7_n h (fun e => hj (by rw [e]; decide))), if_pos rfl]
  · intro n y st h
    rw [f_X6_either3_5, m_eq_bind (m_bad_isW h 111 114 0 0 0 0 0 0), if_pos rfl]
theorem m_rd_atom2 : m_reads T t B sz F (f_X6_atom2 T) 5 2 := m_ratom (ON := g_oneg T (f_X6_atom3 T)) (OP := g_opar T (f_X6_either3 T)) (by decide) (m_opNeg (by decide) m_rd_atom3) (m_opPar (by decide) m_rd_either3)
theorem m_rd_term2 : m_reads T t B sz F (f_X6_term2 T) 4 2 := by
  refine m_rloop (l := 4) (o := 2) (by decide) (by decide) (A := f_X6_atom2 T) (L := f_X6_term2_5 T) ?_ ?_ ?_ m_rd_atom2 (fun st => rfl)
  · intro n y st j h hj
    have hc : (m_tk (m_lx B sz 0)) j = -14 := by
      rcases m_levs (l := 4) (by decide) hj with ⟨h, _⟩ | ⟨_, h⟩ | ⟨_, h⟩ | ⟨_, h⟩ | ⟨_, h⟩ | ⟨_, h⟩ | ⟨_, h⟩
      · exact h
      all_goals omega
    rw [f_X6_term2_5, m_eq_bind (m_isS_42_y h hc), if_neg (by decide)]
    simp only [hc, m_j14]
  · intro n y st j h hj
    rw [f_X6_term2_5, m_eq_bind (m_isS_42_n h (fun e => hj (by rw [e]; decide))), if_pos rfl]
  · intro n y st h
    rw [f_X6_term2_5, m_eq_bind (m_bad_isS h 42), if_pos rfl]
theorem m_rd_added2 : m_reads T t B sz F (f_X6_added2 T) 3 2 := by
  refine m_rloop (l := 3) (o := 2) (by decide) (by decide) (A := f_X6_term2 T) (L := f_X6_added2_5 T) ?_ ?_ ?_ m_rd_term2 (fun st => rfl)
  · intro n y st j h hj
    have hc : (m_tk (m_lx B sz 0)) j = -13 ∨ (m_tk (m_lx B sz 0)) j = -12 := by
      rcases m_levs (l := 3) (by decide) hj with ⟨_, h⟩ | ⟨h, _⟩ | ⟨h, _⟩ | ⟨_, h⟩ | ⟨_, h⟩ | ⟨_, h⟩ | ⟨_, h⟩
      · omega
      · exact Or.inl h
      · exact Or.inr h
      all_goals omega
    rw [f_X6_added2_5]
    rcases hc with hc | hc
    · rw [m_eq_bind (m_isS_43_n h (by rw [hc]; decide)), if_pos rfl, m_eq_bind (m_isS_45_y h hc), if_neg (by decide), f_X6_added2_23, m_s27_45 h hc, if_neg (by decide), f_X6_added2_39]
      simp only [hc, m_j13, if_true]
    · rw [m_eq_bind (m_isS_43_y h hc), if_neg (by decide), f_X6_added2_23, m_s27_43 h hc, if_pos (by decide), f_X6_added2_39]
      simp only [hc, m_j12, show ¬ ((1 : Int32) = 0) by decide, if_false]
  · intro n y st j h hj
    rw [f_X6_added2_5, m_eq_bind (m_isS_43_n h (fun e => hj (by rw [e]; decide))), if_pos rfl, m_eq_bind (m_isS_45_n h (fun e => hj (by rw [e]; decide))), if_pos rfl]
  · intro n y st h
    rw [f_X6_added2_5, m_eq_bind (m_bad_isS h 43), if_pos rfl, m_eq_bind (m_bad_isS h 45), if_pos rfl]
theorem m_rd_not2 : m_reads T t B sz F (f_X6_not2 T) 2 2 := m_rnot (A := f_X6_added2 T) (O := g_onot T (f_X6_not3 T)) (by decide) m_rd_added2 (m_opNot (by decide) m_rd_not3)
theorem m_rd_both2 : m_reads T t B sz F (f_X6_both2 T) 1 2 := by
  refine m_rloop (l := 1) (o := 2) (by decide) (by decide) (A := f_X6_not2 T) (L := f_X6_both2_5 T) ?_ ?_ ?_ m_rd_not2 (fun st => rfl)
  · intro n y st j h hj
    have hc : (m_tk (m_lx B sz 0)) j = -8 := by
      rcases m_levs (l := 1) (by decide) hj with ⟨_, h⟩ | ⟨_, h⟩ | ⟨_, h⟩ | ⟨_, h⟩ | ⟨_, h⟩ | ⟨h, _⟩ | ⟨_, h⟩
      · omega
      · omega
      · omega
      · omega
      · omega
      · exact h
      · omega
    rw [f_X6_both2_5, m_eq_bind (m_isW_8_y h hc), if_neg (by decide)]
    simp only [hc, m_j8]
    congr 1; funext b3; congr 1; funext b4
    by_cases h1 : y = 0
    · by_cases h2 : b4.1 = 0
      · simp only [if_pos h1, if_pos h2]
      · simp only [if_pos h1, if_neg h2]
    · by_cases h2 : b4.1 = 0
      · simp only [if_neg h1, if_pos h2]
      · simp only [if_neg h1, if_neg h2]
  · intro n y st j h hj
    rw [f_X6_both2_5, m_eq_bind (m_isW_8_n h (fun e => hj (by rw [e]; decide))), if_pos rfl]
  · intro n y st h
    rw [f_X6_both2_5, m_eq_bind (m_bad_isW h 97 110 100 0 0 0 0 0), if_pos rfl]
theorem m_rd_either2 : m_reads T t B sz F (f_X6_either2 T) 0 2 := by
  refine m_rloop (l := 0) (o := 2) (by decide) (by decide) (A := f_X6_both2 T) (L := f_X6_either2_5 T) ?_ ?_ ?_ m_rd_both2 (fun st => rfl)
  · intro n y st j h hj
    have hc : (m_tk (m_lx B sz 0)) j = -7 := by
      rcases m_levs (l := 0) (by decide) hj with ⟨_, h⟩ | ⟨_, h⟩ | ⟨_, h⟩ | ⟨_, h⟩ | ⟨_, h⟩ | ⟨_, h⟩ | ⟨h, _⟩
      · omega
      · omega
      · omega
      · omega
      · omega
      · omega
      · exact h
    rw [f_X6_either2_5, m_eq_bind (m_isW_7_y h hc), if_neg (by decide)]
    simp only [hc, m_j7]
    congr 1; funext b3; congr 1; funext b4
    by_cases h1 : y = 0
    · by_cases h2 : b4.1 = 0
      · simp only [if_pos h1, if_pos h2]
      · simp only [if_pos h1, if_neg h2]
    · by_cases h2 : b4.1 = 0
      · simp only [if_neg h1, if_pos h2]
      · simp only [if_neg h1, if_neg h2]
  · intro n y st j h hj
    rw [f_X6_either2_5, m_eq_bind (m_isW_7_n h (fun e => hj (by rw [e]; decide))), if_pos rfl]
  · intro n y st h
    rw [f_X6_either2_5, m_eq_bind (m_bad_isW h 111 114 0 0 0 0 0 0), if_pos rfl]
theorem m_rd_atom1 : m_reads T t B sz F (f_X6_atom1 T) 5 1 := m_ratom (ON := g_oneg T (f_X6_atom2 T)) (OP := g_opar T (f_X6_either2 T)) (by decide) (m_opNeg (by decide) m_rd_atom2) (m_opPar (by decide) m_rd_either2)
theorem m_rd_term1 : m_reads T t B sz F (f_X6_term1 T) 4 1 := by
  refine m_rloop (l := 4) (o := 1) (by decide) (by decide) (A := f_X6_atom1 T) (L := f_X6_term1_5 T) ?_ ?_ ?_ m_rd_atom1 (fun st => rfl)
  · intro n y st j h hj
    have hc : (m_tk (m_lx B sz 0)) j = -14 := by
      rcases m_levs (l := 4) (by decide) hj with ⟨h, _⟩ | ⟨_, h⟩ | ⟨_, h⟩ | ⟨_, h⟩ | ⟨_, h⟩ | ⟨_, h⟩ | ⟨_, h⟩
      · exact h
      all_goals omega
    rw [f_X6_term1_5, m_eq_bind (m_isS_42_y h hc), if_neg (by decide)]
    simp only [hc, m_j14]
  · intro n y st j h hj
    rw [f_X6_term1_5, m_eq_bind (m_isS_42_n h (fun e => hj (by rw [e]; decide))), if_pos rfl]
  · intro n y st h
    rw [f_X6_term1_5, m_eq_bind (m_bad_isS h 42), if_pos rfl]
theorem m_rd_added1 : m_reads T t B sz F (f_X6_added1 T) 3 1 := by
  refine m_rloop (l := 3) (o := 1) (by decide) (by decide) (A := f_X6_term1 T) (L := f_X6_added1_5 T) ?_ ?_ ?_ m_rd_term1 (fun st => rfl)
  · intro n y st j h hj
    have hc : (m_tk (m_lx B sz 0)) j = -13 ∨ (m_tk (m_lx B sz 0)) j = -12 := by
      rcases m_levs (l := 3) (by decide) hj with ⟨_, h⟩ | ⟨h, _⟩ | ⟨h, _⟩ | ⟨_, h⟩ | ⟨_, h⟩ | ⟨_, h⟩ | ⟨_, h⟩
      · omega
      · exact Or.inl h
      · exact Or.inr h
      all_goals omega
    rw [f_X6_added1_5]
    rcases hc with hc | hc
    · rw [m_eq_bind (m_isS_43_n h (by rw [hc]; decide)), if_pos rfl, m_eq_bind (m_isS_45_y h hc), if_neg (by decide), f_X6_added1_23, m_s27_45 h hc, if_neg (by decide), f_X6_added1_39]
      simp only [hc, m_j13, if_true]
    · rw [m_eq_bind (m_isS_43_y h hc), if_neg (by decide), f_X6_added1_23, m_s27_43 h hc, if_pos (by decide), f_X6_added1_39]
      simp only [hc, m_j12, show ¬ ((1 : Int32) = 0) by decide, if_false]
  · intro n y st j h hj
    rw [f_X6_added1_5, m_eq_bind (m_isS_43_n h (fun e => hj (by rw [e]; decide))), if_pos rfl, m_eq_bind (m_isS_45_n h (fun e => hj (by rw [e]; decide))), if_pos rfl]
  · intro n y st h
    rw [f_X6_added1_5, m_eq_bind (m_bad_isS h 43), if_pos rfl, m_eq_bind (m_bad_isS h 45), if_pos rfl]
theorem m_rd_not1 : m_reads T t B sz F (f_X6_not1 T) 2 1 := m_rnot (A := f_X6_added1 T) (O := g_onot T (f_X6_not2 T)) (by decide) m_rd_added1 (m_opNot (by decide) m_rd_not2)
theorem m_rd_both1 : m_reads T t B sz F (f_X6_both1 T) 1 1 := by
  refine m_rloop (l := 1) (o := 1) (by decide) (by decide) (A := f_X6_not1 T) (L := f_X6_both1_5 T) ?_ ?_ ?_ m_rd_not1 (fun st => rfl)
  · intro n y st j h hj
    have hc : (m_tk (m_lx B sz 0)) j = -8 := by
      rcases m_levs (l := 1) (by decide) hj with ⟨_, h⟩ | ⟨_, h⟩ | ⟨_, h⟩ | ⟨_, h⟩ | ⟨_, h⟩ | ⟨h, _⟩ | ⟨_, h⟩
      · omega
      · omega
      · omega
      · omega
      · omega
      · exact h
      · omega
    rw [f_X6_both1_5, m_eq_bind (m_isW_8_y h hc), if_neg (by decide)]
    simp only [hc, m_j8]
    congr 1; funext b3; congr 1; funext b4
    by_cases h1 : y = 0
    · by_cases h2 : b4.1 = 0
      · simp only [if_pos h1, if_pos h2]
      · simp only [if_pos h1, if_neg h2]
    · by_cases h2 : b4.1 = 0
      · simp only [if_neg h1, if_pos h2]
      · simp only [if_neg h1, if_neg h2]
  · intro n y st j h hj
    rw [f_X6_both1_5, m_eq_bind (m_isW_8_n h (fun e => hj (by rw [e]; decide))), if_pos rfl]
  · intro n y st h
    rw [f_X6_both1_5, m_eq_bind (m_bad_isW h 97 110 100 0 0 0 0 0), if_pos rfl]
theorem m_rd_either1 : m_reads T t B sz F (f_X6_either1 T) 0 1 := by
  refine m_rloop (l := 0) (o := 1) (by decide) (by decide) (A := f_X6_both1 T) (L := f_X6_either1_5 T) ?_ ?_ ?_ m_rd_both1 (fun st => rfl)
  · intro n y st j h hj
    have hc : (m_tk (m_lx B sz 0)) j = -7 := by
      rcases m_levs (l := 0) (by decide) hj with ⟨_, h⟩ | ⟨_, h⟩ | ⟨_, h⟩ | ⟨_, h⟩ | ⟨_, h⟩ | ⟨_, h⟩ | ⟨h, _⟩
      · omega
      · omega
      · omega
      · omega
      · omega
      · omega
      · exact h
    rw [f_X6_either1_5, m_eq_bind (m_isW_7_y h hc), if_neg (by decide)]
    simp only [hc, m_j7]
    congr 1; funext b3; congr 1; funext b4
    by_cases h1 : y = 0
    · by_cases h2 : b4.1 = 0
      · simp only [if_pos h1, if_pos h2]
      · simp only [if_pos h1, if_neg h2]
    · by_cases h2 : b4.1 = 0
      · simp only [if_neg h1, if_pos h2]
      · simp only [if_neg h1, if_neg h2]
  · intro n y st j h hj
    rw [f_X6_either1_5, m_eq_bind (m_isW_7_n h (fun e => hj (by rw [e]; decide))), if_pos rfl]
  · intro n y st h
    rw [f_X6_either1_5, m_eq_bind (m_bad_isW h 111 114 0 0 0 0 0 0), if_pos rfl]
theorem m_rd_atom0 : m_reads T t B sz F (f_X6_atom0 T) 5 0 := m_ratom (ON := g_oneg T (f_X6_atom1 T)) (OP := g_opar T (f_X6_either1 T)) (by decide) (m_opNeg (by decide) m_rd_atom1) (m_opPar (by decide) m_rd_either1)
theorem m_rd_term0 : m_reads T t B sz F (f_X6_term0 T) 4 0 := by
  refine m_rloop (l := 4) (o := 0) (by decide) (by decide) (A := f_X6_atom0 T) (L := f_X6_term0_5 T) ?_ ?_ ?_ m_rd_atom0 (fun st => rfl)
  · intro n y st j h hj
    have hc : (m_tk (m_lx B sz 0)) j = -14 := by
      rcases m_levs (l := 4) (by decide) hj with ⟨h, _⟩ | ⟨_, h⟩ | ⟨_, h⟩ | ⟨_, h⟩ | ⟨_, h⟩ | ⟨_, h⟩ | ⟨_, h⟩
      · exact h
      all_goals omega
    rw [f_X6_term0_5, m_eq_bind (m_isS_42_y h hc), if_neg (by decide)]
    simp only [hc, m_j14]
  · intro n y st j h hj
    rw [f_X6_term0_5, m_eq_bind (m_isS_42_n h (fun e => hj (by rw [e]; decide))), if_pos rfl]
  · intro n y st h
    rw [f_X6_term0_5, m_eq_bind (m_bad_isS h 42), if_pos rfl]
theorem m_rd_added0 : m_reads T t B sz F (f_X6_added0 T) 3 0 := by
  refine m_rloop (l := 3) (o := 0) (by decide) (by decide) (A := f_X6_term0 T) (L := f_X6_added0_5 T) ?_ ?_ ?_ m_rd_term0 (fun st => rfl)
  · intro n y st j h hj
    have hc : (m_tk (m_lx B sz 0)) j = -13 ∨ (m_tk (m_lx B sz 0)) j = -12 := by
      rcases m_levs (l := 3) (by decide) hj with ⟨_, h⟩ | ⟨h, _⟩ | ⟨h, _⟩ | ⟨_, h⟩ | ⟨_, h⟩ | ⟨_, h⟩ | ⟨_, h⟩
      · omega
      · exact Or.inl h
      · exact Or.inr h
      all_goals omega
    rw [f_X6_added0_5]
    rcases hc with hc | hc
    · rw [m_eq_bind (m_isS_43_n h (by rw [hc]; decide)), if_pos rfl, m_eq_bind (m_isS_45_y h hc), if_neg (by decide), f_X6_added0_23, m_s27_45 h hc, if_neg (by decide), f_X6_added0_39]
      simp only [hc, m_j13, if_true]
    · rw [m_eq_bind (m_isS_43_y h hc), if_neg (by decide), f_X6_added0_23, m_s27_43 h hc, if_pos (by decide), f_X6_added0_39]
      simp only [hc, m_j12, show ¬ ((1 : Int32) = 0) by decide, if_false]
  · intro n y st j h hj
    rw [f_X6_added0_5, m_eq_bind (m_isS_43_n h (fun e => hj (by rw [e]; decide))), if_pos rfl, m_eq_bind (m_isS_45_n h (fun e => hj (by rw [e]; decide))), if_pos rfl]
  · intro n y st h
    rw [f_X6_added0_5, m_eq_bind (m_bad_isS h 43), if_pos rfl, m_eq_bind (m_bad_isS h 45), if_pos rfl]
theorem m_rd_not0 : m_reads T t B sz F (f_X6_not0 T) 2 0 := m_rnot (A := f_X6_added0 T) (O := g_onot T (f_X6_not1 T)) (by decide) m_rd_added0 (m_opNot (by decide) m_rd_not1)
theorem m_rd_both0 : m_reads T t B sz F (f_X6_both0 T) 1 0 := by
  refine m_rloop (l := 1) (o := 0) (by decide) (by decide) (A := f_X6_not0 T) (L := f_X6_both0_5 T) ?_ ?_ ?_ m_rd_not0 (fun st => rfl)
  · intro n y st j h hj
    have hc : (m_tk (m_lx B sz 0)) j = -8 := by
      rcases m_levs (l := 1) (by decide) hj with ⟨_, h⟩ | ⟨_, h⟩ | ⟨_, h⟩ | ⟨_, h⟩ | ⟨_, h⟩ | ⟨h, _⟩ | ⟨_, h⟩
      · omega
      · omega
      · omega
      · omega
      · omega
      · exact h
      · omega
    rw [f_X6_both0_5, m_eq_bind (m_isW_8_y h hc), if_neg (by decide)]
    simp only [hc, m_j8]
    congr 1; funext b3; congr 1; funext b4
    by_cases h1 : y = 0
    · by_cases h2 : b4.1 = 0
      · simp only [if_pos h1, if_pos h2]
      · simp only [if_pos h1, if_neg h2]
    · by_cases h2 : b4.1 = 0
      · simp only [if_neg h1, if_pos h2]
      · simp only [if_neg h1, if_neg h2]
  · intro n y st j h hj
    rw [f_X6_both0_5, m_eq_bind (m_isW_8_n h (fun e => hj (by rw [e]; decide))), if_pos rfl]
  · intro n y st h
    rw [f_X6_both0_5, m_eq_bind (m_bad_isW h 97 110 100 0 0 0 0 0), if_pos rfl]
theorem m_rd_either0 : m_reads T t B sz F (f_X6_either0 T) 0 0 := by
  refine m_rloop (l := 0) (o := 0) (by decide) (by decide) (A := f_X6_both0 T) (L := f_X6_either0_5 T) ?_ ?_ ?_ m_rd_both0 (fun st => rfl)
  · intro n y st j h hj
    have hc : (m_tk (m_lx B sz 0)) j = -7 := by
      rcases m_levs (l := 0) (by decide) hj with ⟨_, h⟩ | ⟨_, h⟩ | ⟨_, h⟩ | ⟨_, h⟩ | ⟨_, h⟩ | ⟨_, h⟩ | ⟨h, _⟩
      · omega
      · omega
      · omega
      · omega
      · omega
      · omega
      · exact h
    rw [f_X6_either0_5, m_eq_bind (m_isW_7_y h hc), if_neg (by decide)]
    simp only [hc, m_j7]
    congr 1; funext b3; congr 1; funext b4
    by_cases h1 : y = 0
    · by_cases h2 : b4.1 = 0
      · simp only [if_pos h1, if_pos h2]
      · simp only [if_pos h1, if_neg h2]
    · by_cases h2 : b4.1 = 0
      · simp only [if_neg h1, if_pos h2]
      · simp only [if_neg h1, if_neg h2]
  · intro n y st j h hj
    rw [f_X6_either0_5, m_eq_bind (m_isW_7_n h (fun e => hj (by rw [e]; decide))), if_pos rfl]
  · intro n y st h
    rw [f_X6_either0_5, m_eq_bind (m_bad_isW h 111 114 0 0 0 0 0 0), if_pos rfl]
end
