theorem m_wch_1_0 : m_wch 1 0 = 108 := by decide +kernel
theorem m_wch_1_1 : m_wch 1 1 = 105 := by decide +kernel
theorem m_wch_1_2 : m_wch 1 2 = 107 := by decide +kernel
theorem m_wch_1_3 : m_wch 1 3 = 101 := by decide +kernel
theorem m_wch_1_4 : m_wch 1 4 = 0 := by decide +kernel
theorem m_wch_1_5 : m_wch 1 5 = 0 := by decide +kernel
theorem m_wch_1_6 : m_wch 1 6 = 0 := by decide +kernel
theorem m_wch_1_7 : m_wch 1 7 = 0 := by decide +kernel
theorem m_wch_2_0 : m_wch 2 0 = 109 := by decide +kernel
theorem m_wch_2_1 : m_wch 2 1 = 97 := by decide +kernel
theorem m_wch_2_2 : m_wch 2 2 = 110 := by decide +kernel
theorem m_wch_2_3 : m_wch 2 3 = 121 := by decide +kernel
theorem m_wch_2_4 : m_wch 2 4 = 0 := by decide +kernel
theorem m_wch_2_5 : m_wch 2 5 = 0 := by decide +kernel
theorem m_wch_2_6 : m_wch 2 6 = 0 := by decide +kernel
theorem m_wch_2_7 : m_wch 2 7 = 0 := by decide +kernel
theorem m_wch_3_0 : m_wch 3 0 = 115 := by decide +kernel
theorem m_wch_3_1 : m_wch 3 1 = 104 := by decide +kernel
theorem m_wch_3_2 : m_wch 3 2 = 97 := by decide +kernel
theorem m_wch_3_3 : m_wch 3 3 = 114 := by decide +kernel
theorem m_wch_3_4 : m_wch 3 4 = 101 := by decide +kernel
theorem m_wch_3_5 : m_wch 3 5 = 0 := by decide +kernel
theorem m_wch_3_6 : m_wch 3 6 = 0 := by decide +kernel
theorem m_wch_3_7 : m_wch 3 7 = 0 := by decide +kernel
theorem m_wch_4_0 : m_wch 4 0 = 100 := by decide +kernel
theorem m_wch_4_1 : m_wch 4 1 = 97 := by decide +kernel
theorem m_wch_4_2 : m_wch 4 2 = 121 := by decide +kernel
theorem m_wch_4_3 : m_wch 4 3 = 115 := by decide +kernel
theorem m_wch_4_4 : m_wch 4 4 = 0 := by decide +kernel
theorem m_wch_4_5 : m_wch 4 5 = 0 := by decide +kernel
theorem m_wch_4_6 : m_wch 4 6 = 0 := by decide +kernel
theorem m_wch_4_7 : m_wch 4 7 = 0 := by decide +kernel
theorem m_wch_5_0 : m_wch 5 0 = 111 := by decide +kernel
theorem m_wch_5_1 : m_wch 5 1 = 110 := by decide +kernel
theorem m_wch_5_2 : m_wch 5 2 = 101 := by decide +kernel
theorem m_wch_5_3 : m_wch 5 3 = 0 := by decide +kernel
theorem m_wch_5_4 : m_wch 5 4 = 0 := by decide +kernel
theorem m_wch_5_5 : m_wch 5 5 = 0 := by decide +kernel
theorem m_wch_5_6 : m_wch 5 6 = 0 := by decide +kernel
theorem m_wch_5_7 : m_wch 5 7 = 0 := by decide +kernel
theorem m_wch_6_0 : m_wch 6 0 = 111 := by decide +kernel
theorem m_wch_6_1 : m_wch 6 1 = 116 := by decide +kernel
theorem m_wch_6_2 : m_wch 6 2 = 104 := by decide +kernel
theorem m_wch_6_3 : m_wch 6 3 = 101 := by decide +kernel
theorem m_wch_6_4 : m_wch 6 4 = 114 := by decide +kernel
theorem m_wch_6_5 : m_wch 6 5 = 0 := by decide +kernel
theorem m_wch_6_6 : m_wch 6 6 = 0 := by decide +kernel
theorem m_wch_6_7 : m_wch 6 7 = 0 := by decide +kernel
theorem m_wch_7_0 : m_wch 7 0 = 111 := by decide +kernel
theorem m_wch_7_1 : m_wch 7 1 = 114 := by decide +kernel
theorem m_wch_7_2 : m_wch 7 2 = 0 := by decide +kernel
theorem m_wch_7_3 : m_wch 7 3 = 0 := by decide +kernel
theorem m_wch_7_4 : m_wch 7 4 = 0 := by decide +kernel
theorem m_wch_7_5 : m_wch 7 5 = 0 := by decide +kernel
theorem m_wch_7_6 : m_wch 7 6 = 0 := by decide +kernel
theorem m_wch_7_7 : m_wch 7 7 = 0 := by decide +kernel
theorem m_wch_8_0 : m_wch 8 0 = 97 := by decide +kernel
theorem m_wch_8_1 : m_wch 8 1 = 110 := by decide +kernel
theorem m_wch_8_2 : m_wch 8 2 = 100 := by decide +kernel
theorem m_wch_8_3 : m_wch 8 3 = 0 := by decide +kernel
theorem m_wch_8_4 : m_wch 8 4 = 0 := by decide +kernel
theorem m_wch_8_5 : m_wch 8 5 = 0 := by decide +kernel
theorem m_wch_8_6 : m_wch 8 6 = 0 := by decide +kernel
theorem m_wch_8_7 : m_wch 8 7 = 0 := by decide +kernel
theorem m_wch_9_0 : m_wch 9 0 = 110 := by decide +kernel
theorem m_wch_9_1 : m_wch 9 1 = 111 := by decide +kernel
theorem m_wch_9_2 : m_wch 9 2 = 116 := by decide +kernel
theorem m_wch_9_3 : m_wch 9 3 = 0 := by decide +kernel
theorem m_wch_9_4 : m_wch 9 4 = 0 := by decide +kernel
theorem m_wch_9_5 : m_wch 9 5 = 0 := by decide +kernel
theorem m_wch_9_6 : m_wch 9 6 = 0 := by decide +kernel
theorem m_wch_9_7 : m_wch 9 7 = 0 := by decide +kernel
theorem m_wch_10_0 : m_wch 10 0 = 99 := by decide +kernel
theorem m_wch_10_1 : m_wch 10 1 = 111 := by decide +kernel
theorem m_wch_10_2 : m_wch 10 2 = 109 := by decide +kernel
theorem m_wch_10_3 : m_wch 10 3 = 112 := by decide +kernel
theorem m_wch_10_4 : m_wch 10 4 = 97 := by decide +kernel
theorem m_wch_10_5 : m_wch 10 5 = 110 := by decide +kernel
theorem m_wch_10_6 : m_wch 10 6 = 121 := by decide +kernel
theorem m_wch_10_7 : m_wch 10 7 = 0 := by decide +kernel
theorem m_wch_11_0 : m_wch 11 0 = 111 := by decide +kernel
theorem m_wch_11_1 : m_wch 11 1 = 97 := by decide +kernel
theorem m_wch_11_2 : m_wch 11 2 = 116 := by decide +kernel
theorem m_wch_11_3 : m_wch 11 3 = 104 := by decide +kernel
theorem m_wch_11_4 : m_wch 11 4 = 0 := by decide +kernel
theorem m_wch_11_5 : m_wch 11 5 = 0 := by decide +kernel
theorem m_wch_11_6 : m_wch 11 6 = 0 := by decide +kernel
theorem m_wch_11_7 : m_wch 11 7 = 0 := by decide +kernel
theorem m_wch_12_0 : m_wch 12 0 = 106 := by decide +kernel
theorem m_wch_12_1 : m_wch 12 1 = 111 := by decide +kernel
theorem m_wch_12_2 : m_wch 12 2 = 105 := by decide +kernel
theorem m_wch_12_3 : m_wch 12 3 = 110 := by decide +kernel
theorem m_wch_12_4 : m_wch 12 4 = 115 := by decide +kernel
theorem m_wch_12_5 : m_wch 12 5 = 0 := by decide +kernel
theorem m_wch_12_6 : m_wch 12 6 = 0 := by decide +kernel
theorem m_wch_12_7 : m_wch 12 7 = 0 := by decide +kernel
section
variable {T t : Nat} {B : Nat → Int32} {sz : Nat} {F : Nat → Int32}
theorem m_isW_1 {st : px_S} {i : Nat} (h : m_RS st t B sz i) : f_X6_isWord T st 108 105 107 101 0 0 0 0 = some (if (m_tk (m_lx B sz 0)) i = (-1) then 1 else 0) := by
  have e := m_isW (T := T) h (w := 1) (by decide) (by decide)
  rw [m_wch_1_0, m_wch_1_1, m_wch_1_2, m_wch_1_3, m_wch_1_4, m_wch_1_5, m_wch_1_6, m_wch_1_7] at e
  exact e
theorem m_isW_1_y {st : px_S} {i : Nat} (h : m_RS st t B sz i) (e : (m_tk (m_lx B sz 0)) i = (-1)) : f_X6_isWord T st 108 105 107 101 0 0 0 0 = some 1 := by rw [m_isW_1 h, if_pos e]
theorem m_isW_1_n {st : px_S} {i : Nat} (h : m_RS st t B sz i) (e : ¬ (m_tk (m_lx B sz 0)) i = (-1)) : f_X6_isWord T st 108 105 107 101 0 0 0 0 = some 0 := by rw [m_isW_1 h, if_neg e]
theorem m_isW_2 {st : px_S} {i : Nat} (h : m_RS st t B sz i) : f_X6_isWord T st 109 97 110 121 0 0 0 0 = some (if (m_tk (m_lx B sz 0)) i = (-2) then 1 else 0) := by
  have e := m_isW (T := T) h (w := 2) (by decide) (by decide)
  rw [m_wch_2_0, m_wch_2_1, m_wch_2_2, m_wch_2_3, m_wch_2_4, m_wch_2_5, m_wch_2_6, m_wch_2_7] at e
  exact e
theorem m_isW_2_y {st : px_S} {i : Nat} (h : m_RS st t B sz i) (e : (m_tk (m_lx B sz 0)) i = (-2)) : f_X6_isWord T st 109 97 110 121 0 0 0 0 = some 1 := by rw [m_isW_2 h, if_pos e]
theorem m_isW_2_n {st : px_S} {i : Nat} (h : m_RS st t B sz i) (e : ¬ (m_tk (m_lx B sz 0)) i = (-2)) : f_X6_isWord T st 109 97 110 121 0 0 0 0 = some 0 := by rw [m_isW_2 h, if_neg e]
theorem m_isW_3 {st : px_S} {i : Nat} (h : m_RS st t B sz i) : f_X6_isWord T st 115 104 97 114 101 0 0 0 = some (if (m_tk (m_lx B sz 0)) i = (-3) then 1 else 0) := by
  have e := m_isW (T := T) h (w := 3) (by decide) (by decide)
  rw [m_wch_3_0, m_wch_3_1, m_wch_3_2, m_wch_3_3, m_wch_3_4, m_wch_3_5, m_wch_3_6, m_wch_3_7] at e
  exact e
theorem m_isW_3_y {st : px_S} {i : Nat} (h : m_RS st t B sz i) (e : (m_tk (m_lx B sz 0)) i = (-3)) : f_X6_isWord T st 115 104 97 114 101 0 0 0 = some 1 := by rw [m_isW_3 h, if_pos e]
theorem m_isW_3_n {st : px_S} {i : Nat} (h : m_RS st t B sz i) (e : ¬ (m_tk (m_lx B sz 0)) i = (-3)) : f_X6_isWord T st 115 104 97 114 101 0 0 0 = some 0 := by rw [m_isW_3 h, if_neg e]
theorem m_isW_4 {st : px_S} {i : Nat} (h : m_RS st t B sz i) : f_X6_isWord T st 100 97 121 115 0 0 0 0 = some (if (m_tk (m_lx B sz 0)) i = (-4) then 1 else 0) := by
  have e := m_isW (T := T) h (w := 4) (by decide) (by decide)
  rw [m_wch_4_0, m_wch_4_1, m_wch_4_2, m_wch_4_3, m_wch_4_4, m_wch_4_5, m_wch_4_6, m_wch_4_7] at e
  exact e
theorem m_isW_4_y {st : px_S} {i : Nat} (h : m_RS st t B sz i) (e : (m_tk (m_lx B sz 0)) i = (-4)) : f_X6_isWord T st 100 97 121 115 0 0 0 0 = some 1 := by rw [m_isW_4 h, if_pos e]
theorem m_isW_4_n {st : px_S} {i : Nat} (h : m_RS st t B sz i) (e : ¬ (m_tk (m_lx B sz 0)) i = (-4)) : f_X6_isWord T st 100 97 121 115 0 0 0 0 = some 0 := by rw [m_isW_4 h, if_neg e]
theorem m_isW_5 {st : px_S} {i : Nat} (h : m_RS st t B sz i) : f_X6_isWord T st 111 110 101 0 0 0 0 0 = some (if (m_tk (m_lx B sz 0)) i = (-5) then 1 else 0) := by
  have e := m_isW (T := T) h (w := 5) (by decide) (by decide)
  rw [m_wch_5_0, m_wch_5_1, m_wch_5_2, m_wch_5_3, m_wch_5_4, m_wch_5_5, m_wch_5_6, m_wch_5_7] at e
  exact e
theorem m_isW_5_y {st : px_S} {i : Nat} (h : m_RS st t B sz i) (e : (m_tk (m_lx B sz 0)) i = (-5)) : f_X6_isWord T st 111 110 101 0 0 0 0 0 = some 1 := by rw [m_isW_5 h, if_pos e]
theorem m_isW_5_n {st : px_S} {i : Nat} (h : m_RS st t B sz i) (e : ¬ (m_tk (m_lx B sz 0)) i = (-5)) : f_X6_isWord T st 111 110 101 0 0 0 0 0 = some 0 := by rw [m_isW_5 h, if_neg e]
theorem m_isW_6 {st : px_S} {i : Nat} (h : m_RS st t B sz i) : f_X6_isWord T st 111 116 104 101 114 0 0 0 = some (if (m_tk (m_lx B sz 0)) i = (-6) then 1 else 0) := by
  have e := m_isW (T := T) h (w := 6) (by decide) (by decide)
  rw [m_wch_6_0, m_wch_6_1, m_wch_6_2, m_wch_6_3, m_wch_6_4, m_wch_6_5, m_wch_6_6, m_wch_6_7] at e
  exact e
theorem m_isW_6_y {st : px_S} {i : Nat} (h : m_RS st t B sz i) (e : (m_tk (m_lx B sz 0)) i = (-6)) : f_X6_isWord T st 111 116 104 101 114 0 0 0 = some 1 := by rw [m_isW_6 h, if_pos e]
theorem m_isW_6_n {st : px_S} {i : Nat} (h : m_RS st t B sz i) (e : ¬ (m_tk (m_lx B sz 0)) i = (-6)) : f_X6_isWord T st 111 116 104 101 114 0 0 0 = some 0 := by rw [m_isW_6 h, if_neg e]
theorem m_isW_7 {st : px_S} {i : Nat} (h : m_RS st t B sz i) : f_X6_isWord T st 111 114 0 0 0 0 0 0 = some (if (m_tk (m_lx B sz 0)) i = (-7) then 1 else 0) := by
  have e := m_isW (T := T) h (w := 7) (by decide) (by decide)
  rw [m_wch_7_0, m_wch_7_1, m_wch_7_2, m_wch_7_3, m_wch_7_4, m_wch_7_5, m_wch_7_6, m_wch_7_7] at e
  exact e
theorem m_isW_7_y {st : px_S} {i : Nat} (h : m_RS st t B sz i) (e : (m_tk (m_lx B sz 0)) i = (-7)) : f_X6_isWord T st 111 114 0 0 0 0 0 0 = some 1 := by rw [m_isW_7 h, if_pos e]
theorem m_isW_7_n {st : px_S} {i : Nat} (h : m_RS st t B sz i) (e : ¬ (m_tk (m_lx B sz 0)) i = (-7)) : f_X6_isWord T st 111 114 0 0 0 0 0 0 = some 0 := by rw [m_isW_7 h, if_neg e]
theorem m_isW_8 {st : px_S} {i : Nat} (h : m_RS st t B sz i) : f_X6_isWord T st 97 110 100 0 0 0 0 0 = some (if (m_tk (m_lx B sz 0)) i = (-8) then 1 else 0) := by
  have e := m_isW (T := T) h (w := 8) (by decide) (by decide)
  rw [m_wch_8_0, m_wch_8_1, m_wch_8_2, m_wch_8_3, m_wch_8_4, m_wch_8_5, m_wch_8_6, m_wch_8_7] at e
  exact e
theorem m_isW_8_y {st : px_S} {i : Nat} (h : m_RS st t B sz i) (e : (m_tk (m_lx B sz 0)) i = (-8)) : f_X6_isWord T st 97 110 100 0 0 0 0 0 = some 1 := by rw [m_isW_8 h, if_pos e]
theorem m_isW_8_n {st : px_S} {i : Nat} (h : m_RS st t B sz i) (e : ¬ (m_tk (m_lx B sz 0)) i = (-8)) : f_X6_isWord T st 97 110 100 0 0 0 0 0 = some 0 := by rw [m_isW_8 h, if_neg e]
theorem m_isW_9 {st : px_S} {i : Nat} (h : m_RS st t B sz i) : f_X6_isWord T st 110 111 116 0 0 0 0 0 = some (if (m_tk (m_lx B sz 0)) i = (-9) then 1 else 0) := by
  have e := m_isW (T := T) h (w := 9) (by decide) (by decide)
  rw [m_wch_9_0, m_wch_9_1, m_wch_9_2, m_wch_9_3, m_wch_9_4, m_wch_9_5, m_wch_9_6, m_wch_9_7] at e
  exact e
theorem m_isW_9_y {st : px_S} {i : Nat} (h : m_RS st t B sz i) (e : (m_tk (m_lx B sz 0)) i = (-9)) : f_X6_isWord T st 110 111 116 0 0 0 0 0 = some 1 := by rw [m_isW_9 h, if_pos e]
theorem m_isW_9_n {st : px_S} {i : Nat} (h : m_RS st t B sz i) (e : ¬ (m_tk (m_lx B sz 0)) i = (-9)) : f_X6_isWord T st 110 111 116 0 0 0 0 0 = some 0 := by rw [m_isW_9 h, if_neg e]
theorem m_isW_10 {st : px_S} {i : Nat} (h : m_RS st t B sz i) : f_X6_isWord T st 99 111 109 112 97 110 121 0 = some (if (m_tk (m_lx B sz 0)) i = (-19) then 1 else 0) := by
  have e := m_isW (T := T) h (w := 10) (by decide) (by decide)
  rw [m_wch_10_0, m_wch_10_1, m_wch_10_2, m_wch_10_3, m_wch_10_4, m_wch_10_5, m_wch_10_6, m_wch_10_7] at e
  exact e
theorem m_isW_10_y {st : px_S} {i : Nat} (h : m_RS st t B sz i) (e : (m_tk (m_lx B sz 0)) i = (-19)) : f_X6_isWord T st 99 111 109 112 97 110 121 0 = some 1 := by rw [m_isW_10 h, if_pos e]
theorem m_isW_10_n {st : px_S} {i : Nat} (h : m_RS st t B sz i) (e : ¬ (m_tk (m_lx B sz 0)) i = (-19)) : f_X6_isWord T st 99 111 109 112 97 110 121 0 = some 0 := by rw [m_isW_10 h, if_neg e]
theorem m_isW_11 {st : px_S} {i : Nat} (h : m_RS st t B sz i) : f_X6_isWord T st 111 97 116 104 0 0 0 0 = some (if (m_tk (m_lx B sz 0)) i = (-20) then 1 else 0) := by
  have e := m_isW (T := T) h (w := 11) (by decide) (by decide)
  rw [m_wch_11_0, m_wch_11_1, m_wch_11_2, m_wch_11_3, m_wch_11_4, m_wch_11_5, m_wch_11_6, m_wch_11_7] at e
  exact e
theorem m_isW_11_y {st : px_S} {i : Nat} (h : m_RS st t B sz i) (e : (m_tk (m_lx B sz 0)) i = (-20)) : f_X6_isWord T st 111 97 116 104 0 0 0 0 = some 1 := by rw [m_isW_11 h, if_pos e]
theorem m_isW_11_n {st : px_S} {i : Nat} (h : m_RS st t B sz i) (e : ¬ (m_tk (m_lx B sz 0)) i = (-20)) : f_X6_isWord T st 111 97 116 104 0 0 0 0 = some 0 := by rw [m_isW_11 h, if_neg e]
theorem m_isW_12 {st : px_S} {i : Nat} (h : m_RS st t B sz i) : f_X6_isWord T st 106 111 105 110 115 0 0 0 = some (if (m_tk (m_lx B sz 0)) i = (-21) then 1 else 0) := by
  have e := m_isW (T := T) h (w := 12) (by decide) (by decide)
  rw [m_wch_12_0, m_wch_12_1, m_wch_12_2, m_wch_12_3, m_wch_12_4, m_wch_12_5, m_wch_12_6, m_wch_12_7] at e
  exact e
theorem m_isW_12_y {st : px_S} {i : Nat} (h : m_RS st t B sz i) (e : (m_tk (m_lx B sz 0)) i = (-21)) : f_X6_isWord T st 106 111 105 110 115 0 0 0 = some 1 := by rw [m_isW_12 h, if_pos e]
theorem m_isW_12_n {st : px_S} {i : Nat} (h : m_RS st t B sz i) (e : ¬ (m_tk (m_lx B sz 0)) i = (-21)) : f_X6_isWord T st 106 111 105 110 115 0 0 0 = some 0 := by rw [m_isW_12 h, if_neg e]
theorem m_isS_45 {st : px_S} {i : Nat} (h : m_RS st t B sz i) : f_X6_isSign T st 45 = some (if (m_tk (m_lx B sz 0)) i = (-13) then 1 else 0) := by
  have e := m_isS (T := T) h (s := 45) (by decide)
  rw [show p_X2_signOf 45 = (-13) from by decide] at e
  exact e
theorem m_isS_45_y {st : px_S} {i : Nat} (h : m_RS st t B sz i) (e : (m_tk (m_lx B sz 0)) i = (-13)) : f_X6_isSign T st 45 = some 1 := by rw [m_isS_45 h, if_pos e]
theorem m_isS_45_n {st : px_S} {i : Nat} (h : m_RS st t B sz i) (e : ¬ (m_tk (m_lx B sz 0)) i = (-13)) : f_X6_isSign T st 45 = some 0 := by rw [m_isS_45 h, if_neg e]
theorem m_s27_45 {st : px_S} {i : Nat} (h : m_RS st t B sz i) (e : (m_tk (m_lx B sz 0)) i = (-13)) : st 48 27 = 45 := m_s27 h (s := 45) (by decide) (by rw [e]; decide)
theorem m_isS_40 {st : px_S} {i : Nat} (h : m_RS st t B sz i) : f_X6_isSign T st 40 = some (if (m_tk (m_lx B sz 0)) i = (-16) then 1 else 0) := by
  have e := m_isS (T := T) h (s := 40) (by decide)
  rw [show p_X2_signOf 40 = (-16) from by decide] at e
  exact e
theorem m_isS_40_y {st : px_S} {i : Nat} (h : m_RS st t B sz i) (e : (m_tk (m_lx B sz 0)) i = (-16)) : f_X6_isSign T st 40 = some 1 := by rw [m_isS_40 h, if_pos e]
theorem m_isS_40_n {st : px_S} {i : Nat} (h : m_RS st t B sz i) (e : ¬ (m_tk (m_lx B sz 0)) i = (-16)) : f_X6_isSign T st 40 = some 0 := by rw [m_isS_40 h, if_neg e]
theorem m_s27_40 {st : px_S} {i : Nat} (h : m_RS st t B sz i) (e : (m_tk (m_lx B sz 0)) i = (-16)) : st 48 27 = 40 := m_s27 h (s := 40) (by decide) (by rw [e]; decide)
theorem m_isS_41 {st : px_S} {i : Nat} (h : m_RS st t B sz i) : f_X6_isSign T st 41 = some (if (m_tk (m_lx B sz 0)) i = (-17) then 1 else 0) := by
  have e := m_isS (T := T) h (s := 41) (by decide)
  rw [show p_X2_signOf 41 = (-17) from by decide] at e
  exact e
theorem m_isS_41_y {st : px_S} {i : Nat} (h : m_RS st t B sz i) (e : (m_tk (m_lx B sz 0)) i = (-17)) : f_X6_isSign T st 41 = some 1 := by rw [m_isS_41 h, if_pos e]
theorem m_isS_41_n {st : px_S} {i : Nat} (h : m_RS st t B sz i) (e : ¬ (m_tk (m_lx B sz 0)) i = (-17)) : f_X6_isSign T st 41 = some 0 := by rw [m_isS_41 h, if_neg e]
theorem m_s27_41 {st : px_S} {i : Nat} (h : m_RS st t B sz i) (e : (m_tk (m_lx B sz 0)) i = (-17)) : st 48 27 = 41 := m_s27 h (s := 41) (by decide) (by rw [e]; decide)
theorem m_isS_59 {st : px_S} {i : Nat} (h : m_RS st t B sz i) : f_X6_isSign T st 59 = some (if (m_tk (m_lx B sz 0)) i = (-18) then 1 else 0) := by
  have e := m_isS (T := T) h (s := 59) (by decide)
  rw [show p_X2_signOf 59 = (-18) from by decide] at e
  exact e
theorem m_isS_59_y {st : px_S} {i : Nat} (h : m_RS st t B sz i) (e : (m_tk (m_lx B sz 0)) i = (-18)) : f_X6_isSign T st 59 = some 1 := by rw [m_isS_59 h, if_pos e]
theorem m_isS_59_n {st : px_S} {i : Nat} (h : m_RS st t B sz i) (e : ¬ (m_tk (m_lx B sz 0)) i = (-18)) : f_X6_isSign T st 59 = some 0 := by rw [m_isS_59 h, if_neg e]
theorem m_s27_59 {st : px_S} {i : Nat} (h : m_RS st t B sz i) (e : (m_tk (m_lx B sz 0)) i = (-18)) : st 48 27 = 59 := m_s27 h (s := 59) (by decide) (by rw [e]; decide)
theorem m_isS_43 {st : px_S} {i : Nat} (h : m_RS st t B sz i) : f_X6_isSign T st 43 = some (if (m_tk (m_lx B sz 0)) i = (-12) then 1 else 0) := by
  have e := m_isS (T := T) h (s := 43) (by decide)
  rw [show p_X2_signOf 43 = (-12) from by decide] at e
  exact e
theorem m_isS_43_y {st : px_S} {i : Nat} (h : m_RS st t B sz i) (e : (m_tk (m_lx B sz 0)) i = (-12)) : f_X6_isSign T st 43 = some 1 := by rw [m_isS_43 h, if_pos e]
theorem m_isS_43_n {st : px_S} {i : Nat} (h : m_RS st t B sz i) (e : ¬ (m_tk (m_lx B sz 0)) i = (-12)) : f_X6_isSign T st 43 = some 0 := by rw [m_isS_43 h, if_neg e]
theorem m_s27_43 {st : px_S} {i : Nat} (h : m_RS st t B sz i) (e : (m_tk (m_lx B sz 0)) i = (-12)) : st 48 27 = 43 := m_s27 h (s := 43) (by decide) (by rw [e]; decide)
theorem m_isS_42 {st : px_S} {i : Nat} (h : m_RS st t B sz i) : f_X6_isSign T st 42 = some (if (m_tk (m_lx B sz 0)) i = (-14) then 1 else 0) := by
  have e := m_isS (T := T) h (s := 42) (by decide)
  rw [show p_X2_signOf 42 = (-14) from by decide] at e
  exact e
theorem m_isS_42_y {st : px_S} {i : Nat} (h : m_RS st t B sz i) (e : (m_tk (m_lx B sz 0)) i = (-14)) : f_X6_isSign T st 42 = some 1 := by rw [m_isS_42 h, if_pos e]
theorem m_isS_42_n {st : px_S} {i : Nat} (h : m_RS st t B sz i) (e : ¬ (m_tk (m_lx B sz 0)) i = (-14)) : f_X6_isSign T st 42 = some 0 := by rw [m_isS_42 h, if_neg e]
theorem m_s27_42 {st : px_S} {i : Nat} (h : m_RS st t B sz i) (e : (m_tk (m_lx B sz 0)) i = (-14)) : st 48 27 = 42 := m_s27 h (s := 42) (by decide) (by rw [e]; decide)
theorem m_isS_60 {st : px_S} {i : Nat} (h : m_RS st t B sz i) : f_X6_isSign T st 60 = some (if (m_tk (m_lx B sz 0)) i = (-10) then 1 else 0) := by
  have e := m_isS (T := T) h (s := 60) (by decide)
  rw [show p_X2_signOf 60 = (-10) from by decide] at e
  exact e
theorem m_isS_60_y {st : px_S} {i : Nat} (h : m_RS st t B sz i) (e : (m_tk (m_lx B sz 0)) i = (-10)) : f_X6_isSign T st 60 = some 1 := by rw [m_isS_60 h, if_pos e]
theorem m_isS_60_n {st : px_S} {i : Nat} (h : m_RS st t B sz i) (e : ¬ (m_tk (m_lx B sz 0)) i = (-10)) : f_X6_isSign T st 60 = some 0 := by rw [m_isS_60 h, if_neg e]
theorem m_s27_60 {st : px_S} {i : Nat} (h : m_RS st t B sz i) (e : (m_tk (m_lx B sz 0)) i = (-10)) : st 48 27 = 60 := m_s27 h (s := 60) (by decide) (by rw [e]; decide)
theorem m_isS_61 {st : px_S} {i : Nat} (h : m_RS st t B sz i) : f_X6_isSign T st 61 = some (if (m_tk (m_lx B sz 0)) i = (-11) then 1 else 0) := by
  have e := m_isS (T := T) h (s := 61) (by decide)
  rw [show p_X2_signOf 61 = (-11) from by decide] at e
  exact e
theorem m_isS_61_y {st : px_S} {i : Nat} (h : m_RS st t B sz i) (e : (m_tk (m_lx B sz 0)) i = (-11)) : f_X6_isSign T st 61 = some 1 := by rw [m_isS_61 h, if_pos e]
theorem m_isS_61_n {st : px_S} {i : Nat} (h : m_RS st t B sz i) (e : ¬ (m_tk (m_lx B sz 0)) i = (-11)) : f_X6_isSign T st 61 = some 0 := by rw [m_isS_61 h, if_neg e]
theorem m_s27_61 {st : px_S} {i : Nat} (h : m_RS st t B sz i) (e : (m_tk (m_lx B sz 0)) i = (-11)) : st 48 27 = 61 := m_s27 h (s := 61) (by decide) (by rw [e]; decide)
theorem m_opens {st : px_S} {i o : Nat} (h : m_RS st t B sz i) (hs : m_sets o st F) (h22 : (m_tk (m_lx B sz 0)) i ≠ -22) (h23 : (m_tk (m_lx B sz 0)) i ≠ -23) :
    (o < 5 → ∃ s1, f_X6_opens T st = some (1, s1) ∧ m_f48 m_rf st s1 ∧ m_RS s1 t B sz (i + 1) ∧ m_sets (o + 1) s1 F) ∧
    (o = 5 → ∃ s1, f_X6_opens T st = some (0, s1) ∧ m_f48 m_rf st s1 ∧ m_bad s1 (m_pl (m_lx B sz 0) sz i)) := by
  constructor
  · intro ho
    have f1 : m_f48 [28] st (up st 48 28 (nI (o + 1))) := m_f48_up (m_f48_refl _ _) (by simp) _
    have h1 := m_RS_fr h f1 (by decide)
    obtain ⟨s1, e1, f2, r1⟩ := m_adv (T := T) h1 h22 h23
    have f3 : m_f48 m_rf st s1 := m_f48_tr (m_f48_mono f1 (by intro a ha; simp [m_rf] at ha ⊢; omega)) (m_mono4 f2)
    refine ⟨s1, ?_, f3, r1, by rw [f2.2 28 (by decide)]; simp [m_up], fun j hj => by rw [f3.2 (16 + j) (by simp [m_rf]; omega)]; exact hs.2 j hj⟩
    rw [f_X6_opens, hs.1, if_neg (by rw [show (5 : Int32) = nI 5 from rfl, nI_eq (by omega) (by omega)]; omega), nI_1, m_eq_bind e1]
  · intro ho
    subst ho
    obtain ⟨s1, e1, f1, b1⟩ := m_fail (T := T) h
    exact ⟨s1, by rw [f_X6_opens, hs.1, if_pos (show nI 5 = 5 from rfl), m_eq_bind e1], m_mono2 f1, b1⟩
theorem m_lvl2 (tok : Nat → Int32) (d o i : Nat) : m_lvl tok (d + 1) 2 o i = if tok i = -9 then m_open (m_lvl tok d) (-9) 2 o i else (if (m_lvl tok d 3 o i).1 then ((m_loop tok (m_lvl tok d 3 o) (nI 2) 1 (m_lvl tok d 3 o i).2.2).1, (m_lvl tok d 3 o i).2.1 ++ (m_loop tok (m_lvl tok d 3 o) (nI 2) 1 (m_lvl tok d 3 o i).2.2).2.1, (m_loop tok (m_lvl tok d 3 o) (nI 2) 1 (m_lvl tok d 3 o i).2.2).2.2) else m_lvl tok d 3 o i) := by
  rw [m_lvl, if_pos (by decide)]
  by_cases h : tok i = -9
  · rw [if_pos ⟨rfl, h⟩, if_pos h]
  · rw [if_neg (fun g => h g.2), if_neg h]; rfl
theorem m_loop1 (tok : Nat → Int32) (rd : Nat → m_R) (lev : Int32) (j : Nat) : m_loop tok rd lev 1 j = if p_X2_levelOf (tok j) = lev then (if (rd (j + 1)).1 then (true, (rd (j + 1)).2.1 ++ [tok j], (rd (j + 1)).2.2) else rd (j + 1)) else (true, [], j) := rfl
theorem m_lvl5 (tok : Nat → Int32) (d o i : Nat) : m_lvl tok (d + 1) 5 o i = m_one tok (m_lvl tok d) o i := by rw [m_lvl, if_neg (by decide)]
def g_cmp2 (T : Nat) (A : px_S → Option (Int32 × px_S)) (y1 z0 : Int32) (st : px_S) : Option (Int32 × px_S) := ((f_X6_next T st).bind fun b1 => ((A b1).bind fun b2 => (if z0 = 0 then (if y1 = b2.1 then (some (1, b2.2)) else (some (0, b2.2))) else (if y1 < b2.1 then (some (1, b2.2)) else (some (0, b2.2))))))
def g_cmp1 (T : Nat) (A : px_S → Option (Int32 × px_S)) (y1 : Int32) (st : px_S) : Option (Int32 × px_S) := (if (lg_cmp (st 48 27).toInt64 60) = 0 then (g_cmp2 T A y1 1 st) else (g_cmp2 T A y1 0 st))
def g_not (T : Nat) (A O : px_S → Option (Int32 × px_S)) (st : px_S) : Option (Int32 × px_S) := ((f_X6_isWord T st 110 111 116 0 0 0 0 0).bind fun b7 => (if b7 = 0 then ((A st).bind fun b9 => ((f_X6_isSign T b9.2 60).bind fun b10 => (if b10 = 0 then ((f_X6_isSign T b9.2 61).bind fun b12 => (if b12 = 0 then (some (b9.1, b9.2)) else (g_cmp1 T A b9.1 b9.2))) else (g_cmp1 T A b9.1 b9.2)))) else (O st)))
def g_onot (T : Nat) (N : px_S → Option (Int32 × px_S)) (st : px_S) : Option (Int32 × px_S) := ((f_X6_opens T st).bind fun b14 => (if b14.1 = 0 then (some (0, b14.2)) else ((N b14.2).bind fun b16 => (if b16.1 = 0 then (some (1, (up b16.2 48 28 ((b16.2 48 28) - 1)))) else (some (0, (up b16.2 48 28 ((b16.2 48 28) - 1))))))))
def g_oneg (T : Nat) (N : px_S → Option (Int32 × px_S)) (st : px_S) : Option (Int32 × px_S) := ((f_X6_opens T st).bind fun b22 => (if b22.1 = 0 then (some (0, b22.2)) else ((N b22.2).bind fun b24 => (some ((-b24.1), (up b24.2 48 28 ((b24.2 48 28) - 1)))))))
def g_close (T : Nat) (y1 : Int32) (st : px_S) : Option (Int32 × px_S) := (if (st 48 29) = 0 then ((f_X6_next T (up st 48 28 ((st 48 28) - 1))).bind fun b8 => (some (y1, b8))) else (some (y1, (up st 48 28 ((st 48 28) - 1)))))
def g_opar (T : Nat) (N : px_S → Option (Int32 × px_S)) (st : px_S) : Option (Int32 × px_S) := ((f_X6_opens T st).bind fun b16 => (if b16.1 = 0 then (some (0, b16.2)) else ((N b16.2).bind fun b18 => ((f_X6_isSign T b18.2 41).bind fun b19 => (if b19 = 0 then ((f_X6_fail T b18.2).bind fun b21 => (g_close T b18.1 b21)) else (g_close T b18.1 b18.2))))))
def g_full (T : Nat) (st : px_S) : Option (Int32 × px_S) := ((f_X6_opens T st).bind fun b14 => (some (0, b14.2)))
def g_afail (T : Nat) (y1 : Int32) (st : px_S) : Option (Int32 × px_S) := ((f_X6_fail T st).bind fun b1 => (some (y1, b1)))
def g_aword (T : Nat) (y1 : Int32) (st : px_S) : Option (Int32 × px_S) := (if (st 48 29) = 0 then (if (st 48 25) = 1 then ((f_X6_name T st).bind fun b4 => (if (b4.2 48 29) = 0 then ((f_X6_next T b4.2).bind fun b6 => (some (b4.1, b6))) else (some (b4.1, b4.2)))) else (g_afail T y1 st)) else (g_afail T y1 st))
def g_atom (T : Nat) (ON OP : px_S → Option (Int32 × px_S)) (st : px_S) : Option (Int32 × px_S) := ((f_X6_isSign T st 45).bind fun b9 => (if b9 = 0 then ((f_X6_isSign T st 40).bind fun b11 => (if b11 = 0 then (if (st 48 29) = 0 then (if (st 48 25) = 2 then ((f_X6_next T st).bind fun b15 => (some ((st 48 27).toInt64.toInt32, b15))) else (g_aword T 0 st)) else (g_aword T 0 st)) else (OP st))) else (ON st)))
/-- what an opening must do -/
def m_ops (T t : Nat) (B : Nat → Int32) (sz : Nat) (F : Nat → Int32) (O : px_S → Option (Int32 × px_S)) (o : Nat) (c : Int32) (P : Nat → Nat → m_R) : Prop :=
  ∀ (d : Nat) (st : px_S) (i : Nat), 6 * (5 - o) ≤ d → m_RS st t B sz i → m_sets o st F → (m_tk (m_lx B sz 0)) i = c → ∃ v st', O st = some (v, st') ∧ m_f48 m_rf st st' ∧ m_res st' t B sz F o v [] (P d i)
theorem m_rf28 {s u : px_S} (h : m_f48 m_rf s u) (x : Int32) : m_f48 m_rf s (up u 48 28 x) := m_f48_up h (by simp [m_rf]) x
theorem m_back {st : px_S} {i o : Nat} (h : m_RS st t B sz i) (h28 : st 48 28 = nI (o + 1)) : m_RS (up st 48 28 ((st 48 28) - 1)) t B sz i ∧ (up st 48 28 ((st 48 28) - 1)) 48 28 = nI o := by
  have f1 : m_f48 [28] st (up st 48 28 ((st 48 28) - 1)) := m_f48_up (m_f48_refl _ _) (by simp) _
  exact ⟨m_RS_fr h f1 (by decide), by rw [m_up, if_pos rfl, if_pos rfl, h28, nI_pred]⟩
theorem m_bad28 {st : px_S} {p : Nat} (h : m_bad st p) (x : Int32) : m_bad (up st 48 28 x) p := by
  unfold m_bad at *; simp [m_up, h.1, h.2]
theorem m_opFull (c : Int32) (hc : c ≠ -22 ∧ c ≠ -23) (step : Int32) (l : Nat) : m_ops T t B sz F (g_full T) 5 c (fun d i => m_open (m_lvl (m_tk (m_lx B sz 0)) d) step l 5 i) := by
  intro d st i hd hrs hs hc2
  obtain ⟨s1, e1, f1, b1⟩ := (m_opens (T := T) hrs hs (by rw [hc2]; exact hc.1) (by rw [hc2]; exact hc.2)).2 rfl
  refine ⟨0, s1, by rw [g_full, m_eq_bind e1], f1, ?_⟩
  simp only [m_open, if_neg (show ¬ (5 < 5) by decide), m_res]
  rw [if_neg (by simp)]
  exact b1
theorem m_opNot {o : Nat} (ho : o < 5) {N : px_S → Option (Int32 × px_S)} (hN : m_reads T t B sz F N 2 (o + 1)) : m_ops T t B sz F (g_onot T N) o (-9) (fun d i => m_open (m_lvl (m_tk (m_lx B sz 0)) d) (-9) 2 o i) := by
  intro d st i hd hrs hs hc2
  obtain ⟨s1, e1, f1, r1, hs1⟩ := (m_opens (T := T) hrs hs (by rw [hc2]; decide) (by rw [hc2]; decide)).1 ho
  obtain ⟨w, s2, e2, f2, r2⟩ := hN d s1 (i + 1) (by omega) r1 hs1
  rw [g_onot, m_eq_bind e1]
  simp only [show ¬ ((1 : Int32) = 0) by decide, if_false]
  rw [m_eq_bind e2]
  have f3 := m_rf28 (m_f48_tr f1 f2) ((s2 48 28) - 1)
  simp only [m_open, if_pos ho]
  by_cases hk : (m_lvl (m_tk (m_lx B sz 0)) d 2 (o + 1) (i + 1)).1
  · rw [m_res, if_pos hk] at r2
    obtain ⟨r2, o2, v2⟩ := r2
    have hb := m_back r2 o2
    have key : ∀ x : Int32, (if w = 0 then (1 : Int32) else 0) = x → m_res (up s2 48 28 ((s2 48 28) - 1)) t B sz F o x [] (if (m_lvl (m_tk (m_lx B sz 0)) d 2 (o + 1) (i + 1)).1 then (true, (m_lvl (m_tk (m_lx B sz 0)) d 2 (o + 1) (i + 1)).2.1 ++ (if (-9 : Int32) = -16 then [] else [-9]), (m_lvl (m_tk (m_lx B sz 0)) d 2 (o + 1) (i + 1)).2.2) else m_lvl (m_tk (m_lx B sz 0)) d 2 (o + 1) (i + 1)) := by
      intro x hx
      rw [if_pos hk, m_res, if_pos rfl]
      refine ⟨hb.1, hb.2, fun s => ?_⟩
      have := v2 s
      rw [if_neg (show ¬ ((-9 : Int32) = -16) by decide)]
      simp only [m_ev_app, List.nil_append] at this ⊢
      rw [this, ← hx]
      rfl
    by_cases hw : w = 0
    · simp only [if_pos hw]
      exact ⟨_, _, rfl, f3, key 1 (if_pos hw)⟩
    · simp only [if_neg hw]
      exact ⟨_, _, rfl, f3, key 0 (if_neg hw)⟩
  · rw [m_res, if_neg hk] at r2
    have hb := m_bad28 r2 ((s2 48 28) - 1)
    have key : ∀ x : Int32, m_res (up s2 48 28 ((s2 48 28) - 1)) t B sz F o x [] (if (m_lvl (m_tk (m_lx B sz 0)) d 2 (o + 1) (i + 1)).1 then (true, (m_lvl (m_tk (m_lx B sz 0)) d 2 (o + 1) (i + 1)).2.1 ++ (if (-9 : Int32) = -16 then [] else [-9]), (m_lvl (m_tk (m_lx B sz 0)) d 2 (o + 1) (i + 1)).2.2) else m_lvl (m_tk (m_lx B sz 0)) d 2 (o + 1) (i + 1)) := by
      intro x
      rw [if_neg hk, m_res, if_neg hk]
      exact hb
    by_cases hw : w = 0
    · simp only [if_pos hw]
      exact ⟨_, _, rfl, f3, key 1⟩
    · simp only [if_neg hw]
      exact ⟨_, _, rfl, f3, key 0⟩
theorem m_opNeg {o : Nat} (ho : o < 5) {N : px_S → Option (Int32 × px_S)} (hN : m_reads T t B sz F N 5 (o + 1)) : m_ops T t B sz F (g_oneg T N) o (-13) (fun d i => m_open (m_lvl (m_tk (m_lx B sz 0)) d) (-15) 5 o i) := by
  intro d st i hd hrs hs hc2
  obtain ⟨s1, e1, f1, r1, hs1⟩ := (m_opens (T := T) hrs hs (by rw [hc2]; decide) (by rw [hc2]; decide)).1 ho
  obtain ⟨w, s2, e2, f2, r2⟩ := hN d s1 (i + 1) (by omega) r1 hs1
  rw [g_oneg, m_eq_bind e1]
  simp only [show ¬ ((1 : Int32) = 0) by decide, if_false]
  rw [m_eq_bind e2]
  refine ⟨_, _, rfl, m_rf28 (m_f48_tr f1 f2) ((s2 48 28) - 1), ?_⟩
  simp only [m_open, if_pos ho]
  by_cases hk : (m_lvl (m_tk (m_lx B sz 0)) d 5 (o + 1) (i + 1)).1
  · rw [m_res, if_pos hk] at r2
    obtain ⟨r2, o2, v2⟩ := r2
    have hb := m_back r2 o2
    rw [if_pos hk, m_res, if_pos rfl]
    refine ⟨hb.1, hb.2, fun s => ?_⟩
    have := v2 s
    rw [if_neg (show ¬ ((-15 : Int32) = -16) by decide)]
    simp only [m_ev_app, List.nil_append] at this ⊢
    rw [this]
    rfl
  · rw [m_res, if_neg hk] at r2
    rw [if_neg hk, m_res, if_neg hk]
    exact m_bad28 r2 _
def m_par (tok : Nat → Int32) (rd : Nat → Nat → Nat → m_R) (o i : Nat) : m_R := (if (m_open rd (-16) 0 o i).1 then (if tok (m_open rd (-16) 0 o i).2.2 = -17 then (true, (m_open rd (-16) 0 o i).2.1, (m_open rd (-16) 0 o i).2.2 + 1) else (false, (m_open rd (-16) 0 o i).2.1, (m_open rd (-16) 0 o i).2.2)) else m_open rd (-16) 0 o i)
theorem m_opParF : m_ops T t B sz F (g_full T) 5 (-16) (fun d i => m_par (m_tk (m_lx B sz 0)) (m_lvl (m_tk (m_lx B sz 0)) d) 5 i) := by
  intro d st i hd hrs hs hc2
  obtain ⟨v, s1, e1, f1, r1⟩ := m_opFull (T := T) (F := F) (-16) ⟨by decide, by decide⟩ (-16) 0 d st i hd hrs hs hc2
  refine ⟨v, s1, e1, f1, ?_⟩
  simp only [m_par, m_open, if_neg (show ¬ (5 < 5) by decide)] at r1 ⊢
  exact r1
theorem m_opPar {o : Nat} (ho : o < 5) {N : px_S → Option (Int32 × px_S)} (hN : m_reads T t B sz F N 0 (o + 1)) : m_ops T t B sz F (g_opar T N) o (-16) (fun d i => m_par (m_tk (m_lx B sz 0)) (m_lvl (m_tk (m_lx B sz 0)) d) o i) := by
  intro d st i hd hrs hs hc2
  obtain ⟨s1, e1, f1, r1, hs1⟩ := (m_opens (T := T) hrs hs (by rw [hc2]; decide) (by rw [hc2]; decide)).1 ho
  obtain ⟨w, s2, e2, f2, r2⟩ := hN d s1 (i + 1) (by omega) r1 hs1
  rw [g_opar, m_eq_bind e1]
  simp only [show ¬ ((1 : Int32) = 0) by decide, if_false]
  rw [m_eq_bind e2]
  have f12 := m_f48_tr f1 f2
  by_cases hk : (m_lvl (m_tk (m_lx B sz 0)) d 0 (o + 1) (i + 1)).1
  · have em : m_open (m_lvl (m_tk (m_lx B sz 0)) d) (-16) 0 o i = (true, (m_lvl (m_tk (m_lx B sz 0)) d 0 (o + 1) (i + 1)).2.1, (m_lvl (m_tk (m_lx B sz 0)) d 0 (o + 1) (i + 1)).2.2) := by
      rw [m_open, if_pos ho, if_pos hk, if_pos rfl, List.append_nil]
    rw [m_res, if_pos hk] at r2
    obtain ⟨r2, o2, v2⟩ := r2
    simp only [m_par, em]
    rw [m_eq_bind (m_isS_41 r2)]
    by_cases h17 : (m_tk (m_lx B sz 0)) (m_lvl (m_tk (m_lx B sz 0)) d 0 (o + 1) (i + 1)).2.2 = -17
    · simp only [if_pos h17]
      rw [if_neg (by decide), g_close, if_pos r2.2.1]
      have hb := m_back r2 o2
      obtain ⟨s3, e3, f3, r3⟩ := m_adv (T := T) hb.1 (by rw [h17]; decide) (by rw [h17]; decide)
      rw [m_eq_bind e3]
      refine ⟨_, _, rfl, m_f48_tr (m_rf28 f12 _) (m_mono4 f3), ?_⟩
      simp only [if_true, m_res]
      exact ⟨r3, by rw [f3.2 28 (by decide)]; exact hb.2, v2⟩
    · simp only [if_neg h17, if_true]
      obtain ⟨s3, e3, f3, b3⟩ := m_fail (T := T) r2
      rw [m_eq_bind e3, g_close, if_neg (by rw [b3.1]; decide)]
      refine ⟨_, _, rfl, m_rf28 (m_f48_tr f12 (m_mono2 f3)) _, ?_⟩
      rw [m_res, if_neg (by simp)]
      exact m_bad28 b3 _
  · have em : m_open (m_lvl (m_tk (m_lx B sz 0)) d) (-16) 0 o i = m_lvl (m_tk (m_lx B sz 0)) d 0 (o + 1) (i + 1) := by
      rw [m_open, if_pos ho, if_neg hk]
    rw [m_res, if_neg hk] at r2
    simp only [m_par, em, if_neg hk]
    rw [m_eq_bind (m_bad_isS r2.1 41), if_pos rfl, m_eq_bind (m_bad_fail r2.1), g_close, if_neg (by rw [r2.1]; decide)]
    refine ⟨_, _, rfl, m_rf28 f12 _, ?_⟩
    rw [m_res, if_neg hk]
    exact m_bad28 r2 _
theorem m_name {st : px_S} {i o : Nat} (h : m_RS st t B sz i) (hs : m_sets o st F) : (∃ w, w < 6 ∧ (m_tk (m_lx B sz 0)) i = m_wc (w + 1) ∧ f_X6_name T st = some (F w, st)) ∨ ((∀ w, w < 6 → (m_tk (m_lx B sz 0)) i ≠ m_wc (w + 1)) ∧ ∃ s1, f_X6_name T st = some (0, s1) ∧ m_f48 m_rf st s1 ∧ m_bad s1 (m_pl (m_lx B sz 0) sz i)) := by
  rw [f_X6_name, m_eq_bind (m_isW_1 h)]
  by_cases h1 : (m_tk (m_lx B sz 0)) i = -1
  · rw [if_pos h1, if_neg (by decide)]; exact Or.inl ⟨0, by omega, h1, by rw [hs.2 0 (by omega)]⟩
  rw [if_neg h1, if_pos rfl, m_eq_bind (m_isW_2 h)]
  by_cases h2 : (m_tk (m_lx B sz 0)) i = -2
  · rw [if_pos h2, if_neg (by decide)]; exact Or.inl ⟨1, by omega, h2, by rw [hs.2 1 (by omega)]⟩
  rw [if_neg h2, if_pos rfl, m_eq_bind (m_isW_3 h)]
  by_cases h3 : (m_tk (m_lx B sz 0)) i = -3
  · rw [if_pos h3, if_neg (by decide)]; exact Or.inl ⟨2, by omega, h3, by rw [hs.2 2 (by omega)]⟩
  rw [if_neg h3, if_pos rfl, m_eq_bind (m_isW_4 h)]
  by_cases h4 : (m_tk (m_lx B sz 0)) i = -4
  · rw [if_pos h4, if_neg (by decide)]; exact Or.inl ⟨3, by omega, h4, by rw [hs.2 3 (by omega)]⟩
  rw [if_neg h4, if_pos rfl, m_eq_bind (m_isW_5 h)]
  by_cases h5 : (m_tk (m_lx B sz 0)) i = -5
  · rw [if_pos h5, if_neg (by decide)]; exact Or.inl ⟨4, by omega, h5, by rw [hs.2 4 (by omega)]⟩
  rw [if_neg h5, if_pos rfl, m_eq_bind (m_isW_6 h)]
  by_cases h6 : (m_tk (m_lx B sz 0)) i = -6
  · rw [if_pos h6, if_neg (by decide)]; exact Or.inl ⟨5, by omega, h6, by rw [hs.2 5 (by omega)]⟩
  rw [if_neg h6, if_pos rfl]
  obtain ⟨s1, e1, f1, b1⟩ := m_fail (T := T) h
  rw [m_eq_bind e1]
  refine Or.inr ⟨fun w hw => ?_, s1, rfl, m_mono2 f1, b1⟩
  rcases (show w = 0 ∨ w = 1 ∨ w = 2 ∨ w = 3 ∨ w = 4 ∨ w = 5 by omega) with rfl | rfl | rfl | rfl | rfl | rfl
  · exact h1
  · exact h2
  · exact h3
  · exact h4
  · exact h5
  · exact h6
theorem m_wstep : ∀ w, w < 6 → ¬ (m_wc (w + 1) < -6) ∧ (m_wc (w + 1) < 0) ∧ ((-1 : Int32) - m_wc (w + 1)).toNatClampNeg = w := by decide +kernel
theorem m_wkey : ∀ w, w < 13 → 7 ≤ w → m_wc w < -6 ∧ m_wc w ≠ -13 ∧ m_wc w ≠ -16 := by decide +kernel
theorem m_wname : ∀ w, w < 7 → 1 ≤ w → m_wc w ≠ -13 ∧ m_wc w ≠ -16 := by decide +kernel
theorem m_ratom {o : Nat} (ho : o ≤ 5) {ON OP : px_S → Option (Int32 × px_S)} (hN : m_ops T t B sz F ON o (-13) (fun d i => m_open (m_lvl (m_tk (m_lx B sz 0)) d) (-15) 5 o i)) (hP : m_ops T t B sz F OP o (-16) (fun d i => m_par (m_tk (m_lx B sz 0)) (m_lvl (m_tk (m_lx B sz 0)) d) o i)) : m_reads T t B sz F (g_atom T ON OP) 5 o := by
  intro d st i hd hrs hs
  obtain ⟨d, rfl⟩ : ∃ e, d = e + 1 := ⟨d - 1, by omega⟩
  rw [m_lvl5, g_atom, m_eq_bind (m_isS_45 hrs)]
  by_cases h13 : (m_tk (m_lx B sz 0)) i = -13
  · rw [if_pos h13, if_neg (by decide)]
    have em : m_one (m_tk (m_lx B sz 0)) (m_lvl (m_tk (m_lx B sz 0)) d) o i = m_open (m_lvl (m_tk (m_lx B sz 0)) d) (-15) 5 o i := by rw [m_one, if_pos (by rw [h13]; decide), if_pos h13]
    rw [em]
    exact hN d st i (by omega) hrs hs h13
  rw [if_neg h13, if_pos rfl, m_eq_bind (m_isS_40 hrs)]
  by_cases h16 : (m_tk (m_lx B sz 0)) i = -16
  · rw [if_pos h16, if_neg (by decide)]
    have em : m_one (m_tk (m_lx B sz 0)) (m_lvl (m_tk (m_lx B sz 0)) d) o i = m_par (m_tk (m_lx B sz 0)) (m_lvl (m_tk (m_lx B sz 0)) d) o i := by rw [m_one, if_pos (by rw [h16]; decide), if_neg h13, if_pos h16]; rfl
    rw [em]
    exact hP d st i (by omega) hrs hs h16
  rw [if_neg h16, if_pos rfl, if_pos hrs.2.1]
  have bad : (m_tk (m_lx B sz 0)) i < -6 → m_one (m_tk (m_lx B sz 0)) (m_lvl (m_tk (m_lx B sz 0)) d) o i = (false, [], i) := fun h => by rw [m_one, if_pos h, if_neg h13, if_neg h16]
  have good : ¬ (m_tk (m_lx B sz 0)) i < -6 → m_one (m_tk (m_lx B sz 0)) (m_lvl (m_tk (m_lx B sz 0)) d) o i = (true, [(m_tk (m_lx B sz 0)) i], i + 1) := fun h => by rw [m_one, if_neg h]
  have fl : ¬ (st 48 25 = 2) → ¬ (st 48 25 = 1) → (m_tk (m_lx B sz 0)) i < -6 → ∃ v st', (if st 48 25 = 2 then ((f_X6_next T st).bind fun b15 => (some ((st 48 27).toInt64.toInt32, b15))) else (g_aword T 0 st)) = some (v, st') ∧ m_f48 m_rf st st' ∧ m_res st' t B sz F o v [] (m_one (m_tk (m_lx B sz 0)) (m_lvl (m_tk (m_lx B sz 0)) d) o i) := by
    intro n2 n1 n6
    obtain ⟨s1, e1, f1, b1⟩ := m_fail (T := T) hrs
    rw [if_neg n2, g_aword, if_pos hrs.2.1, if_neg n1, g_afail, m_eq_bind e1, bad n6]
    exact ⟨_, _, rfl, m_mono2 f1, by rw [m_res, if_neg (by simp)]; exact b1⟩
  rcases (m_view (T := T) hrs).2.1 with ⟨a, b⟩ | ⟨a, _, b⟩ | ⟨a, v, hv, b, c⟩ | ⟨a, c, b⟩ | ⟨a, b⟩
  · exact fl (by rw [a]; decide) (by rw [a]; decide) (by rw [b]; decide)
  · rw [if_neg (by rw [a]; decide), g_aword, if_pos hrs.2.1, if_pos a]
    rcases m_name (T := T) hrs hs with ⟨w, hw, e, en⟩ | ⟨hn, s1, e1, f1, b1⟩
    · have hst := m_wstep w hw
      rw [m_eq_bind en]
      simp only [if_pos hrs.2.1]
      have h22 := m_wc23 (w + 1) (by omega) (by omega)
      obtain ⟨s2, e2, f2, r2⟩ := m_adv (T := T) hrs (by rw [e]; exact h22.2.1) (by rw [e]; exact h22.1)
      rw [m_eq_bind e2, good (by rw [e]; exact hst.1)]
      refine ⟨_, _, rfl, m_mono4 f2, ?_⟩
      rw [m_res, if_pos rfl]
      refine ⟨r2, by rw [f2.2 28 (by decide)]; exact hs.1, fun s => ?_⟩
      simp only [List.nil_append, m_ev, e]
      unfold m_step; rw [if_neg hst.1, if_pos hst.2.1, hst.2.2]
    · rw [m_eq_bind e1]
      simp only [b1.1, show ¬ ((1 : Int32) = 0) by decide, if_false]
      have n6 : (m_tk (m_lx B sz 0)) i < -6 := by
        rcases b with b | ⟨w, h1, h2, b⟩
        · rw [b]; decide
        · rcases Nat.lt_or_ge w 7 with hw | hw
          · exact absurd (by rw [b, show w - 1 + 1 = w by omega]) (hn (w - 1) (by omega))
          · rw [b]; exact (m_wkey w h2 hw).1
      rw [bad n6]
      exact ⟨_, _, rfl, f1, by rw [m_res, if_neg (by simp)]; exact b1⟩
  · rw [if_pos a]
    have nn : ¬ nI v < 0 := nI_pos (by omega)
    have n6 : ¬ nI v < -6 := fun h => nn (Int32.lt_trans h (by decide))
    obtain ⟨s2, e2, f2, r2⟩ := m_adv (T := T) hrs (by rw [b]; exact m_negv hv (by decide)) (by rw [b]; exact m_negv hv (by decide))
    rw [m_eq_bind e2, good (by rw [b]; exact n6)]
    refine ⟨_, _, rfl, m_mono4 f2, ?_⟩
    rw [m_res, if_pos rfl]
    refine ⟨r2, by rw [f2.2 28 (by decide)]; exact hs.1, fun s => ?_⟩
    have e64 : (st 48 27).toInt64.toInt32 = nI v := by rw [c]; simp
    simp only [List.nil_append, m_ev, b]
    unfold m_step; rw [if_neg n6, if_neg nn, e64]
  · refine fl (by rw [a]; decide) (by rw [a]; decide) ?_
    rw [b]
    exact (m_sgneg c).1
  · exact fl (by rw [a]; decide) (by rw [a]; decide) (by rw [b]; decide)
theorem m_rnot {o : Nat} (ho : o ≤ 5) {A O : px_S → Option (Int32 × px_S)} (hA : m_reads T t B sz F A 3 o) (hO : m_ops T t B sz F O o (-9) (fun d i => m_open (m_lvl (m_tk (m_lx B sz 0)) d) (-9) 2 o i)) : m_reads T t B sz F (g_not T A O) 2 o := by
  intro d st i hd hrs hs
  obtain ⟨d, rfl⟩ : ∃ e, d = e + 1 := ⟨d - 1, by omega⟩
  rw [m_lvl2, g_not, m_eq_bind (m_isW_9 hrs)]
  by_cases h9 : (m_tk (m_lx B sz 0)) i = -9
  · rw [if_pos h9, if_neg (by decide), if_pos h9]
    exact hO d st i (by omega) hrs hs h9
  rw [if_neg h9, if_pos rfl, if_neg h9]
  obtain ⟨w, s2, e2, f2, r2⟩ := hA d st i (by omega) hrs hs
  rw [m_eq_bind e2]
  by_cases hk : (m_lvl (m_tk (m_lx B sz 0)) d 3 o i).1
  · rw [m_res, if_pos hk] at r2
    obtain ⟨r2, o2, v2⟩ := r2
    have hs2 := m_sets_fr hs f2 o2
    rw [if_pos hk]
    by_cases hj : p_X2_levelOf ((m_tk (m_lx B sz 0)) (m_lvl (m_tk (m_lx B sz 0)) d 3 o i).2.2) = nI 2
    · have hc : (m_tk (m_lx B sz 0)) (m_lvl (m_tk (m_lx B sz 0)) d 3 o i).2.2 = -11 ∨ (m_tk (m_lx B sz 0)) (m_lvl (m_tk (m_lx B sz 0)) d 3 o i).2.2 = -10 := by
        rcases m_levs (l := 2) (by decide) hj with ⟨_, h⟩ | ⟨_, h⟩ | ⟨_, h⟩ | ⟨h, _⟩ | ⟨h, _⟩ | ⟨_, h⟩ | ⟨_, h⟩
        · omega
        · omega
        · omega
        · exact Or.inl h
        · exact Or.inr h
        · omega
        · omega
      have e3 : ((f_X6_isSign T s2 60).bind fun b10 => (if b10 = 0 then ((f_X6_isSign T s2 61).bind fun b12 => (if b12 = 0 then (some (w, s2)) else (g_cmp1 T A w s2))) else (g_cmp1 T A w s2))) = g_cmp1 T A w s2 := by
        rcases hc with hc | hc
        · rw [m_eq_bind (m_isS_60_n r2 (by rw [hc]; decide)), if_pos rfl, m_eq_bind (m_isS_61_y r2 hc), if_neg (by decide)]
        · rw [m_eq_bind (m_isS_60_y r2 hc), if_neg (by decide)]
      rw [e3]
      have hb := m_lev_bin (l := 2) (by decide) hj F
      obtain ⟨s3, e4, f3, r3⟩ := m_adv (T := T) r2 (hb 0 0 []).2.1 (hb 0 0 []).2.2
      have hs3 := m_sets_fr hs2 (m_mono4 f3) (by rw [f3.2 28 (by decide)]; exact o2)
      obtain ⟨w2, s4, e5, f4, r4⟩ := hA d s3 ((m_lvl (m_tk (m_lx B sz 0)) d 3 o i).2.2 + 1) (by omega) r3 hs3
      have ff := m_f48_tr f2 (m_f48_tr (m_mono4 f3) f4)
      have e6 : g_cmp1 T A w s2 = some (p_X4_join ((m_tk (m_lx B sz 0)) (m_lvl (m_tk (m_lx B sz 0)) d 3 o i).2.2) w w2, s4) := by
        rw [g_cmp1]
        rcases hc with hc | hc
        · rw [m_s27_61 r2 hc, if_neg (by decide), g_cmp2, m_eq_bind e4, m_eq_bind e5, if_pos rfl, hc]
          by_cases hx : w = w2
          · rw [if_pos hx]; simp [p_X4_join, hx]
          · rw [if_neg hx]; simp [p_X4_join, hx]
        · rw [m_s27_60 r2 hc, if_pos (by decide), g_cmp2, m_eq_bind e4, m_eq_bind e5, if_neg (by decide), hc]
          by_cases hx : w < w2
          · rw [if_pos hx]; simp [p_X4_join, hx]
          · rw [if_neg hx]; simp [p_X4_join, hx]
      rw [e6]
      refine ⟨_, _, rfl, ff, ?_⟩
      rw [m_loop1, if_pos hj]
      by_cases hq : (m_lvl (m_tk (m_lx B sz 0)) d 3 o ((m_lvl (m_tk (m_lx B sz 0)) d 3 o i).2.2 + 1)).1
      · rw [m_res, if_pos hq] at r4
        obtain ⟨r4, o4, v4⟩ := r4
        simp only [if_pos hq]
        rw [m_res, if_pos rfl]
        refine ⟨r4, o4, fun s => ?_⟩
        have q1 := v2 s
        have q2 := v4 (w :: s)
        simp only [List.nil_append] at q1 q2
        simp only [m_ev_app, List.nil_append, q1, q2]
        rw [m_ev, (hb w w2 s).1]; rfl
      · rw [m_res, if_neg hq] at r4
        simp only [if_neg hq]
        rw [m_res, if_neg (by simpa using hq)]
        exact r4
    · have e3 : ((f_X6_isSign T s2 60).bind fun b10 => (if b10 = 0 then ((f_X6_isSign T s2 61).bind fun b12 => (if b12 = 0 then (some (w, s2)) else (g_cmp1 T A w s2))) else (g_cmp1 T A w s2))) = some (w, s2) := by
        rw [m_eq_bind (m_isS_60_n r2 (fun h => hj (by rw [h]; decide))), if_pos rfl, m_eq_bind (m_isS_61_n r2 (fun h => hj (by rw [h]; decide))), if_pos rfl]
      rw [e3]
      refine ⟨_, _, rfl, f2, ?_⟩
      rw [m_loop1, if_neg hj, m_res]
      simp only [if_true, List.append_nil]
      exact ⟨r2, o2, v2⟩
  · rw [m_res, if_neg hk] at r2
    rw [if_neg hk, m_eq_bind (m_bad_isS r2.1 60), if_pos rfl, m_eq_bind (m_bad_isS r2.1 61), if_pos rfl]
    exact ⟨_, _, rfl, f2, by rw [m_res, if_neg hk]; exact r2⟩
end
