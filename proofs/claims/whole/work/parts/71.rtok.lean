def m_wc (w : Nat) : Int32 := [0, -1, -2, -3, -4, -5, -6, -7, -8, -9, -19, -20, -21].getD w 0
def m_wch (w i : Nat) : Int32 := if i < px_len.getD w 0 then px_ch w i else 0
theorem m_cmpf_iff (w : Nat) (B : Nat → Int32) (p : Nat) : ∀ k j, m_cmpf w B p k j = true ↔ ∀ i, j ≤ i → i < j + k → px_ch w i = B (p + i) := by
  intro k
  induction k with
  | zero => intro j; simp only [m_cmpf, true_iff]; intro i h1 h2; omega
  | succ k ih =>
    intro j
    rw [m_cmpf]
    by_cases h : px_ch w j = B (p + j)
    · rw [if_pos h, ih]
      constructor
      · intro g i h1 h2
        rcases Nat.eq_or_lt_of_le h1 with rfl | h3
        · exact h
        · exact g i h3 (by omega)
      · intro g i h1 h2; exact g i (by omega) (by omega)
    · rw [if_neg h]
      constructor
      · intro g; exact absurd g (by decide)
      · intro g; exact absurd (g j (Nat.le_refl _) (by omega)) h
theorem m_spl_iff (w : Nat) (B : Nat → Int32) (p e : Nat) : m_spl w B p e = true ↔ px_len.getD w 0 = e - p ∧ ∀ i, i < px_len.getD w 0 → px_ch w i = B (p + i) := by
  rw [m_spl]
  by_cases h : px_len.getD w 0 = e - p
  · rw [if_pos h, m_cmpf_iff]
    exact ⟨fun g => ⟨h, fun i hi => g i (Nat.zero_le _) (by omega)⟩, fun g i _ hi => g.2 i (by omega)⟩
  · rw [if_neg h]
    exact ⟨fun g => absurd g (by decide), fun g => absurd g.1 h⟩
theorem m_wdec : ∀ a, a < 13 → ∀ b, b < 13 → (1 ≤ a ∧ 1 ≤ b ∧ px_len.getD a 0 = px_len.getD b 0 ∧ px_ch a 0 = px_ch b 0) → a = b := by decide +kernel
theorem m_wlen : ∀ a, a < 13 → 1 ≤ a → 1 ≤ px_len.getD a 0 ∧ px_len.getD a 0 ≤ 7 := by decide +kernel
theorem m_wne : ∀ a, a < 13 → 1 ≤ a → ∀ i, i < 7 → i < px_len.getD a 0 → px_ch a i ≠ 0 := by decide +kernel
theorem m_spl_one {a b : Nat} {B : Nat → Int32} {p e : Nat} (ha : 1 ≤ a ∧ a < 13) (hb : 1 ≤ b ∧ b < 13) (h1 : m_spl a B p e = true) (h2 : m_spl b B p e = true) : a = b := by
  rw [m_spl_iff] at h1 h2
  have la := m_wlen a ha.2 ha.1
  exact m_wdec a ha.2 b hb.2 ⟨ha.1, hb.1, (h1.1.trans h2.1.symm), ((h1.2 0 (by omega)).trans (h2.2 0 (by have := m_wlen b hb.2 hb.1; omega)).symm)⟩
theorem m_word_rng (B : Nat → Int32) (p e : Nat) : (m_word B p e = -23 ∧ ∀ w, 1 ≤ w → w < 13 → m_spl w B p e = false) ∨ ∃ w, 1 ≤ w ∧ w < 13 ∧ m_spl w B p e = true ∧ m_word B p e = m_wc w := by
  unfold m_word
  by_cases h1 : m_spl 1 B p e = true
  · rw [if_pos h1]; exact Or.inr ⟨1, by decide, by decide, h1, rfl⟩
  by_cases h2 : m_spl 2 B p e = true
  · rw [if_neg h1, if_pos h2]; exact Or.inr ⟨2, by decide, by decide, h2, rfl⟩
  by_cases h3 : m_spl 3 B p e = true
  · rw [if_neg h1, if_neg h2, if_pos h3]; exact Or.inr ⟨3, by decide, by decide, h3, rfl⟩
  by_cases h4 : m_spl 4 B p e = true
  · rw [if_neg h1, if_neg h2, if_neg h3, if_pos h4]; exact Or.inr ⟨4, by decide, by decide, h4, rfl⟩
  by_cases h5 : m_spl 5 B p e = true
  · rw [if_neg h1, if_neg h2, if_neg h3, if_neg h4, if_pos h5]; exact Or.inr ⟨5, by decide, by decide, h5, rfl⟩
  by_cases h6 : m_spl 6 B p e = true
  · rw [if_neg h1, if_neg h2, if_neg h3, if_neg h4, if_neg h5, if_pos h6]; exact Or.inr ⟨6, by decide, by decide, h6, rfl⟩
  by_cases h7 : m_spl 7 B p e = true
  · rw [if_neg h1, if_neg h2, if_neg h3, if_neg h4, if_neg h5, if_neg h6, if_pos h7]; exact Or.inr ⟨7, by decide, by decide, h7, rfl⟩
  by_cases h8 : m_spl 8 B p e = true
  · rw [if_neg h1, if_neg h2, if_neg h3, if_neg h4, if_neg h5, if_neg h6, if_neg h7, if_pos h8]; exact Or.inr ⟨8, by decide, by decide, h8, rfl⟩
  by_cases h9 : m_spl 9 B p e = true
  · rw [if_neg h1, if_neg h2, if_neg h3, if_neg h4, if_neg h5, if_neg h6, if_neg h7, if_neg h8, if_pos h9]; exact Or.inr ⟨9, by decide, by decide, h9, rfl⟩
  by_cases h10 : m_spl 10 B p e = true
  · rw [if_neg h1, if_neg h2, if_neg h3, if_neg h4, if_neg h5, if_neg h6, if_neg h7, if_neg h8, if_neg h9, if_pos h10]; exact Or.inr ⟨10, by decide, by decide, h10, rfl⟩
  by_cases h11 : m_spl 11 B p e = true
  · rw [if_neg h1, if_neg h2, if_neg h3, if_neg h4, if_neg h5, if_neg h6, if_neg h7, if_neg h8, if_neg h9, if_neg h10, if_pos h11]; exact Or.inr ⟨11, by decide, by decide, h11, rfl⟩
  by_cases h12 : m_spl 12 B p e = true
  · rw [if_neg h1, if_neg h2, if_neg h3, if_neg h4, if_neg h5, if_neg h6, if_neg h7, if_neg h8, if_neg h9, if_neg h10, if_neg h11, if_pos h12]; exact Or.inr ⟨12, by decide, by decide, h12, rfl⟩
  rw [if_neg h1, if_neg h2, if_neg h3, if_neg h4, if_neg h5, if_neg h6, if_neg h7, if_neg h8, if_neg h9, if_neg h10, if_neg h11, if_neg h12]
  refine Or.inl ⟨rfl, fun w hw1 hw2 => ?_⟩
  rcases (show w = 1 ∨ w = 2 ∨ w = 3 ∨ w = 4 ∨ w = 5 ∨ w = 6 ∨ w = 7 ∨ w = 8 ∨ w = 9 ∨ w = 10 ∨ w = 11 ∨ w = 12 by omega) with rfl | rfl | rfl | rfl | rfl | rfl | rfl | rfl | rfl | rfl | rfl | rfl
  · exact Bool.eq_false_iff.mpr h1
  · exact Bool.eq_false_iff.mpr h2
  · exact Bool.eq_false_iff.mpr h3
  · exact Bool.eq_false_iff.mpr h4
  · exact Bool.eq_false_iff.mpr h5
  · exact Bool.eq_false_iff.mpr h6
  · exact Bool.eq_false_iff.mpr h7
  · exact Bool.eq_false_iff.mpr h8
  · exact Bool.eq_false_iff.mpr h9
  · exact Bool.eq_false_iff.mpr h10
  · exact Bool.eq_false_iff.mpr h11
  · exact Bool.eq_false_iff.mpr h12
theorem m_wcinj : ∀ a, a < 13 → ∀ b, b < 13 → (1 ≤ a ∧ 1 ≤ b ∧ m_wc a = m_wc b) → a = b := by decide +kernel
theorem m_wc23 : ∀ a, a < 13 → 1 ≤ a → m_wc a ≠ -23 ∧ m_wc a ≠ -22 ∧ m_wc a < 0 := by decide +kernel
theorem m_word_iff {w : Nat} (hw : 1 ≤ w ∧ w < 13) (B : Nat → Int32) (p e : Nat) : m_word B p e = m_wc w ↔ m_spl w B p e = true := by
  rcases m_word_rng B p e with ⟨h1, h2⟩ | ⟨a, h1, h2, h3, h4⟩
  · rw [h1, h2 w hw.1 hw.2]
    exact ⟨fun h => absurd h.symm (m_wc23 w hw.2 hw.1).1, fun h => absurd h (by decide)⟩
  · rw [h4]
    constructor
    · intro h; rw [← m_wcinj a h2 w hw.2 ⟨h1, hw.1, h⟩]; exact h3
    · intro h; rw [m_spl_one ⟨h1, h2⟩ hw h3 h]
def m_lt8 (B : Nat → Int32) (p e i : Nat) (x : Int32) : Prop := if p + i < e then B (p + i) = x else x = 0
theorem m_letter0 {b : Int32} (h : ¬ p_X2_isLetter b = 0) : b ≠ 0 := by
  intro h0; rw [h0] at h; exact h (by decide)
theorem m_run_all (f : Int32 → Int32) (B : Nat → Int32) (sz : Nat) : ∀ k p j, p ≤ j → j < m_run f B sz k p → ¬ f (B j) = 0 := by
  intro k
  induction k with
  | zero => intro p j h1 h2; rw [m_run] at h2; omega
  | succ k ih =>
    intro p j h1 h2
    rw [m_run] at h2
    by_cases hp : p < sz
    · rw [if_pos hp] at h2
      by_cases h0 : f (B p) = 0
      · rw [if_pos h0] at h2; omega
      · rw [if_neg h0] at h2
        rcases Nat.eq_or_lt_of_le h1 with rfl | h3
        · exact h0
        · exact ih (p + 1) j h3 h2
    · rw [if_neg hp] at h2; omega
theorem m_beh_letter {B : Nat → Int32} {sz p : Nat} (h : ¬ p_X2_isLetter (B p) = 0) {j : Nat} (h1 : p ≤ j) (h2 : j < m_beh B sz p) : ¬ p_X2_isLetter (B j) = 0 := by
  rw [m_beh, if_neg h] at h2
  rcases Nat.eq_or_lt_of_le h1 with rfl | h3
  · exact h
  · exact m_run_all _ B sz sz (p + 1) j h3 h2
theorem m_beh_digit {B : Nat → Int32} {sz p : Nat} (h : p_X2_isLetter (B p) = 0) (hd : ¬ p_X2_isDigit (B p) = 0) {j : Nat} (h1 : p ≤ j) (h2 : j < m_beh B sz p) : ¬ p_X2_isDigit (B j) = 0 := by
  rw [m_beh, if_pos h, if_neg hd] at h2
  rcases Nat.eq_or_lt_of_le h1 with rfl | h3
  · exact hd
  · exact m_run_all _ B sz sz (p + 1) j h3 h2
theorem m_w8 {w : Nat} (hw : 1 ≤ w ∧ w < 13) {B : Nat → Int32} {p e : Nat} (hpe : p < e) (hl : ∀ j, p ≤ j → j < e → B j ≠ 0) : (e ≤ p + 8 ∧ ∀ i, i < 8 → m_lt8 B p e i (m_wch w i)) ↔ m_spl w B p e = true := by
  rw [m_spl_iff]
  have hlen := m_wlen w hw.2 hw.1
  constructor
  · intro ⟨h1, h2⟩
    have e1 : px_len.getD w 0 = e - p := by
      rcases Nat.lt_trichotomy (px_len.getD w 0) (e - p) with h | h | h
      · have := h2 (px_len.getD w 0) (by omega)
        rw [m_lt8, if_pos (by omega), m_wch, if_neg (by omega)] at this
        exact absurd this (hl _ (by omega) (by omega))
      · exact h
      · have := h2 (e - p) (by omega)
        rw [m_lt8, if_neg (by omega), m_wch, if_pos h] at this
        exact absurd this (m_wne w hw.2 hw.1 _ (by omega) h)
    refine ⟨e1, fun i hi => ?_⟩
    have := h2 i (by omega)
    rw [m_lt8, if_pos (by omega), m_wch, if_pos hi] at this
    exact this.symm
  · intro ⟨h1, h2⟩
    refine ⟨by omega, fun i hi => ?_⟩
    rw [m_lt8, m_wch]
    by_cases h : p + i < e
    · rw [if_pos h, if_pos (by omega)]; exact (h2 i (by omega)).symm
    · rw [if_neg h, if_neg (by omega)]
section
variable {T t : Nat} {B : Nat → Int32} {sz : Nat}
theorem m_isLetter {st : px_S} (h : m_rt st t B sz) {p e : Nat} (h26 : st 48 26 = nI p) (h24 : st 48 24 = nI e) (he : e ≤ sz) (i : Nat) (hi : i < 8) (hp : p < sz) (x : Int32) [Decidable (m_lt8 B p e i x)] : f_X6_isLetter T st (nI i) x = some (if m_lt8 B p e i x then 1 else 0) := by
  have := h.2.2.2.2.1
  rw [f_X6_isLetter, h26, h24, nI_add]
  by_cases hl : p + i < e
  · rw [if_pos (nI_lt hl (by omega)), m_eq_bind (m_byteIn h (show p + i < sz by omega))]
    by_cases hx : B (p + i) = x
    · rw [if_pos hx, if_pos (by rw [m_lt8, if_pos hl]; exact hx)]
    · rw [if_neg hx, if_neg (by rw [m_lt8, if_pos hl]; exact hx)]
  · rw [if_neg (nI_nlt (by omega) (by omega))]
    by_cases hx : x = 0
    · rw [if_pos hx, if_pos (by rw [m_lt8, if_neg hl]; exact hx)]
    · rw [if_neg hx, if_neg (by rw [m_lt8, if_neg hl]; exact hx)]
theorem m_isWord1 {st : px_S} (h : m_rt st t B sz) (hb : st 48 29 = 0) (h25 : st 48 25 = 1) {p e : Nat} (h26 : st 48 26 = nI p) (h24 : st 48 24 = nI e) (he : e ≤ sz) (hp : p < sz) (c : Nat → Int32) [Decidable (e ≤ p + 8 ∧ ∀ i, i < 8 → m_lt8 B p e i (c i))] :
    f_X6_isWord T st (c 0) (c 1) (c 2) (c 3) (c 4) (c 5) (c 6) (c 7) = some (if e ≤ p + 8 ∧ ∀ i, i < 8 → m_lt8 B p e i (c i) then 1 else 0) := by
  have hsz := h.2.2.2.2.1
  have key : ∀ i x, i < 8 → (m_lt8 B p e i x → f_X6_isLetter T st (nI i) x = some 1) ∧ (¬ m_lt8 B p e i x → f_X6_isLetter T st (nI i) x = some 0) := fun i x hi => by
    have := Classical.propDecidable (m_lt8 B p e i x)
    have k := m_isLetter (T := T) h h26 h24 he i hi hp x
    exact ⟨fun g => by rw [k, if_pos g], fun g => by rw [k, if_neg g]⟩
  rw [f_X6_isWord, if_pos hb, if_pos h25, h26, h24, show (8 : Int32) = nI 8 from rfl, nI_add]
  by_cases h8 : e ≤ p + 8
  · rw [if_neg (nI_nlt h8 (by omega))]
    have no : ∀ i, i < 8 → ¬ m_lt8 B p e i (c i) → ¬ (e ≤ p + 8 ∧ ∀ i, i < 8 → m_lt8 B p e i (c i)) := fun i hi g k => g (k.2 i hi)
    by_cases g0 : m_lt8 B p e 0 (c 0)
    case neg =>
      rw [m_eq_bind (show f_X6_isLetter T st 0 (c 0) = some 0 from (key 0 _ (by omega)).2 g0), if_pos rfl, if_neg (no 0 (by omega) g0)]
    rw [m_eq_bind (show f_X6_isLetter T st 0 (c 0) = some 1 from (key 0 _ (by omega)).1 g0), if_neg (by decide)]
    by_cases g1 : m_lt8 B p e 1 (c 1)
    case neg =>
      rw [m_eq_bind (show f_X6_isLetter T st 1 (c 1) = some 0 from (key 1 _ (by omega)).2 g1), if_pos rfl, if_neg (no 1 (by omega) g1)]
    rw [m_eq_bind (show f_X6_isLetter T st 1 (c 1) = some 1 from (key 1 _ (by omega)).1 g1), if_neg (by decide)]
    by_cases g2 : m_lt8 B p e 2 (c 2)
    case neg =>
      rw [m_eq_bind (show f_X6_isLetter T st 2 (c 2) = some 0 from (key 2 _ (by omega)).2 g2), if_pos rfl, if_neg (no 2 (by omega) g2)]
    rw [m_eq_bind (show f_X6_isLetter T st 2 (c 2) = some 1 from (key 2 _ (by omega)).1 g2), if_neg (by decide)]
    by_cases g3 : m_lt8 B p e 3 (c 3)
    case neg =>
      rw [m_eq_bind (show f_X6_isLetter T st 3 (c 3) = some 0 from (key 3 _ (by omega)).2 g3), if_pos rfl, if_neg (no 3 (by omega) g3)]
    rw [m_eq_bind (show f_X6_isLetter T st 3 (c 3) = some 1 from (key 3 _ (by omega)).1 g3), if_neg (by decide)]
    by_cases g4 : m_lt8 B p e 4 (c 4)
    case neg =>
      rw [m_eq_bind (show f_X6_isLetter T st 4 (c 4) = some 0 from (key 4 _ (by omega)).2 g4), if_pos rfl, if_neg (no 4 (by omega) g4)]
    rw [m_eq_bind (show f_X6_isLetter T st 4 (c 4) = some 1 from (key 4 _ (by omega)).1 g4), if_neg (by decide)]
    by_cases g5 : m_lt8 B p e 5 (c 5)
    case neg =>
      rw [m_eq_bind (show f_X6_isLetter T st 5 (c 5) = some 0 from (key 5 _ (by omega)).2 g5), if_pos rfl, if_neg (no 5 (by omega) g5)]
    rw [m_eq_bind (show f_X6_isLetter T st 5 (c 5) = some 1 from (key 5 _ (by omega)).1 g5), if_neg (by decide)]
    by_cases g6 : m_lt8 B p e 6 (c 6)
    case neg =>
      rw [m_eq_bind (show f_X6_isLetter T st 6 (c 6) = some 0 from (key 6 _ (by omega)).2 g6), if_pos rfl, if_neg (no 6 (by omega) g6)]
    rw [m_eq_bind (show f_X6_isLetter T st 6 (c 6) = some 1 from (key 6 _ (by omega)).1 g6), if_neg (by decide)]
    by_cases g7 : m_lt8 B p e 7 (c 7)
    case neg =>
      rw [m_eq_bind (show f_X6_isLetter T st 7 (c 7) = some 0 from (key 7 _ (by omega)).2 g7), if_pos rfl, if_neg (no 7 (by omega) g7)]
    rw [m_eq_bind (show f_X6_isLetter T st 7 (c 7) = some 1 from (key 7 _ (by omega)).1 g7), if_neg (by decide)]
    rw [if_pos ⟨h8, fun i hi => by
      rcases (show i = 0 ∨ i = 1 ∨ i = 2 ∨ i = 3 ∨ i = 4 ∨ i = 5 ∨ i = 6 ∨ i = 7 by omega) with rfl | rfl | rfl | rfl | rfl | rfl | rfl | rfl
      · exact g0
      · exact g1
      · exact g2
      · exact g3
      · exact g4
      · exact g5
      · exact g6
      · exact g7⟩]
  · rw [if_pos (nI_lt (by omega) (by omega)), if_neg (fun k => h8 k.1)]
end
