/-- the reference stands at the token i, without a fault -/
def m_RS (st : px_S) (t : Nat) (B : Nat → Int32) (sz i : Nat) : Prop :=
  m_rt st t B sz ∧ st 48 29 = 0 ∧ i ≤ (m_lx B sz 0).length ∧ ∃ p e, m_at6 st B sz p e ∧ ((p < sz ∧ e = m_beh B sz p ∧ (m_lx B sz 0).drop i = (m_tokc B p e, p) :: m_lx B sz e) ∨ ((m_lx B sz 0).drop i = [] ∧ p = sz))
theorem m_tk_cons {L : List (Int32 × Nat)} {i : Nat} {x : Int32 × Nat} {r : List (Int32 × Nat)} (sz : Nat) (h : L.drop i = x :: r) : m_tk L i = x.1 ∧ m_pl L sz i = x.2 ∧ L.drop (i + 1) = r ∧ i < L.length := by
  have h1 : L[i]? = some x := by rw [← List.head?_drop, h]; rfl
  have h2 : i < L.length := by
    rcases Nat.lt_or_ge i L.length with hl | hl
    · exact hl
    · rw [List.drop_eq_nil_of_le hl] at h; cases h
  refine ⟨by rw [m_tk, List.getD_eq_getElem?_getD, h1]; rfl, by rw [m_pl, List.getD_eq_getElem?_getD, h1]; rfl, ?_, h2⟩
  rw [← List.drop_drop, h]; rfl
theorem m_tk_nil {L : List (Int32 × Nat)} {i : Nat} (sz : Nat) (h : L.drop i = []) : m_tk L i = -22 ∧ m_pl L sz i = sz ∧ L.length ≤ i := by
  have := List.drop_eq_nil_iff.mp h
  exact ⟨m_tk_end L i this, m_pl_end this, this⟩
theorem m_sg {b : Int32} (h : p_X2_signOf b ≠ -23) : b = 40 ∨ b = 41 ∨ b = 59 ∨ b = 43 ∨ b = 45 ∨ b = 42 ∨ b = 60 ∨ b = 61 := by
  by_cases h40 : b = 40
  · exact Or.inl h40
  by_cases h41 : b = 41
  · exact Or.inr (Or.inl h41)
  by_cases h59 : b = 59
  · exact Or.inr (Or.inr (Or.inl h59))
  by_cases h43 : b = 43
  · exact Or.inr (Or.inr (Or.inr (Or.inl h43)))
  by_cases h45 : b = 45
  · exact Or.inr (Or.inr (Or.inr (Or.inr (Or.inl h45))))
  by_cases h42 : b = 42
  · exact Or.inr (Or.inr (Or.inr (Or.inr (Or.inr (Or.inl h42)))))
  by_cases h60 : b = 60
  · exact Or.inr (Or.inr (Or.inr (Or.inr (Or.inr (Or.inr (Or.inl h60))))))
  by_cases h61 : b = 61
  · exact Or.inr (Or.inr (Or.inr (Or.inr (Or.inr (Or.inr (Or.inr h61))))))
  exfalso
  apply h
  unfold p_X2_signOf
  rw [if_neg h40, if_neg h41, if_neg h42, if_neg h43, if_neg h45, if_neg h59, if_neg h60, if_neg h61]
  simp only [ite_self]
theorem m_sginj {b s : Int32} (hb : p_X2_signOf b ≠ -23) (hs : p_X2_signOf s ≠ -23) : p_X2_signOf b = p_X2_signOf s ↔ b = s := by
  rcases m_sg hb with rfl | rfl | rfl | rfl | rfl | rfl | rfl | rfl <;> rcases m_sg hs with rfl | rfl | rfl | rfl | rfl | rfl | rfl | rfl <;> decide
theorem m_sgw : ∀ w, w < 13 → 1 ≤ w → ∀ s ∈ [(40 : Int32), 41, 59, 43, 45, 42, 60, 61], m_wc w ≠ p_X2_signOf s := by decide +kernel
theorem m_sgneg {s : Int32} (hs : p_X2_signOf s ≠ -23) : p_X2_signOf s < -6 ∧ p_X2_signOf s ≠ -22 := by
  rcases m_sg hs with rfl | rfl | rfl | rfl | rfl | rfl | rfl | rfl <;> decide
theorem m_lg0 (x y : Int32) : lg_cmp x.toInt64 y.toInt64 = 0 ↔ x = y := by
  have he : x.toInt64 = y.toInt64 ↔ x = y := ⟨fun h => Int32.toInt_inj.mp (by rw [← Int32.toInt_toInt64, ← Int32.toInt_toInt64 y, h]), fun h => h ▸ rfl⟩
  unfold lg_cmp
  by_cases h1 : x.toInt64 > y.toInt64
  · rw [if_pos h1]
    constructor
    · intro h; exact absurd h (by decide)
    · intro h; rw [h] at h1; exact absurd h1 (by simp)
  · rw [if_neg h1]
    by_cases h2 : x.toInt64 = y.toInt64
    · rw [if_pos h2]; exact ⟨fun _ => he.mp h2, fun _ => rfl⟩
    · rw [if_neg h2]
      constructor
      · intro h; exact absurd h (by decide)
      · intro h; exact absurd (he.mpr h) h2
section
variable {T t : Nat} {B : Nat → Int32} {sz : Nat}
theorem m_view {st : px_S} {i : Nat} (h : m_RS st t B sz i) : st 48 26 = nI (m_pl (m_lx B sz 0) sz i) ∧
    ((st 48 25 = 0 ∧ m_tk (m_lx B sz 0) i = -22)
    ∨ (st 48 25 = 1 ∧ (∀ w, 1 ≤ w → w < 13 → f_X6_isWord T st (m_wch w 0) (m_wch w 1) (m_wch w 2) (m_wch w 3) (m_wch w 4) (m_wch w 5) (m_wch w 6) (m_wch w 7) = some (if m_tk (m_lx B sz 0) i = m_wc w then 1 else 0)) ∧ (m_tk (m_lx B sz 0) i = -23 ∨ ∃ w, 1 ≤ w ∧ w < 13 ∧ m_tk (m_lx B sz 0) i = m_wc w))
    ∨ (st 48 25 = 2 ∧ ∃ v, v < 10000 ∧ m_tk (m_lx B sz 0) i = nI v ∧ st 48 27 = nI v)
    ∨ (st 48 25 = 3 ∧ p_X2_signOf (st 48 27) ≠ -23 ∧ m_tk (m_lx B sz 0) i = p_X2_signOf (st 48 27))
    ∨ (st 48 25 = 4 ∧ m_tk (m_lx B sz 0) i = -23))
    ∧ (m_tk (m_lx B sz 0) i ≠ -22 → m_tk (m_lx B sz 0) i ≠ -23 → ∃ e, e ≤ sz ∧ st 48 24 = nI e ∧ (m_lx B sz 0).drop (i + 1) = m_lx B sz e) := by
  obtain ⟨hrt, hbad, hi, p, e, ⟨h26, hat⟩, hc⟩ := h
  rcases hc with ⟨hp, he, hd⟩ | ⟨hd, hp⟩
  · obtain ⟨k1, k2, k3, k4⟩ := m_tk_cons sz hd
    have hg : p < e := by rw [he]; exact m_beh_gt B sz p
    have hle : e ≤ sz := by rw [he]; exact m_beh_le B sz p hp
    simp only at k1 k2
    rw [if_pos hp] at hat
    refine ⟨by rw [k2]; exact h26, ?_⟩
    by_cases hL : p_X2_isLetter (B p) = 0
    · rw [if_pos hL] at hat
      by_cases hD : p_X2_isDigit (B p) = 0
      · rw [if_pos hD] at hat
        have tk : m_tk (m_lx B sz 0) i = p_X2_signOf (B p) := by rw [k1, m_tokc, if_pos hL, if_pos hD]
        by_cases hS : p_X2_signOf (B p) = -23
        · rw [if_pos hS] at hat
          exact ⟨Or.inr (Or.inr (Or.inr (Or.inr ⟨hat, tk.trans hS⟩))), fun _ h => absurd (tk.trans hS) h⟩
        · rw [if_neg hS] at hat
          exact ⟨Or.inr (Or.inr (Or.inr (Or.inl ⟨hat.2.1, by rw [hat.2.2]; exact hS, by rw [hat.2.2]; exact tk⟩))), fun _ _ => ⟨e, hle, hat.1, k3⟩⟩
      · rw [if_neg hD] at hat
        refine ⟨?_, fun _ _ => ⟨e, hle, hat.1, k3⟩⟩
        by_cases h4 : 4 < e - p
        · rw [if_pos h4] at hat
          exact Or.inr (Or.inr (Or.inr (Or.inr ⟨hat.2, by rw [k1, m_tokc, if_pos hL, if_neg hD, if_pos h4]⟩)))
        · rw [if_neg h4] at hat
          obtain ⟨v, hv, ev⟩ := m_num_val (B := B) (p := p) (e - p) (fun j hj => m_beh_digit (sz := sz) hL hD (by omega) (by omega))
          have hv4 : v < 10 ^ 4 := Nat.lt_of_lt_of_le hv (Nat.pow_le_pow_right (by omega) (by omega))
          exact Or.inr (Or.inr (Or.inl ⟨hat.2.1, v, by simpa using hv4, by rw [k1, m_tokc, if_pos hL, if_neg hD, if_neg h4, ev], by rw [hat.2.2, ev]⟩))
    · rw [if_neg hL] at hat
      have tk : m_tk (m_lx B sz 0) i = m_word B p e := by rw [k1, m_tokc, if_neg hL]
      refine ⟨Or.inr (Or.inl ⟨hat.2, fun w hw1 hw2 => ?_, ?_⟩), fun _ _ => ⟨e, hle, hat.1, k3⟩⟩
      · have := Classical.propDecidable (e ≤ p + 8 ∧ ∀ i, i < 8 → m_lt8 B p e i (m_wch w i))
        rw [m_isWord1 (T := T) hrt hbad hat.2 h26 hat.1 hle hp (m_wch w), tk]
        have k8 := m_w8 ⟨hw1, hw2⟩ hg (fun j h1 h2 => m_letter0 (m_beh_letter (sz := sz) hL h1 (by omega)))
        have ki := m_word_iff ⟨hw1, hw2⟩ B p e
        by_cases hx : m_word B p e = m_wc w
        · rw [if_pos hx, if_pos (k8.mpr (ki.mp hx))]
        · rw [if_neg hx, if_neg (fun g => hx (ki.mpr (k8.mp g)))]
      · rw [tk]
        rcases m_word_rng B p e with ⟨h1, _⟩ | ⟨w, h1, h2, _, h4⟩
        · exact Or.inl h1
        · exact Or.inr ⟨w, h1, h2, h4⟩
  · obtain ⟨k1, k2, k3⟩ := m_tk_nil sz hd
    subst hp
    rw [if_neg (by omega)] at hat
    exact ⟨by rw [k2]; exact h26, Or.inl ⟨hat, k1⟩, fun h _ => absurd k1 h⟩
theorem m_negv {v : Nat} (hv : v < 10000) {c : Int32} (hc : c < 0) : nI v ≠ c := by
  intro h; rw [← h] at hc; exact nI_pos (by omega) hc
theorem m_isW {st : px_S} {i : Nat} (h : m_RS st t B sz i) {w : Nat} (hw : 1 ≤ w) (hw2 : w < 13) : f_X6_isWord T st (m_wch w 0) (m_wch w 1) (m_wch w 2) (m_wch w 3) (m_wch w 4) (m_wch w 5) (m_wch w 6) (m_wch w 7) = some (if m_tk (m_lx B sz 0) i = m_wc w then 1 else 0) := by
  have no : ¬ st 48 25 = 1 → m_tk (m_lx B sz 0) i ≠ m_wc w → f_X6_isWord T st (m_wch w 0) (m_wch w 1) (m_wch w 2) (m_wch w 3) (m_wch w 4) (m_wch w 5) (m_wch w 6) (m_wch w 7) = some (if m_tk (m_lx B sz 0) i = m_wc w then 1 else 0) := fun h1 h2 => by
    rw [f_X6_isWord, if_pos h.2.1, if_neg h1, if_neg h2]
  have hwc := m_wc23 w hw2 hw
  rcases (m_view (T := T) h).2.1 with ⟨a, b⟩ | ⟨a, b, _⟩ | ⟨a, v, hv, b, _⟩ | ⟨a, c, b⟩ | ⟨a, b⟩
  · exact no (by rw [a]; decide) (by rw [b]; exact fun h => hwc.2.1 h.symm)
  · exact b w hw hw2
  · exact no (by rw [a]; decide) (by rw [b]; exact m_negv hv hwc.2.2)
  · refine no (by rw [a]; decide) ?_
    rw [b]
    exact fun h => m_sgw w hw2 hw _ (by rcases m_sg c with h | h | h | h | h | h | h | h <;> rw [h] <;> decide) h.symm
  · exact no (by rw [a]; decide) (by rw [b]; exact fun h => hwc.1 h.symm)
theorem m_isS {st : px_S} {i : Nat} (h : m_RS st t B sz i) {s : Int32} (hs : p_X2_signOf s ≠ -23) : f_X6_isSign T st s = some (if m_tk (m_lx B sz 0) i = p_X2_signOf s then 1 else 0) := by
  have no : ¬ st 48 25 = 3 → m_tk (m_lx B sz 0) i ≠ p_X2_signOf s → f_X6_isSign T st s = some (if m_tk (m_lx B sz 0) i = p_X2_signOf s then 1 else 0) := fun h1 h2 => by
    rw [f_X6_isSign, if_pos h.2.1, if_neg h1, if_neg h2]
  have hn := m_sgneg hs
  have hn0 : p_X2_signOf s < 0 := Int32.lt_trans hn.1 (by decide)
  rcases (m_view (T := T) h).2.1 with ⟨a, b⟩ | ⟨a, _, b⟩ | ⟨a, v, hv, b, _⟩ | ⟨a, c, b⟩ | ⟨a, b⟩
  · exact no (by rw [a]; decide) (by rw [b]; exact fun h => hn.2 h.symm)
  · refine no (by rw [a]; decide) ?_
    rcases b with b | ⟨w, h1, h2, b⟩
    · rw [b]; exact fun h => hs h.symm
    · rw [b]; exact m_sgw w h2 h1 _ (by rcases m_sg hs with h | h | h | h | h | h | h | h <;> rw [h] <;> decide)
  · exact no (by rw [a]; decide) (by rw [b]; exact m_negv hv hn0)
  · rw [f_X6_isSign, if_pos h.2.1, if_pos a, b]
    by_cases hx : st 48 27 = s
    · rw [if_pos ((m_lg0 _ _).mpr hx), if_pos ((m_sginj c hs).mpr hx)]
    · rw [if_neg (fun g => hx ((m_lg0 _ _).mp g)), if_neg (fun g => hx ((m_sginj c hs).mp g))]
  · exact no (by rw [a]; decide) (by rw [b]; exact fun h => hs h.symm)
theorem m_s27 {st : px_S} {i : Nat} (h : m_RS st t B sz i) {s : Int32} (hs : p_X2_signOf s ≠ -23) (he : m_tk (m_lx B sz 0) i = p_X2_signOf s) : st 48 27 = s := by
  have hn := m_sgneg hs
  have hn0 : p_X2_signOf s < 0 := Int32.lt_trans hn.1 (by decide)
  rcases (m_view (T := 0) h).2.1 with ⟨a, b⟩ | ⟨a, _, b⟩ | ⟨a, v, hv, b, _⟩ | ⟨a, c, b⟩ | ⟨a, b⟩
  · exact absurd (he.symm.trans b) hn.2
  · rcases b with b | ⟨w, h1, h2, b⟩
    · exact absurd (he.symm.trans b) hs
    · exact absurd (b.symm.trans he) (m_sgw w h2 h1 _ (by rcases m_sg hs with h | h | h | h | h | h | h | h <;> rw [h] <;> decide))
  · exact absurd (b.symm.trans he) (m_negv hv hn0)
  · exact (m_sginj c hs).mp (b.symm.trans he)
  · exact absurd (he.symm.trans b) hs
theorem m_at6_fr {st st' : px_S} {p e : Nat} (h : m_at6 st B sz p e) {l : List Nat} (k : m_f48 l st st') (hl : ∀ j ∈ [24, 25, 26, 27], j ∉ l) : m_at6 st' B sz p e := by
  unfold m_at6 at *
  rw [k.2 24 (hl 24 (by decide)), k.2 25 (hl 25 (by decide)), k.2 26 (hl 26 (by decide)), k.2 27 (hl 27 (by decide))]; exact h
theorem m_RS_fr {st st' : px_S} {i : Nat} (h : m_RS st t B sz i) {l : List Nat} (k : m_f48 l st st') (hl : ∀ j ∈ [22, 23, 24, 25, 26, 27, 29], j ∉ l) : m_RS st' t B sz i := by
  obtain ⟨h1, h2, h3, p, e, h4, h5⟩ := h
  exact ⟨m_rt_fr h1 k (hl 22 (by decide)) (hl 23 (by decide)), by rw [k.2 29 (hl 29 (by decide))]; exact h2, h3, p, e, m_at6_fr h4 k (fun j hj => hl j (by simp at hj ⊢; omega)), h5⟩
/-- from one token to the next -/
theorem m_adv {st : px_S} {i : Nat} (h : m_RS st t B sz i) (h22 : m_tk (m_lx B sz 0) i ≠ -22) (h23 : m_tk (m_lx B sz 0) i ≠ -23) : ∃ st', f_X6_next T st = some st' ∧ m_f48 [24, 25, 26, 27] st st' ∧ m_RS st' t B sz (i + 1) := by
  obtain ⟨e, he, h24, hd⟩ := (m_view (T := T) h).2.2 h22 h23
  have hi : i < (m_lx B sz 0).length := by
    rcases Nat.lt_or_ge i (m_lx B sz 0).length with hl | hl
    · exact hl
    · exact absurd (m_tk_end _ i hl) h22
  obtain ⟨st', e1, f, hc⟩ := m_next (T := T) h.1 he h24
  refine ⟨st', e1, f, m_rt_fr h.1 f (by decide) (by decide), by rw [f.2 29 (by decide)]; exact h.2.1, hi, ?_⟩
  rcases hc with ⟨a, b⟩ | ⟨p, a, b, c⟩
  · exact ⟨sz, sz, b, Or.inr ⟨hd.trans a, rfl⟩⟩
  · exact ⟨p, _, c, Or.inl ⟨a, rfl, hd.trans b⟩⟩
/-- the start of a reading -/
theorem m_start {st : px_S} (h : m_rt st t B sz) (h24 : st 48 24 = 0) (h29 : st 48 29 = 0) : ∃ st', f_X6_next T st = some st' ∧ m_f48 [24, 25, 26, 27] st st' ∧ m_RS st' t B sz 0 := by
  obtain ⟨st', e1, f, hc⟩ := m_next (T := T) (q := 0) h (Nat.zero_le _) h24
  refine ⟨st', e1, f, m_rt_fr h f (by decide) (by decide), by rw [f.2 29 (by decide)]; exact h29, Nat.zero_le _, ?_⟩
  rcases hc with ⟨a, b⟩ | ⟨p, a, b, c⟩
  · exact ⟨sz, sz, b, Or.inr ⟨a, rfl⟩⟩
  · exact ⟨p, _, c, Or.inl ⟨a, rfl, b⟩⟩
/-- a fault is set down -/
def m_bad (st : px_S) (p : Nat) : Prop := st 48 29 = 1 ∧ st 48 30 = nI p
theorem m_fail {st : px_S} {i : Nat} (h : m_RS st t B sz i) : ∃ st', f_X6_fail T st = some st' ∧ m_f48 [29, 30] st st' ∧ m_bad st' (m_pl (m_lx B sz 0) sz i) := by
  rw [f_X6_fail, if_pos h.2.1]
  exact ⟨_, rfl, m_f48_up (m_f48_up (m_f48_refl _ _) (by simp) _) (by simp) _, by simp [m_up], by simp [m_up, (m_view (T := T) h).1]⟩
theorem m_bad_fail {st : px_S} (h : st 48 29 = 1) : f_X6_fail T st = some st := by rw [f_X6_fail, h, if_neg (by decide)]
theorem m_bad_isS {st : px_S} (h : st 48 29 = 1) (s : Int32) : f_X6_isSign T st s = some 0 := by rw [f_X6_isSign, h, if_neg (by decide)]
theorem m_bad_isW {st : px_S} (h : st 48 29 = 1) (a b c d e f g k : Int32) : f_X6_isWord T st a b c d e f g k = some 0 := by rw [f_X6_isWord, h, if_neg (by decide)]
end
