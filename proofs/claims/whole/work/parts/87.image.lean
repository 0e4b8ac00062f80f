theorem m_img2 {T : Nat} {st : px_S} : ∃ z, f_X6_image_2 T 1000 0 st = f_X6_image_28 T 1000 0 z ∧ m_fr [63] st z ∧ ∀ j, j < 49 → z 63 j = st 54 j := by
  refine m_for (σ := px_S) (fun f i z => f_X6_image_2 T f (nI i) z) 49 (fun i z => m_fr [63] st z ∧ ∀ j, j < i → z 63 j = st 54 j) (fun r => ∃ z, r = f_X6_image_28 T 1000 0 z ∧ m_fr [63] st z ∧ ∀ j, j < 49 → z 63 j = st 54 j) ?_ ?_ 49 0 st 1000 (by omega) ⟨m_fr_refl _ _, fun j hj => by omega⟩ (by omega)
  · intro f i z hi hz
    obtain ⟨z1, z2⟩ := hz
    left
    have hin : px_in (nI i) 49 := m_px hi (by omega)
    rw [f_X6_image_2, if_pos (by rw [show (49 : Int32) = nI 49 from rfl]; exact nI_lt hi (by omega)), if_pos hin, if_pos hin, nI_clamp (by omega), nI_1]
    refine ⟨_, ⟨m_fr_up z1 (by simp) _ _, fun j hj => ?_⟩, rfl⟩
    rw [m_up, if_pos rfl]
    by_cases e : j = i
    · rw [if_pos e, z1 54 (by decide), e]
    · rw [if_neg e]; exact z2 j (by omega)
  · intro f z hz
    rw [f_X6_image_2, if_neg (by decide)]
    exact ⟨z, rfl, hz⟩
theorem m_img28 {T : Nat} {st : px_S} : ∃ z, f_X6_image_28 T 1000 0 st = some (z 48 11, up (up (up (up (up (up z 48 48 (z 48 11)) 48 49 (z 48 12)) 48 50 (z 48 13)) 48 51 (z 48 14)) 48 52 (z 48 15)) 48 53 (z 48 4)) ∧ m_fr [64, 65] st z ∧ (∀ j, j < 7 → z 64 j = st 55 j) ∧ ∀ j, j < 7 → z 65 j = st 53 j := by
  refine m_for (σ := px_S) (fun f i z => f_X6_image_28 T f (nI i) z) 7 (fun i z => m_fr [64, 65] st z ∧ (∀ j, j < i → z 64 j = st 55 j) ∧ ∀ j, j < i → z 65 j = st 53 j) (fun r => ∃ z, r = some (z 48 11, up (up (up (up (up (up z 48 48 (z 48 11)) 48 49 (z 48 12)) 48 50 (z 48 13)) 48 51 (z 48 14)) 48 52 (z 48 15)) 48 53 (z 48 4)) ∧ m_fr [64, 65] st z ∧ (∀ j, j < 7 → z 64 j = st 55 j) ∧ ∀ j, j < 7 → z 65 j = st 53 j) ?_ ?_ 7 0 st 1000 (by omega) ⟨m_fr_refl _ _, fun j hj => by omega, fun j hj => by omega⟩ (by omega)
  · intro f i z hi hz
    obtain ⟨z1, z2, z3⟩ := hz
    left
    have hin : px_in (nI i) 7 := m_px hi (by omega)
    rw [f_X6_image_28, if_pos (m_7 hi), if_pos hin, if_pos hin, if_pos hin, if_pos hin, nI_clamp (by omega), nI_1, m_up_row _ 64 _ _ (b := 53) (by decide)]
    refine ⟨_, ⟨m_fr_up (m_fr_up z1 (by simp) _ _) (by simp) _ _, fun j hj => ?_, fun j hj => ?_⟩, rfl⟩
    · rw [m_up_row _ _ _ _ (by decide), m_up, if_pos rfl]
      by_cases e : j = i
      · rw [if_pos e, z1 55 (by decide), e]
      · rw [if_neg e]; exact z2 j (by omega)
    · rw [m_up, if_pos rfl, m_up_row _ _ _ _ (by decide)]
      by_cases e : j = i
      · rw [if_pos e, z1 53 (by decide), e]
      · rw [if_neg e]; exact z3 j (by omega)
  · intro f z hz
    rw [f_X6_image_28, if_neg (by decide)]
    refine ⟨z, ?_, hz⟩
    simp [m_up]
theorem op_image {T : Nat} {st : px_S} (ag : px_ag) (hI : Inv T st) : ∃ T2 st2, px_op21 T st ag T2 st2 ∧ Inv T2 st2 := by
  obtain ⟨h1, h2, h3, h4, h5, h, ⟨hw, h9, hc, hr⟩, him⟩ := hI
  have hn := hw.1
  obtain ⟨b, eb, fb, cb⟩ := m_becomeC (T := T + 2) (a := 6) (b := 1) (by omega) hn hc
  obtain ⟨s1, es1⟩ : ∃ s1, s1 = up b 0 7 1 := ⟨_, rfl⟩
  have rb : ∀ a, ¬ (6 ≤ a ∧ a ≤ 10) → b a = st a := fun a ha => fb a (by simp; omega)
  have r1 : ∀ a, ¬ (6 ≤ a ∧ a ≤ 10) → a ≠ 0 → s1 a = st a := fun a ha h0 => by rw [es1, m_up_row _ _ _ _ h0, rb a ha]
  have c1 : f_X5_image (T + 2) st = some (nI (h 4 0), s1) := by
    rw [f_X5_image, m_eq_bind eb, rb 1 (by omega), hc.1, es1]
  obtain ⟨y, ey, fy, gy⟩ := m_img2 (T := T) (st := s1)
  obtain ⟨z, ez, fz, gz, gz2⟩ := m_img28 (T := T) (st := y)
  have rz : ∀ a, ¬ (6 ≤ a ∧ a ≤ 10) → a ≠ 0 → ¬ (63 ≤ a ∧ a ≤ 65) → z a = st a := fun a ha h0 hb => by
    rw [fz a (by simp; omega), fy a (by simp; omega), r1 a ha h0]
  have z48 : z 48 = st 48 := rz 48 (by omega) (by omega) (by omega)
  obtain ⟨l4, l5, l6, l7, l8, l9, lr, ll, lo⟩ := id hr
  obtain ⟨s2, es2⟩ : ∃ s2, s2 = up (up (up (up (up (up z 48 48 (nI (h 4 0))) 48 49 (nI (h 5 0))) 48 50 (nI (h 6 0))) 48 51 (nI (h 7 0))) 48 52 (nI (h 8 0))) 48 53 (nI (h 9 0)) := ⟨_, rfl⟩
  have c2 : f_X6_image T s1 = some (nI (h 4 0), s2) := by
    rw [f_X6_image, ey, ez, z48, l4, l5, l6, l7, l8, l9, es2]
  have row2 : ∀ a, a ≠ 48 → s2 a = z a := fun a ha => by
    rw [es2, m_up_row _ _ _ _ ha, m_up_row _ _ _ _ ha, m_up_row _ _ _ _ ha, m_up_row _ _ _ _ ha, m_up_row _ _ _ _ ha, m_up_row _ _ _ _ ha]
  have row : ∀ a, ¬ (6 ≤ a ∧ a ≤ 10) → a ≠ 0 → ¬ (63 ≤ a ∧ a ≤ 65) → a ≠ 48 → s2 a = st a := fun a ha h0 hb hc => by rw [row2 a hc, rz a ha h0 hb]
  have sl : ∀ j, ¬ (48 ≤ j ∧ j ≤ 53) → s2 48 j = st 48 j := fun j hj => by
    rw [es2, m_up, if_pos rfl, if_neg (by omega), m_up, if_pos rfl, if_neg (by omega), m_up, if_pos rfl, if_neg (by omega), m_up, if_pos rfl, if_neg (by omega), m_up, if_pos rfl, if_neg (by omega), m_up, if_pos rfl, if_neg (by omega), z48]
  have s0 : ∀ j, s2 0 j = if j = 7 then 1 else st 0 j := fun j => by
    rw [row2 0 (by omega), fz 0 (by decide), fy 0 (by decide), es1, m_up, if_pos rfl, rb 0 (by omega)]
  refine ⟨T, s2, ⟨rfl, _, s1, c1, c2⟩, h1, ⟨?_, fun j hj => ?_⟩, I_tx_fr h3 (by rw [s0, if_neg (by decide)]) (sl 3 (by omega)) (fun a ha => row a (by omega) (by omega) (by omega) (by omega)), I_tp_fr h4 (by rw [row 31 (by omega) (by omega) (by omega) (by omega)]) (sl 6 (by omega)) (fun a ha => row a (by omega) (by omega) (by omega) (by omega)), I_sh_fr h5 (fun a ha => row a (by omega) (by omega) (by omega) (by omega)), h, ⟨hw, h9, ?_, ?_⟩, Or.inr ⟨by rw [s0, if_pos rfl], h, hw, h9, ?_, ?_, Nat.le_refl _, fun _ _ => rfl⟩⟩
  · rw [row 11 (by omega) (by omega) (by omega) (by omega)]; exact h2.1
  · rw [row 36 (by omega) (by omega) (by omega) (by omega)]; exact h2.2 j hj
  · exact m_HC_eq hc (row _ (by omega) (by omega) (by omega) (by omega)) (row _ (by omega) (by omega) (by omega) (by omega)) (row _ (by omega) (by omega) (by omega) (by omega)) (row _ (by omega) (by omega) (by omega) (by omega)) (row _ (by omega) (by omega) (by omega) (by omega))
  · exact m_HR_eq hr (fun j hj => sl j (by omega)) (fun a ha => row a (by omega) (by omega) (by omega) (by omega))
  · have q : ∀ a, 6 ≤ a → a ≤ 10 → s2 a = b a := fun a ha hb => by
      rw [row2 a (by omega), fz a (by simp; omega), fy a (by simp; omega), es1, m_up_row _ _ _ _ (by omega)]
    exact m_HC_eq cb (q _ (by omega) (by omega)) (q _ (by omega) (by omega)) (q _ (by omega) (by omega)) (q _ (by omega) (by omega)) (q _ (by omega) (by omega))
  · have q55 : y 55 = st 55 := by rw [fy 55 (by decide), r1 55 (by omega) (by omega)]
    have q53 : y 53 = st 53 := by rw [fy 53 (by decide), r1 53 (by omega) (by omega)]
    have q54 : s1 54 = st 54 := r1 54 (by omega) (by omega)
    refine ⟨by rw [es2]; simp [m_up], by rw [es2]; simp [m_up], by rw [es2]; simp [m_up], by rw [es2]; simp [m_up], by rw [es2]; simp [m_up], by rw [es2]; simp [m_up], fun j hj => ?_, fun p q hp hq => ?_, fun j hj => ?_⟩
    · rw [row2 65 (by omega), gz2 j (by omega), q53]; exact (lr j hj).2
    · rw [row2 63 (by omega), fz 63 (by decide), gy _ (by omega), q54]; exact ll p q hp hq
    · rw [row2 64 (by omega), gz j (by omega), q55]; exact lo j hj
theorem m_bk13 {T : Nat} {st : px_S} : ∃ z, f_X6_back_13 T 1000 0 st = f_X6_back_39 T 1000 0 z ∧ m_fr [54] st z ∧ ∀ j, j < 49 → z 54 j = st 63 j := by
  refine m_for (σ := px_S) (fun f i z => f_X6_back_13 T f (nI i) z) 49 (fun i z => m_fr [54] st z ∧ ∀ j, j < i → z 54 j = st 63 j) (fun r => ∃ z, r = f_X6_back_39 T 1000 0 z ∧ m_fr [54] st z ∧ ∀ j, j < 49 → z 54 j = st 63 j) ?_ ?_ 49 0 st 1000 (by omega) ⟨m_fr_refl _ _, fun j hj => by omega⟩ (by omega)
  · intro f i z hi hz
    obtain ⟨z1, z2⟩ := hz
    left
    have hin : px_in (nI i) 49 := m_px hi (by omega)
    rw [f_X6_back_13, if_pos (by rw [show (49 : Int32) = nI 49 from rfl]; exact nI_lt hi (by omega)), if_pos hin, if_pos hin, nI_clamp (by omega), nI_1]
    refine ⟨_, ⟨m_fr_up z1 (by simp) _ _, fun j hj => ?_⟩, rfl⟩
    rw [m_up, if_pos rfl]
    by_cases e : j = i
    · rw [if_pos e, z1 63 (by decide), e]
    · rw [if_neg e]; exact z2 j (by omega)
  · intro f z hz
    rw [f_X6_back_13, if_neg (by decide)]
    exact ⟨z, rfl, hz⟩
theorem m_bk39 {T : Nat} {st : px_S} : ∃ z, f_X6_back_39 T 1000 0 st = some (z 48 48, up (up (up (up (up (up z 48 11 (z 48 48)) 48 12 (z 48 49)) 48 13 (z 48 50)) 48 14 (z 48 51)) 48 15 (z 48 52)) 48 4 (z 48 53)) ∧ m_fr [53, 55] st z ∧ (∀ j, j < 7 → z 55 j = st 64 j) ∧ ∀ j, j < 7 → z 53 j = st 65 j := by
  refine m_for (σ := px_S) (fun f i z => f_X6_back_39 T f (nI i) z) 7 (fun i z => m_fr [53, 55] st z ∧ (∀ j, j < i → z 55 j = st 64 j) ∧ ∀ j, j < i → z 53 j = st 65 j) (fun r => ∃ z, r = some (z 48 48, up (up (up (up (up (up z 48 11 (z 48 48)) 48 12 (z 48 49)) 48 13 (z 48 50)) 48 14 (z 48 51)) 48 15 (z 48 52)) 48 4 (z 48 53)) ∧ m_fr [53, 55] st z ∧ (∀ j, j < 7 → z 55 j = st 64 j) ∧ ∀ j, j < 7 → z 53 j = st 65 j) ?_ ?_ 7 0 st 1000 (by omega) ⟨m_fr_refl _ _, fun j hj => by omega, fun j hj => by omega⟩ (by omega)
  · intro f i z hi hz
    obtain ⟨z1, z2, z3⟩ := hz
    left
    have hin : px_in (nI i) 7 := m_px hi (by omega)
    rw [f_X6_back_39, if_pos (m_7 hi), if_pos hin, if_pos hin, if_pos hin, if_pos hin, nI_clamp (by omega), nI_1, m_up_row _ 55 _ _ (b := 65) (by decide)]
    refine ⟨_, ⟨m_fr_up (m_fr_up z1 (by simp) _ _) (by simp) _ _, fun j hj => ?_, fun j hj => ?_⟩, rfl⟩
    · rw [m_up_row _ _ _ _ (by decide), m_up, if_pos rfl]
      by_cases e : j = i
      · rw [if_pos e, z1 64 (by decide), e]
      · rw [if_neg e]; exact z2 j (by omega)
    · rw [m_up, if_pos rfl, m_up_row _ _ _ _ (by decide)]
      by_cases e : j = i
      · rw [if_pos e, z1 65 (by decide), e]
      · rw [if_neg e]; exact z3 j (by omega)
  · intro f z hz
    rw [f_X6_back_39, if_neg (by decide)]
    refine ⟨z, ?_, hz⟩
    simp [m_up]
theorem op_back {T : Nat} {st : px_S} (ag : px_ag) (hI : Inv T st) : ∃ T2 st2, px_op22 T st ag T2 st2 ∧ Inv T2 st2 := by
  have hI0 := hI
  obtain ⟨h1, h2, h3, h4, h5, h, ⟨hw, h9, hc, hr⟩, him⟩ := hI
  rcases id him with ⟨i1, i2⟩ | ⟨i1, g, gw, g9, gc, gk, gn, gj⟩
  · exact ⟨T, st, ⟨rfl, -3, st, by rw [f_X5_back, if_pos i1], by rw [f_X6_back, if_pos i2]⟩, hI0⟩
  have hn := gw.1
  have hn2 := hw.1
  obtain ⟨s1, eb, fb, cb⟩ := m_becomeC (T := T + 2) (a := 1) (b := 6) (by omega) hn gc
  have r1 : ∀ a, ¬ (1 ≤ a ∧ a ≤ 5) → s1 a = st a := fun a ha => fb a (by simp; omega)
  have c1 : f_X5_back (T + 2) st = some (nI (g 4 0), s1) := by
    rw [f_X5_back, if_neg (by rw [i1]; decide), m_eq_bind eb, cb.1]
  obtain ⟨y, ey, fy, gy⟩ := m_bk13 (T := T) (st := s1)
  obtain ⟨z, ez, fz, gz, gz2⟩ := m_bk39 (T := T) (st := y)
  have rz : ∀ a, ¬ (1 ≤ a ∧ a ≤ 5) → ¬ (53 ≤ a ∧ a ≤ 55) → z a = st a := fun a ha hb => by
    rw [fz a (by simp; omega), fy a (by simp; omega), r1 a ha]
  have z48 : z 48 = st 48 := rz 48 (by omega) (by omega)
  obtain ⟨l4, l5, l6, l7, l8, l9, lr, ll, lo⟩ := id gk
  obtain ⟨s2, es2⟩ : ∃ s2, s2 = up (up (up (up (up (up z 48 11 (nI (g 4 0))) 48 12 (nI (g 5 0))) 48 13 (nI (g 6 0))) 48 14 (nI (g 7 0))) 48 15 (nI (g 8 0))) 48 4 (nI (g 9 0)) := ⟨_, rfl⟩
  have c2 : f_X6_back T s1 = some (nI (g 4 0), s2) := by
    rw [f_X6_back, r1 48 (by omega), if_neg (by rw [l4]; exact m_n1 (by omega)), ey, ez, z48, l4, l5, l6, l7, l8, l9, es2]
  have row2 : ∀ a, a ≠ 48 → s2 a = z a := fun a ha => by
    rw [es2, m_up_row _ _ _ _ ha, m_up_row _ _ _ _ ha, m_up_row _ _ _ _ ha, m_up_row _ _ _ _ ha, m_up_row _ _ _ _ ha, m_up_row _ _ _ _ ha]
  have sl : ∀ j, ¬ (j = 4 ∨ 11 ≤ j ∧ j ≤ 15) → s2 48 j = st 48 j := fun j hj => by
    rw [es2, m_up, if_pos rfl, if_neg (by omega), m_up, if_pos rfl, if_neg (by omega), m_up, if_pos rfl, if_neg (by omega), m_up, if_pos rfl, if_neg (by omega), m_up, if_pos rfl, if_neg (by omega), m_up, if_pos rfl, if_neg (by omega), z48]
  have row : ∀ a, ¬ (1 ≤ a ∧ a ≤ 5) → ¬ (53 ≤ a ∧ a ≤ 55) → a ≠ 48 → s2 a = st a := fun a ha hb hc => by rw [row2 a hc, rz a ha hb]
  refine ⟨T, s2, ⟨rfl, _, s1, c1, c2⟩, h1, ⟨?_, fun j hj => ?_⟩, I_tx_fr h3 (by rw [row 0 (by omega) (by omega) (by omega)]) (sl 3 (by omega)) (fun a ha => row a (by omega) (by omega) (by omega)), I_tp_fr h4 (by rw [row 31 (by omega) (by omega) (by omega)]) (sl 6 (by omega)) (fun a ha => row a (by omega) (by omega) (by omega)), I_sh_fr h5 (fun a ha => row a (by omega) (by omega) (by omega)), g, ⟨gw, g9, ?_, ?_⟩, Or.inr ⟨by rw [row 0 (by omega) (by omega) (by omega)]; exact i1, g, gw, g9, ?_, ?_, Nat.le_refl _, fun _ _ => rfl⟩⟩
  · rw [row 11 (by omega) (by omega) (by omega)]; exact h2.1
  · rw [row 36 (by omega) (by omega) (by omega)]; exact h2.2 j hj
  · have q : ∀ a, 1 ≤ a → a ≤ 5 → s2 a = s1 a := fun a ha hb => by
      rw [row2 a (by omega), fz a (by simp; omega), fy a (by simp; omega)]
    exact m_HC_eq cb (q _ (by omega) (by omega)) (q _ (by omega) (by omega)) (q _ (by omega) (by omega)) (q _ (by omega) (by omega)) (q _ (by omega) (by omega))
  · have q64 : y 64 = st 64 := by rw [fy 64 (by decide), r1 64 (by omega)]
    have q65 : y 65 = st 65 := by rw [fy 65 (by decide), r1 65 (by omega)]
    have q63 : s1 63 = st 63 := r1 63 (by omega)
    refine ⟨by rw [es2]; simp [m_up], by rw [es2]; simp [m_up], by rw [es2]; simp [m_up], by rw [es2]; simp [m_up], by rw [es2]; simp [m_up], by rw [es2]; simp [m_up], fun j hj => ⟨?_, ?_⟩, fun p q hp hq => ?_, fun j hj => ?_⟩
    · rw [row 52 (by omega) (by omega) (by omega), gj j hj]; exact (hr.2.2.2.2.2.2.1 j (by omega)).1
    · rw [row2 53 (by omega), gz2 j (by omega), q65]; exact lr j hj
    · rw [row2 54 (by omega), fz 54 (by decide), gy _ (by omega), q63]; exact ll p q hp hq
    · rw [row2 55 (by omega), gz j (by omega), q64]; exact lo j hj
  · exact m_HC_eq gc (row _ (by omega) (by omega) (by omega)) (row _ (by omega) (by omega) (by omega)) (row _ (by omega) (by omega) (by omega)) (row _ (by omega) (by omega) (by omega)) (row _ (by omega) (by omega) (by omega))
  · exact m_HK_eq gk (fun j hj => sl j (by omega)) (fun a ha => row a (by omega) (by omega) (by omega))
