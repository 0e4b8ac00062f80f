theorem m_inC {T a : Nat} {st : px_S} {h : px_H} (hw : m_HW h) (h4 : st a 4 = nI (h 4 0)) (h5 : st a 5 = nI (h 5 0)) {p : Nat} (hp : p < h 4 0) : f_X0_isIn T st a (nI p) = some (if (h 5 0).testBit p then 1 else 0) := by
  have hn := hw.1
  have hs7 : h 5 0 < 128 := Nat.lt_of_lt_of_le hw.2.1 (m_pow7 hn)
  have e : j_kn (h 4 0) (nI p) = 1 := by rw [j_kn, if_neg (nI_pos (by omega)), if_pos (nI_lt hp (by omega))]
  rw [f_X0_isIn, m_eq_bind (m_knC h4 (nI p)), e, if_neg (by decide), h5, b_has _ hs7 p (by omega)]
  by_cases hb : (h 5 0).testBit p = true
  · rw [if_neg (by rw [if_pos hb]; decide), if_pos hb]
  · rw [if_pos (by rw [if_neg hb]), if_neg hb]
theorem m_inC0 {T a : Nat} {st : px_S} {n : Nat} (h4 : st a 4 = nI n) {x : Int32} (hx : j_kn n x = 0) : f_X0_isIn T st a x = some 0 := by
  rw [f_X0_isIn, m_eq_bind (m_knC h4 x), if_pos hx]
theorem m_inR {T : Nat} {st : px_S} {h : px_H} (hw : m_HW h) (h4 : st 48 11 = nI (h 4 0)) (h5 : st 48 12 = nI (h 5 0)) {p : Nat} (hp : p < h 4 0) : f_X6_isIn T st (nI p) = some (if (h 5 0).testBit p then 1 else 0) := by
  have hn := hw.1
  have hs7 : h 5 0 < 128 := Nat.lt_of_lt_of_le hw.2.1 (m_pow7 hn)
  have e : j_kn (h 4 0) (nI p) = 1 := by rw [j_kn, if_neg (nI_pos (by omega)), if_pos (nI_lt hp (by omega))]
  rw [f_X6_isIn, m_eq_bind (m_knR hn h4 (nI p)), e, if_neg (by decide), h5, b_shr _ hs7 p (by omega)]
  by_cases hb : (h 5 0).testBit p = true
  · rw [if_pos (by rw [if_pos hb]), if_pos hb]
  · rw [if_neg (by rw [if_neg hb]; decide), if_neg hb]
theorem m_inR0 {T : Nat} {st : px_S} {n : Nat} (hn : n ≤ 7) (h4 : st 48 11 = nI n) {x : Int32} (hx : j_kn n x = 0) : f_X6_isIn T st x = some 0 := by
  rw [f_X6_isIn, m_eq_bind (m_knR hn h4 x), if_pos hx]
/-- the reference's inmate comes -/
theorem m_inm71 {T n : Nat} {st : px_S} (hn : n < 7) (h11 : st 48 11 = nI n) (s : Nat) (h12 : st 48 12 = nI s) (hs : s < 128) : ∃ z, f_X6_inmate_71 T 1000 0 st = some (nI n, up (up z 48 12 (nI (s ||| 2 ^ n))) 48 11 (nI (n + 1))) ∧ m_fr [54, 55] st z ∧ (∀ p q, p < 7 → q < 7 → z 54 (7 * p + q) = if p = n ∨ q = n then 5 else st 54 (7 * p + q)) ∧ ∀ j, j < 7 → z 55 j = st 55 j &&& (nI (2 ^ n) ^^^ (-1)) := by
  refine m_for (σ := px_S) (fun f i z => f_X6_inmate_71 T f (nI i) z) 7 (fun i z => m_fr [54, 55] st z ∧ (∀ p q, p < 7 → q < 7 → z 54 (7 * p + q) = if (p = n ∧ q < i) ∨ (q = n ∧ p < i) then 5 else st 54 (7 * p + q)) ∧ ∀ j, j < 7 → z 55 j = if j < i then st 55 j &&& (nI (2 ^ n) ^^^ (-1)) else st 55 j) (fun r => ∃ z, r = some (nI n, up (up z 48 12 (nI (s ||| 2 ^ n))) 48 11 (nI (n + 1))) ∧ m_fr [54, 55] st z ∧ (∀ p q, p < 7 → q < 7 → z 54 (7 * p + q) = if p = n ∨ q = n then 5 else st 54 (7 * p + q)) ∧ ∀ j, j < 7 → z 55 j = st 55 j &&& (nI (2 ^ n) ^^^ (-1))) ?_ ?_ 7 0 st 1000 (by omega) ⟨m_fr_refl _ _, fun p q hp hq => by rw [if_neg (by omega)], fun j hj => by rw [if_neg (by omega)]⟩ (by omega)
  · intro f i z hi hz
    obtain ⟨z1, z2, z3⟩ := hz
    left
    have e11 : z 48 11 = nI n := by rw [z1 48 (by decide)]; exact h11
    rw [f_X6_inmate_71, if_pos (m_7 hi), e11, m_ix, m_ix, if_pos (m_px (by omega) (by omega)), if_pos (m_px (by omega) (by omega)), if_pos (m_px hi (by omega)), if_pos (m_px hi (by omega)), nI_clamp (n := 7 * n + i) (by omega), nI_clamp (n := 7 * i + n) (by omega), nI_clamp (n := i) (by omega), b_sh1 n (by omega), nI_1]
    refine ⟨_, ⟨m_fr_up (m_fr_up (m_fr_up z1 (by simp) _ _) (by simp) _ _) (by simp) _ _, fun p q hp hq => ?_, fun j hj => ?_⟩, rfl⟩
    · rw [m_up_row _ _ _ _ (by decide), m_up, if_pos rfl, m_up, if_pos rfl, z2 p q hp hq]
      by_cases c1 : 7 * p + q = 7 * i + n
      · rw [if_pos c1, if_pos (by omega)]
      · rw [if_neg c1]
        by_cases c2 : 7 * p + q = 7 * n + i
        · rw [if_pos c2, if_pos (by omega)]
        · rw [if_neg c2]
          by_cases c3 : (p = n ∧ q < i) ∨ (q = n ∧ p < i)
          · rw [if_pos c3, if_pos (by omega)]
          · rw [if_neg c3, if_neg (by omega)]
    · rw [m_up, if_pos rfl, m_up_row _ _ _ _ (by decide), m_up_row _ _ _ _ (by decide), z3 j hj]
      by_cases c1 : j = i
      · subst c1
        have := z3 j hj
        rw [if_neg (by omega)] at this
        rw [if_pos rfl, this, if_pos (by omega)]
      · rw [if_neg c1]
        by_cases c2 : j < i
        · rw [if_pos c2, if_pos (by omega)]
        · rw [if_neg c2, if_neg (by omega)]
  · intro f z hz
    obtain ⟨z1, z2, z3⟩ := hz
    have e11 : z 48 11 = nI n := by rw [z1 48 (by decide)]; exact h11
    have e12 : z 48 12 = nI s := by rw [z1 48 (by decide)]; exact h12
    have hb : 2 ^ n < 128 := m_bit2 n hn
    rw [f_X6_inmate_71, if_neg (by decide), e11, e12, b_sh1 n (by omega), b_or s hs _ hb, nI_1, nI_pred]
    refine ⟨z, rfl, z1, fun p q hp hq => ?_, fun j hj => ?_⟩
    · rw [z2 p q hp hq]
      by_cases c : p = n ∨ q = n
      · rw [if_pos c, if_pos (by omega)]
      · rw [if_neg c, if_neg (by omega)]
    · rw [z3 j hj, if_pos hj]
theorem op_inmate {T : Nat} {st : px_S} (ag : px_ag) (hI : Inv T st) : ∃ T2 st2, px_op0 T st ag T2 st2 ∧ Inv T2 st2 := by
  have hI0 := hI
  obtain ⟨h1, h2, h3, h4, h5, h, ⟨hw, h9, hc, hr⟩, him⟩ := hI
  have hn := hw.1
  have bad : ∀ v, f_X5_inmate (T + 2) (ag 1) (ag 2) st = some (v, st) → f_X6_inmate T (ag 1) (ag 2) st = some (v, st) → ∃ T2 st2, px_op0 T st ag T2 st2 ∧ Inv T2 st2 := fun v e1 e2 => ⟨T, st, ⟨rfl, v, st, e1, e2⟩, hI0⟩
  have hi := m_i (ag 1) 0 5 (A := 0) (B := 5) rfl rfl
  have hi2 := m_i (ag 2) 0 9 (A := 0) (B := 9) rfl rfl
  by_cases q1 : ag 1 < 0
  · exact bad _ (by rw [f_X5_inmate, if_pos q1]) (by rw [f_X6_inmate, if_pos (hi.mpr (Or.inl q1))])
  by_cases q2 : 5 < ag 1
  · exact bad _ (by rw [f_X5_inmate, if_neg q1, if_neg (fun g => (m_lt6 _).mp g q2)]) (by rw [f_X6_inmate, if_pos (hi.mpr (Or.inr q2))])
  have q12 : ¬ p_X6_in (ag 1).toInt64 0 5 = 0 := fun g => (hi.mp g).elim q1 q2
  by_cases q3 : ag 2 < 0
  · exact bad _ (by rw [f_X5_inmate, if_neg q1, if_pos ((m_lt6 _).mpr q2), if_pos q3]) (by rw [f_X6_inmate, if_neg q12, if_pos (hi2.mpr (Or.inl q3))])
  by_cases q4 : 9 < ag 2
  · exact bad _ (by rw [f_X5_inmate, if_neg q1, if_pos ((m_lt6 _).mpr q2), if_neg q3, if_pos q4]) (by rw [f_X6_inmate, if_neg q12, if_pos (hi2.mpr (Or.inr q4))])
  have q34 : ¬ p_X6_in (ag 2).toInt64 0 9 = 0 := fun g => (hi2.mp g).elim q3 q4
  by_cases q5 : h 4 0 = 7
  · exact bad _ (by rw [f_X5_inmate, if_neg q1, if_pos ((m_lt6 _).mpr q2), if_neg q3, if_neg q4, hc.1, q5, if_neg (by decide)]) (by rw [f_X6_inmate, if_neg q12, if_neg q34, hr.1, q5, if_pos (by decide)])
  obtain ⟨k, hk, ek⟩ := m_rng' (n := 5) (by omega) q1 q2
  obtain ⟨x, hx, ex⟩ := m_rng' (n := 9) (by omega) q3 q4
  have hn7 : h 4 0 < 7 := by omega
  have hs7 : h 5 0 < 128 := Nat.lt_of_lt_of_le hw.2.1 (m_pow7 hn)
  have hin : px_in (nI (h 4 0)) 7 := m_px hn7 (by omega)
  obtain ⟨k4, k5, k6, k7, k8, k9, kr, kl, ko⟩ := hc
  obtain ⟨l4, l5, l6, l7, l8, l9, lr, ll, lo⟩ := hr
  obtain ⟨s1, es1⟩ : ∃ s1, s1 = up (up (up (up st 1 4 (nI (h 4 0 + 1))) 2 (h 4 0) (nI k)) 3 (h 4 0) (nI x)) 1 5 (nI (h 5 0 ||| 2 ^ h 4 0)) := ⟨_, rfl⟩
  have c1 : f_X5_inmate (T + 2) (ag 1) (ag 2) st = some (nI (h 4 0), s1) := by
    rw [f_X5_inmate, if_neg q1, if_pos ((m_lt6 _).mpr q2), if_neg q3, if_neg q4, k4, if_pos (m_7 hn7), f_X0_welcome, m_let, k4, if_pos hin, m_let, if_pos hin, m_let, m_let, Option.bind_some, nI_clamp (by omega), nI_1, ek, ex, b_bit _ (by omega)]
    have e5 : up (up (up st 1 4 (nI (h 4 0 + 1))) (1 + 1) (h 4 0) (nI k)) (1 + 2) (h 4 0) (nI x) 1 5 = nI (h 5 0) := by simp [m_up, k5]
    rw [e5, b_or _ hs7 _ (m_bit2 _ hn7), es1]
  have row1 : ∀ a, ¬ (1 ≤ a ∧ a ≤ 3) → s1 a = st a := fun a ha => by
    rw [es1, m_up_row _ _ _ _ (by omega), m_up_row _ _ _ _ (by omega), m_up_row _ _ _ _ (by omega), m_up_row _ _ _ _ (by omega)]
  have r48 : s1 48 = st 48 := row1 48 (by omega)
  obtain ⟨s0, es0⟩ : ∃ s0, s0 = up (up (up s1 52 (h 4 0) (nI k)) 53 (h 4 0) (nI x)) 55 (h 4 0) 0 := ⟨_, rfl⟩
  have row0 : ∀ a, a ≠ 52 → a ≠ 53 → a ≠ 55 → s0 a = s1 a := fun a ha hb hc => by
    rw [es0, m_up_row _ _ _ _ hc, m_up_row _ _ _ _ hb, m_up_row _ _ _ _ ha]
  have r048 : s0 48 = st 48 := by rw [row0 48 (by omega) (by omega) (by omega), r48]
  obtain ⟨z, ez, fz, gz, oz⟩ := m_inm71 (T := T) (st := s0) hn7 (by rw [r048]; exact l4) (h 5 0) (by rw [r048]; exact l5) hs7
  have c2 : f_X6_inmate T (ag 1) (ag 2) s1 = some (nI (h 4 0), up (up z 48 12 (nI (h 5 0 ||| 2 ^ h 4 0))) 48 11 (nI (h 4 0 + 1))) := by
    rw [f_X6_inmate, if_neg q12, if_neg q34, r48, l4, if_neg (by rw [show (7 : Int32) = nI 7 from rfl, nI_eq (by omega) (by omega)]; exact q5), if_pos hin, if_pos hin, if_pos hin, nI_clamp (by omega), ek, ex, ← es0]
    exact ez
  obtain ⟨s2, es2⟩ : ∃ s2, s2 = up (up z 48 12 (nI (h 5 0 ||| 2 ^ h 4 0))) 48 11 (nI (h 4 0 + 1)) := ⟨_, rfl⟩
  rw [← es2] at c2
  have row2 : ∀ a, a ≠ 48 → s2 a = z a := fun a ha => by rw [es2, m_up_row _ _ _ _ ha, m_up_row _ _ _ _ ha]
  have rowz : ∀ a, a ≠ 54 → a ≠ 55 → z a = s0 a := fun a ha hb => fz a (by simp; omega)
  have row : ∀ a, ¬ (1 ≤ a ∧ a ≤ 3) → a ≠ 48 → ¬ (52 ≤ a ∧ a ≤ 55) → s2 a = st a := fun a ha hb hc => by
    rw [row2 a hb, rowz a (by omega) (by omega), row0 a (by omega) (by omega) (by omega), row1 a ha]
  have sl : ∀ j, s2 48 j = if j = 11 then nI (h 4 0 + 1) else if j = 12 then nI (h 5 0 ||| 2 ^ h 4 0) else st 48 j := fun j => by
    rw [es2, m_up, if_pos rfl, m_up, if_pos rfl, rowz 48 (by omega) (by omega), r048]
  have rc : ∀ a, 1 ≤ a → a ≤ 5 → s2 a = s1 a := fun a ha hb => by rw [row2 a (by omega), rowz a (by omega) (by omega), row0 a (by omega) (by omega) (by omega)]
  obtain ⟨h', eh⟩ : ∃ h' : px_H, h' = fun a y => if a = 4 ∧ y = 0 then h 4 0 + 1 else if a = 5 ∧ y = 0 then h 5 0 ||| 2 ^ h 4 0 else if a = 0 ∧ y = h 4 0 then k else if a = 1 ∧ y = h 4 0 then x else h a y := ⟨_, rfl⟩
  have n4 : h' 4 0 = h 4 0 + 1 := by rw [eh]; simp
  have n5 : h' 5 0 = h 5 0 ||| 2 ^ h 4 0 := by rw [eh]; simp
  have n0 : ∀ j, h' 0 j = if j = h 4 0 then k else h 0 j := fun j => by rw [eh]; simp
  have n1 : ∀ j, h' 1 j = if j = h 4 0 then x else h 1 j := fun j => by rw [eh]; simp
  have n2 : h' 2 = h 2 := by rw [eh]; funext y; simp
  have n3 : h' 3 = h 3 := by rw [eh]; funext y; simp
  have n6 : h' 6 0 = h 6 0 := by rw [eh]; simp
  have n7 : h' 7 0 = h 7 0 := by rw [eh]; simp
  have n8 : h' 8 0 = h 8 0 := by rw [eh]; simp
  have n9 : h' 9 0 = h 9 0 := by rw [eh]; simp
  have hp1 : 2 ^ h 4 0 < 2 ^ (h 4 0 + 1) := Nat.pow_lt_pow_right (by omega) (by omega)
  refine ⟨T, s2, ⟨rfl, _, s1, c1, c2⟩, Inv_ho (h := h) (h' := h') hI0 him (fun a ha => ?_) (fun j hj => ?_) ⟨?_, by rw [n9]; exact h9, ?_, ?_⟩ (by omega) (fun j hj => by rw [n0, if_neg (by omega)])⟩
  · simp only [List.mem_cons, List.not_mem_nil, or_false, not_or] at ha
    exact row a (by omega) (by omega) (by omega)
  · rw [sl, if_neg (by omega), if_neg (by omega)]
  · obtain ⟨w1, w2, w3, w4, w5, w6, w7, w8, w9, w10⟩ := hw
    unfold m_HW
    rw [n4, n5, n2, n3, n6, n7, n8]
    refine ⟨by omega, Nat.or_lt_two_pow (Nat.lt_trans w2 hp1) hp1, w3, w4, w5, fun j hj => ?_, fun p q hp hq => ⟨(w7 p q hp hq).1, fun g => (w7 p q hp hq).2 (by omega)⟩, fun j hj => ⟨Nat.lt_trans (w8 j hj).1 hp1, fun g => (w8 j hj).2 (by omega)⟩, w9, w10⟩
    rw [n0, n1]
    by_cases e : j = h 4 0
    · rw [if_pos e, if_pos e]; omega
    · rw [if_neg e, if_neg e]; exact w6 j (by omega)
  · have r1 : ∀ j, s1 1 j = if j = 5 then nI (h 5 0 ||| 2 ^ h 4 0) else if j = 4 then nI (h 4 0 + 1) else st 1 j := fun j => by
      rw [es1, m_up, if_pos rfl, m_up_row _ _ _ _ (by decide), m_up_row _ _ _ _ (by decide), m_up, if_pos rfl]
    have r2 : ∀ j, s1 (1 + 1) j = if j = h 4 0 then nI k else st 2 j := fun j => by
      rw [es1, m_up_row _ _ _ _ (by decide), m_up_row _ _ _ _ (by decide), m_up, if_pos rfl, m_up_row _ _ _ _ (by decide)]
    have r3 : ∀ j, s1 (1 + 2) j = if j = h 4 0 then nI x else st 3 j := fun j => by
      rw [es1, m_up_row _ _ _ _ (by decide), m_up, if_pos rfl, m_up_row _ _ _ _ (by decide), m_up_row _ _ _ _ (by decide)]
    unfold m_HC
    rw [n4, n5, n2, n3, n6, n7, n8, n9, rc 1 (by omega) (by omega), rc (1 + 1) (by omega) (by omega), rc (1 + 2) (by omega) (by omega), rc (1 + 3) (by omega) (by omega), rc (1 + 4) (by omega) (by omega), row1 (1 + 3) (by omega), row1 (1 + 4) (by omega)]
    refine ⟨by rw [r1, if_neg (by decide), if_pos rfl], by rw [r1, if_pos rfl], by rw [r1, if_neg (by decide), if_neg (by decide)]; exact k6, by rw [r1, if_neg (by decide), if_neg (by decide)]; exact k7, by rw [r1, if_neg (by decide), if_neg (by decide)]; exact k8, by rw [r1, if_neg (by decide), if_neg (by decide)]; exact k9, fun j hj => ?_, kl, ko⟩
    rw [r2, r3, n0, n1]
    by_cases e : j = h 4 0
    · rw [if_pos e, if_pos e, if_pos e, if_pos e]; exact ⟨rfl, rfl⟩
    · rw [if_neg e, if_neg e, if_neg e, if_neg e]; exact kr j (by omega)
  · have q52 : ∀ j, s2 52 j = if j = h 4 0 then nI k else st 52 j := fun j => by
      rw [row2 52 (by omega), rowz 52 (by omega) (by omega), es0, m_up_row _ _ _ _ (by decide), m_up_row _ _ _ _ (by decide), m_up, if_pos rfl, row1 52 (by omega)]
    have q53 : ∀ j, s2 53 j = if j = h 4 0 then nI x else st 53 j := fun j => by
      rw [row2 53 (by omega), rowz 53 (by omega) (by omega), es0, m_up_row _ _ _ _ (by decide), m_up, if_pos rfl, m_up_row _ _ _ _ (by decide), row1 53 (by omega)]
    unfold m_HR
    rw [n4, n5, n2, n3, n6, n7, n8, n9, sl, sl, sl, sl, sl, sl]
    refine ⟨by rw [if_pos rfl], by rw [if_neg (by decide), if_pos rfl], by rw [if_neg (by decide), if_neg (by decide)]; exact l6, by rw [if_neg (by decide), if_neg (by decide)]; exact l7, by rw [if_neg (by decide), if_neg (by decide)]; exact l8, by rw [if_neg (by decide), if_neg (by decide)]; exact l9, fun j hj => ?_, fun p q hp hq => ?_, fun j hj => ?_⟩
    · rw [q52, q53, n0, n1]
      by_cases e : j = h 4 0
      · rw [if_pos e, if_pos e, if_pos e, if_pos e]; exact ⟨rfl, rfl⟩
      · rw [if_neg e, if_neg e, if_neg e, if_neg e]; exact lr j (by omega)
    · rw [row2 54 (by omega), gz p q (by omega) (by omega)]
      by_cases e : p = h 4 0 ∨ q = h 4 0
      · rw [if_pos e, (hw.2.2.2.2.2.2.1 p q (by omega) (by omega)).2 (by omega)]; rfl
      · rw [if_neg e, row0 54 (by omega) (by omega) (by omega), row1 54 (by omega)]; exact ll p q (by omega) (by omega)
    · rw [row2 55 (by omega), oz j (by omega)]
      have w8 := hw.2.2.2.2.2.2.2.1 j (by omega)
      have o55 : s0 55 j = nI (h 3 j) := by
        rw [es0, m_up, if_pos rfl, m_up_row _ _ _ _ (by decide), m_up_row _ _ _ _ (by decide), row1 55 (by omega)]
        by_cases e : j = h 4 0
        · rw [if_pos e, w8.2 (by omega)]; rfl
        · rw [if_neg e]; exact lo j (by omega)
      rw [o55, b_dif _ (m_o128 hw j (by omega)) _ (m_bit2 _ hn7)]
      congr 1
      refine m_ext7 (m_dif_lt (m_o128 hw j (by omega))) (m_o128 hw j (by omega)) (fun i hi => ?_)
      rw [m_dq hi]
      by_cases e : i = h 4 0
      · rw [m_lt_bit w8.1 (by omega)]; simp
      · simp [e]
