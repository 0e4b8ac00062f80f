theorem m_HW_set {h : px_H} (hw : m_HW h) (i v : Nat) (hi : 5 ≤ i ∧ i ≤ 9) (hv : (i = 5 → v < 2 ^ h 4 0) ∧ (i = 6 → v ≤ 9999) ∧ (i = 7 → 2 ≤ v ∧ v ≤ 5) ∧ (i = 8 → v ≤ 999)) : m_HW (hu h i 0 v) := by
  have n4 : (hu h i 0 v) 4 0 = h 4 0 := by unfold hu; rw [if_neg (by omega)]
  have n0 : (hu h i 0 v) 0 = h 0 := by funext y; unfold hu; rw [if_neg (by omega)]
  have n1 : (hu h i 0 v) 1 = h 1 := by funext y; unfold hu; rw [if_neg (by omega)]
  have n2 : (hu h i 0 v) 2 = h 2 := by funext y; unfold hu; rw [if_neg (by omega)]
  have n3 : (hu h i 0 v) 3 = h 3 := by funext y; unfold hu; rw [if_neg (by omega)]
  have nx : ∀ x, (hu h i 0 v) x 0 = if x = i then v else h x 0 := fun x => by
    unfold hu
    by_cases e : x = i
    · rw [if_pos e, if_pos rfl, if_pos e]
    · rw [if_neg e, if_neg e]
  obtain ⟨w1, w2, w3, w4, w5, w6, w7, w8, w9, w10⟩ := hw
  unfold m_HW
  rw [n4, n0, n1, n2, n3, nx, nx, nx, nx]
  refine ⟨w1, ?_, ?_, ?_, ?_, w6, w7, w8, w9, w10⟩
  · by_cases e : 5 = i
    · rw [if_pos e]; exact hv.1 e.symm
    · rw [if_neg e]; exact w2
  · by_cases e : 6 = i
    · rw [if_pos e]; exact hv.2.1 e.symm
    · rw [if_neg e]; exact w3
  · by_cases e : 7 = i
    · rw [if_pos e]; exact hv.2.2.1 e.symm
    · rw [if_neg e]; exact w4
  · by_cases e : 8 = i
    · rw [if_pos e]; exact hv.2.2.2 e.symm
    · rw [if_neg e]; exact w5
theorem m_hu9 {h : px_H} {i v T : Nat} (hi : 5 ≤ i ∧ i ≤ 8) (h9 : h 9 0 ≤ T) : (hu h i 0 v) 9 0 ≤ T := by
  unfold hu; rw [if_neg (by omega)]; exact h9
theorem c_in1 : ∀ s, s < 128 → ∀ p, p < 7 → ∀ b : Bool, ((nI s &&& (((1 : Int32) <<< (nI p &&& 31)) ^^^ (-1))) ||| ((if b then (1 : Int32) else 0) <<< (nI p &&& 31))) = nI (j_b1 s p b) := fun s hs p hp b => (c_b1 s hs p hp b).2.2
theorem j_b1_lt {a q n : Nat} (hn : n ≤ 7) (ha : a < 2 ^ n) (hq : q < n) (b : Bool) : j_b1 a q b < 2 ^ n := by
  unfold j_b1
  cases b with
  | true => rw [if_pos rfl]; exact Nat.or_lt_two_pow ha (Nat.pow_lt_pow_right (by omega) hq)
  | false => rw [if_neg (by decide)]; exact m_dif_lt' ha
theorem op_set {T : Nat} {st : px_S} (ag : px_ag) (hI : Inv T st) : ∃ T2 st2, px_op3 T st ag T2 st2 ∧ Inv T2 st2 := by
  have hI0 := hI
  obtain ⟨h1, h2, h3, h4, h5, h, ⟨hw, h9, hc, hr⟩, him⟩ := hI
  have hn := hw.1
  have hs7 : h 5 0 < 128 := Nat.lt_of_lt_of_le hw.2.1 (m_pow7 hn)
  have bad : f_X5_set (T + 2) (ag 1) (ag 2) (ag 3) st = some (-2, st) → f_X6_set T (ag 1) (ag 2) (ag 3) st = some (-2, st) → ∃ T2 st2, px_op3 T st ag T2 st2 ∧ Inv T2 st2 := fun e1 e2 => ⟨T, st, ⟨rfl, -2, st, e1, e2⟩, hI0⟩
  have hi := m_i (ag 1) 0 4 (A := 0) (B := 4) rfl rfl
  have hh : I_ho T st h := ⟨hw, h9, hc, hr⟩
  obtain ⟨k4, k5, k6, k7, k8, k9, kr, kl, ko⟩ := id hc
  obtain ⟨l4, l5, l6, l7, l8, l9, lr, ll, lo⟩ := id hr
  by_cases q1 : ag 1 < 0
  · have ne : ∀ j : Nat, j < 100 → ¬ ag 1 = nI j := fun j hj e => nI_pos (n := j) (by omega) (by rw [← e]; exact q1)
    exact bad (by rw [f_X5_set, if_neg (show ¬ ag 1 = 0 from ne 0 (by omega)), if_neg (show ¬ ag 1 = 1 from ne 1 (by omega)), if_neg (show ¬ ag 1 = 2 from ne 2 (by omega)), if_neg (show ¬ ag 1 = 3 from ne 3 (by omega)), if_neg (show ¬ ag 1 = 4 from ne 4 (by omega))]) (by rw [f_X6_set, if_pos (hi.mpr (Or.inl q1))])
  by_cases q2 : 4 < ag 1
  · have ne : ∀ j : Nat, j ≤ 4 → ¬ ag 1 = nI j := fun j hj e => by
      rw [e, show (4 : Int32) = nI 4 from rfl, nI_ltI (by omega) (by omega)] at q2; omega
    exact bad (by rw [f_X5_set, if_neg (show ¬ ag 1 = 0 from ne 0 (by omega)), if_neg (show ¬ ag 1 = 1 from ne 1 (by omega)), if_neg (show ¬ ag 1 = 2 from ne 2 (by omega)), if_neg (show ¬ ag 1 = 3 from ne 3 (by omega)), if_neg (show ¬ ag 1 = 4 from ne 4 (by omega))]) (by rw [f_X6_set, if_pos (hi.mpr (Or.inr q2))])
  have q12 : ¬ p_X6_in (ag 1).toInt64 0 4 = 0 := fun g => (hi.mp g).elim q1 q2
  obtain ⟨a, ha, ea⟩ := m_rng' (n := 4) (by omega) q1 q2
  have up48 : ∀ (i : Nat) (x : Int32), (up st 1 i x) 48 = st 48 := fun i x => m_up_row _ _ _ _ (by decide)
  rcases (show a = 0 ∨ a = 1 ∨ a = 2 ∨ a = 3 ∨ a = 4 by omega) with rfl | rfl | rfl | rfl | rfl
  · -- RENT
    have hv := m_i (ag 3) 0 9999 (A := 0) (B := 9999) rfl rfl
    have r0 : ∀ s, f_X6_set T (ag 1) (ag 2) (ag 3) s = if p_X6_in (ag 3).toInt64 0 9999 = 0 then some (-2, s) else some (s 48 13, up s 48 13 (ag 3)) := fun s => by
      rw [f_X6_set, if_neg q12, ea, if_neg (by decide), f_X6_set_25, if_neg (by decide), f_X6_set_39, if_pos (by decide), f_X6_set_83, if_pos (show nI 0 = 0 by decide), f_X6_set_149, if_pos (show nI 0 = 0 by decide)]
    have c0 : f_X5_set (T + 2) (ag 1) (ag 2) (ag 3) st = ((f_X5_setRent (T + 2) (ag 3) st).bind fun b2 => (some (b2.1, b2.2))) := by rw [f_X5_set, ea, if_pos (by decide)]
    by_cases q3 : ag 3 < 0
    · exact bad (by rw [c0, f_X5_setRent, if_pos q3]; rfl) (by rw [r0, if_pos (hv.mpr (Or.inl q3))])
    by_cases q4 : 9999 < ag 3
    · exact bad (by rw [c0, f_X5_setRent, if_neg q3, if_pos q4]; rfl) (by rw [r0, if_pos (hv.mpr (Or.inr q4))])
    obtain ⟨v, hv2, ev⟩ := m_rng' (n := 9999) (by omega) q3 q4
    refine ⟨T, _, ⟨rfl, nI (h 6 0), up st 1 6 (nI v), ?_, ?_⟩, Inv_set hI0 hh him 6 13 v (by omega) rfl (m_HW_set hw 6 v (by omega) ⟨by omega, fun _ => hv2, by omega, by omega⟩) (m_hu9 (by omega) h9)⟩
    · rw [c0, f_X5_setRent, if_neg q3, if_neg q4, k6, ev]; rfl
    · rw [r0, if_neg (fun g => (hv.mp g).elim q3 q4), up48, l6, ev]
  · -- NEEDED
    have hv := m_i (ag 3) 2 5 (A := 2) (B := 5) rfl rfl
    have r0 : ∀ s, f_X6_set T (ag 1) (ag 2) (ag 3) s = if p_X6_in (ag 3).toInt64 2 5 = 0 then some (-2, s) else some (s 48 14, up s 48 14 (ag 3)) := fun s => by
      rw [f_X6_set, if_neg q12, ea, if_neg (by decide), f_X6_set_25, if_pos (by decide), f_X6_set_39, if_neg (by decide), if_pos (by decide), f_X6_set_83, if_neg (show ¬ nI 1 = 0 by decide), if_pos (show nI 1 = 1 by decide), f_X6_set_149, if_neg (show ¬ nI 1 = 0 by decide), if_pos (show nI 1 = 1 by decide)]
    have c0 : f_X5_set (T + 2) (ag 1) (ag 2) (ag 3) st = ((f_X5_setNeeded (T + 2) (ag 3) st).bind fun b2 => (some (b2.1, b2.2))) := by rw [f_X5_set, ea, if_neg (by decide), if_pos (by decide)]
    by_cases q3 : ag 3 < 2
    · exact bad (by rw [c0, f_X5_setNeeded, if_pos q3]; rfl) (by rw [r0, if_pos (hv.mpr (Or.inl q3))])
    by_cases q4 : 5 < ag 3
    · exact bad (by rw [c0, f_X5_setNeeded, if_neg q3, if_pos q4]; rfl) (by rw [r0, if_pos (hv.mpr (Or.inr q4))])
    have q3' : ¬ ag 3 < 0 := fun g => q3 (Int32.lt_trans g (by decide))
    obtain ⟨v, hv2, ev⟩ := m_rng' (n := 5) (by omega) q3' q4
    have hv3 : 2 ≤ v := by
      rw [ev, show (2 : Int32) = nI 2 from rfl, nI_ltI (by omega) (by omega)] at q3; omega
    refine ⟨T, _, ⟨rfl, nI (h 7 0), up st 1 7 (nI v), ?_, ?_⟩, Inv_set hI0 hh him 7 14 v (by omega) rfl (m_HW_set hw 7 v (by omega) ⟨by omega, by omega, fun _ => ⟨hv3, hv2⟩, by omega⟩) (m_hu9 (by omega) h9)⟩
    · rw [c0, f_X5_setNeeded, if_neg q3, if_neg q4, k7, ev]; rfl
    · rw [r0, if_neg (fun g => (hv.mp g).elim q3 q4), up48, l7, ev]
  · -- DAY
    have hv := m_i (ag 3) 0 999 (A := 0) (B := 999) rfl rfl
    have r0 : ∀ s, f_X6_set T (ag 1) (ag 2) (ag 3) s = if p_X6_in (ag 3).toInt64 0 999 = 0 then some (-2, s) else some (s 48 15, up s 48 15 (ag 3)) := fun s => by
      rw [f_X6_set, if_neg q12, ea, if_neg (by decide), f_X6_set_25, if_neg (by decide), f_X6_set_39, if_neg (by decide), if_neg (by decide), if_pos (by decide), f_X6_set_83, if_neg (show ¬ nI 2 = 0 by decide), if_neg (show ¬ nI 2 = 1 by decide), if_pos (show nI 2 = 2 by decide), f_X6_set_149, if_neg (show ¬ nI 2 = 0 by decide), if_neg (show ¬ nI 2 = 1 by decide), if_pos (show nI 2 = 2 by decide)]
    have c0 : f_X5_set (T + 2) (ag 1) (ag 2) (ag 3) st = ((f_X5_setDay (T + 2) (ag 3) st).bind fun b2 => (some (b2.1, b2.2))) := by rw [f_X5_set, ea, if_neg (by decide), if_neg (by decide), if_pos (by decide)]
    by_cases q3 : ag 3 < 0
    · exact bad (by rw [c0, f_X5_setDay, if_pos q3]; rfl) (by rw [r0, if_pos (hv.mpr (Or.inl q3))])
    by_cases q4 : 999 < ag 3
    · exact bad (by rw [c0, f_X5_setDay, if_neg q3, if_pos q4]; rfl) (by rw [r0, if_pos (hv.mpr (Or.inr q4))])
    obtain ⟨v, hv2, ev⟩ := m_rng' (n := 999) (by omega) q3 q4
    refine ⟨T, _, ⟨rfl, nI (h 8 0), up st 1 8 (nI v), ?_, ?_⟩, Inv_set hI0 hh him 8 15 v (by omega) rfl (m_HW_set hw 8 v (by omega) ⟨by omega, by omega, by omega, fun _ => hv2⟩) (m_hu9 (by omega) h9)⟩
    · rw [c0, f_X5_setDay, if_neg q3, if_neg q4, k8, ev]; rfl
    · rw [r0, if_neg (fun g => (hv.mp g).elim q3 q4), up48, l8, ev]
  · -- NUMBER
    have hv := m_i (ag 3) 0 9 (A := 0) (B := 9) rfl rfl
    have c0 : f_X5_set (T + 2) (ag 1) (ag 2) (ag 3) st = ((f_X5_setNumber (T + 2) (ag 2) (ag 3) st).bind fun b2 => (some (b2.1, b2.2))) := by rw [f_X5_set, ea, if_neg (by decide), if_neg (by decide), if_neg (by decide), if_pos (by decide)]
    have r0 : ∀ s, s 48 11 = nI (h 4 0) → f_X6_set T (ag 1) (ag 2) (ag 3) s = if j_kn (h 4 0) (ag 2) = 0 then some (-2, s) else (if p_X6_in (ag 3).toInt64 0 9 = 0 then some (-2, s) else (if px_in (ag 2) 7 then (if px_in (ag 2) 7 then (some (s 53 (ag 2).toNatClampNeg, up s 53 (ag 2).toNatClampNeg (ag 3))) else none) else none)) := fun s e11 => by
      rw [f_X6_set, if_neg q12, ea, if_pos (by decide), m_eq_bind (m_knR hn e11 (ag 2)), f_X6_set_25, if_neg (show ¬ nI 3 = 1 by decide), f_X6_set_39, if_neg (show ¬ nI 3 = 0 by decide), if_neg (show ¬ nI 3 = 1 by decide), if_neg (show ¬ nI 3 = 2 by decide), if_pos (show nI 3 = 3 by decide), f_X6_set_83, if_neg (show ¬ nI 3 = 0 by decide), if_neg (show ¬ nI 3 = 1 by decide), if_neg (show ¬ nI 3 = 2 by decide), if_pos (show nI 3 = 3 by decide), f_X6_set_149, if_neg (show ¬ nI 3 = 0 by decide), if_neg (show ¬ nI 3 = 1 by decide), if_neg (show ¬ nI 3 = 2 by decide), if_pos (show nI 3 = 3 by decide)]
    rcases j_kn_cases hn (ag 2) with q5 | ⟨p, hp, ep, q5⟩
    · exact bad (by rw [c0, f_X5_setNumber, m_eq_bind (m_knC k4 (ag 2)), if_pos q5]; rfl) (by rw [r0 st l4, if_pos q5])
    have q5' : ¬ j_kn (h 4 0) (ag 2) = 0 := by rw [q5]; decide
    by_cases q3 : ag 3 < 0
    · exact bad (by rw [c0, f_X5_setNumber, m_eq_bind (m_knC k4 (ag 2)), if_neg q5', if_pos q3]; rfl) (by rw [r0 st l4, if_neg q5', if_pos (hv.mpr (Or.inl q3))])
    by_cases q4 : 9 < ag 3
    · exact bad (by rw [c0, f_X5_setNumber, m_eq_bind (m_knC k4 (ag 2)), if_neg q5', if_neg q3, if_pos q4]; rfl) (by rw [r0 st l4, if_neg q5', if_pos (hv.mpr (Or.inr q4))])
    obtain ⟨v, hv2, ev⟩ := m_rng' (n := 9) (by omega) q3 q4
    have hin : px_in (nI p) 7 := m_px (by omega) (by omega)
    have e3 : st 3 p = nI (h 1 p) := (kr p hp).2
    have c1 : f_X5_set (T + 2) (ag 1) (ag 2) (ag 3) st = some (nI (h 1 p), up st 3 p (nI v)) := by
      rw [c0, f_X5_setNumber, m_eq_bind (m_knC k4 (ag 2)), if_neg q5', if_neg q3, if_neg q4, ep, if_pos hin, if_pos hin, nI_clamp (by omega), e3, ev]; rfl
    have c2 : f_X6_set T (ag 1) (ag 2) (ag 3) (up st 3 p (nI v)) = some (nI (h 1 p), up (up st 3 p (nI v)) 53 p (nI v)) := by
      rw [r0 _ (by rw [m_up_row _ _ _ _ (by decide)]; exact l4), if_neg q5', if_neg (fun g => (hv.mp g).elim q3 q4), ep, if_pos hin, if_pos hin, nI_clamp (by omega), m_up_row _ _ _ _ (by decide), (lr p hp).2, ev]
    have row : ∀ b, b ≠ 3 → b ≠ 53 → (up (up st 3 p (nI v)) 53 p (nI v)) b = st b := fun b hb1 hb2 => by rw [m_up_row _ _ _ _ hb2, m_up_row _ _ _ _ hb1]
    have n1 : ∀ j, (hu h 1 p v) 1 j = if j = p then v else h 1 j := fun j => by unfold hu; rw [if_pos rfl]
    refine ⟨T, _, ⟨rfl, _, _, c1, c2⟩, Inv_ho (h := h) (h' := hu h 1 p v) hI0 him (fun b hb => ?_) (fun j _ => by rw [row 48 (by omega) (by omega)]) ⟨?_, h9, ?_, ?_⟩ (Nat.le_refl _) (fun j _ => rfl)⟩
    · simp only [List.mem_cons, List.not_mem_nil, or_false, not_or] at hb
      exact row b (by omega) (by omega)
    · obtain ⟨w1, w2, w3, w4, w5, w6, w7, w8, w9, w10⟩ := hw
      refine ⟨w1, w2, w3, w4, w5, fun j hj => ?_, w7, w8, w9, w10⟩
      rw [n1]
      refine ⟨(w6 j hj).1, ?_⟩
      by_cases e : j = p
      · rw [if_pos e]; omega
      · rw [if_neg e]; exact (w6 j hj).2
    · unfold m_HC
      rw [row 1 (by omega) (by omega), row (1 + 1) (by omega) (by omega), row (1 + 3) (by omega) (by omega), row (1 + 4) (by omega) (by omega)]
      refine ⟨k4, k5, k6, k7, k8, k9, fun j hj => ⟨(kr j hj).1, ?_⟩, kl, ko⟩
      rw [m_up_row _ _ _ _ (by decide), m_up, if_pos rfl, n1]
      by_cases e : j = p
      · rw [if_pos e, if_pos e]
      · rw [if_neg e, if_neg e]; exact (kr j hj).2
    · unfold m_HR
      rw [row 48 (by omega) (by omega), row 52 (by omega) (by omega), row 54 (by omega) (by omega), row 55 (by omega) (by omega)]
      refine ⟨l4, l5, l6, l7, l8, l9, fun j hj => ⟨(lr j hj).1, ?_⟩, ll, lo⟩
      rw [m_up, if_pos rfl, n1, m_up_row _ _ _ _ (by decide)]
      by_cases e : j = p
      · rw [if_pos e, if_pos e]
      · rw [if_neg e, if_neg e]; exact (lr j hj).2
  · -- IN
    have hv := m_i (ag 3) 0 1 (A := 0) (B := 1) rfl rfl
    have c0 : f_X5_set (T + 2) (ag 1) (ag 2) (ag 3) st = ((f_X5_setIn (T + 2) (ag 2) (ag 3) st).bind fun b2 => (some (b2.1, b2.2))) := by rw [f_X5_set, ea, if_neg (by decide), if_neg (by decide), if_neg (by decide), if_neg (by decide), if_pos (by decide)]
    have r0 : ∀ s, s 48 11 = nI (h 4 0) → f_X6_set T (ag 1) (ag 2) (ag 3) s = if j_kn (h 4 0) (ag 2) = 0 then some (-2, s) else (if p_X6_in (ag 3).toInt64 0 1 = 0 then some (-2, s) else (some (((s 48 12) >>> (ag 2 &&& 31)) &&& 1, (up s 48 12 (((s 48 12) &&& (((1 : Int32) <<< (ag 2 &&& 31)) ^^^ (-1))) ||| (ag 3 <<< (ag 2 &&& 31))))))) := fun s e11 => by
      rw [f_X6_set, if_neg q12, ea, if_pos (by decide), m_eq_bind (m_knR hn e11 (ag 2)), f_X6_set_25, if_neg (show ¬ nI 4 = 1 by decide), f_X6_set_39, if_neg (show ¬ nI 4 = 0 by decide), if_neg (show ¬ nI 4 = 1 by decide), if_neg (show ¬ nI 4 = 2 by decide), if_neg (show ¬ nI 4 = 3 by decide), f_X6_set_83, if_neg (show ¬ nI 4 = 0 by decide), if_neg (show ¬ nI 4 = 1 by decide), if_neg (show ¬ nI 4 = 2 by decide), if_neg (show ¬ nI 4 = 3 by decide), f_X6_set_149, if_neg (show ¬ nI 4 = 0 by decide), if_neg (show ¬ nI 4 = 1 by decide), if_neg (show ¬ nI 4 = 2 by decide), if_neg (show ¬ nI 4 = 3 by decide)]
    rcases j_kn_cases hn (ag 2) with q5 | ⟨p, hp, ep, q5⟩
    · exact bad (by rw [c0, f_X5_setIn, m_eq_bind (m_knC k4 (ag 2)), if_pos q5]; rfl) (by rw [r0 st l4, if_pos q5])
    have q5' : ¬ j_kn (h 4 0) (ag 2) = 0 := by rw [q5]; decide
    by_cases q3 : ag 3 < 0
    · exact bad (by rw [c0, f_X5_setIn, m_eq_bind (m_knC k4 (ag 2)), if_neg q5', if_pos q3]; rfl) (by rw [r0 st l4, if_neg q5', if_pos (hv.mpr (Or.inl q3))])
    by_cases q4 : 1 < ag 3
    · exact bad (by rw [c0, f_X5_setIn, m_eq_bind (m_knC k4 (ag 2)), if_neg q5', if_neg q3, if_pos q4]; rfl) (by rw [r0 st l4, if_neg q5', if_pos (hv.mpr (Or.inr q4))])
    obtain ⟨v, hv2, ev⟩ := m_rng' (n := 1) (by omega) q3 q4
    obtain ⟨b, eb⟩ : ∃ b : Bool, ag 3 = if b then 1 else 0 := by
      rcases (show v = 0 ∨ v = 1 by omega) with rfl | rfl
      · exact ⟨false, ev⟩
      · exact ⟨true, ev⟩
    have hcb := c_b1 (h 5 0) hs7 p (by omega) b
    have c1 : f_X5_set (T + 2) (ag 1) (ag 2) (ag 3) st = some (if (h 5 0).testBit p then 1 else 0, up st 1 5 (nI (j_b1 (h 5 0) p b))) := by
      have e39 : ∀ z0, f_X5_setIn_39 (T + 2) (nI p) (ag 3) z0 st = some (z0, up st 1 5 (nI (j_b1 (h 5 0) p b))) := fun z0 => by
        rw [f_X5_setIn_39, eb, k5]
        have e := hcb.2.1
        cases b with
        | true => rw [if_pos rfl] at e; rw [if_pos rfl, if_pos rfl, e]
        | false => rw [if_neg (by decide)] at e; rw [if_neg (by decide), e]
      rw [c0, f_X5_setIn, m_eq_bind (m_knC k4 (ag 2)), if_neg q5', if_neg q3, if_neg q4, ep, m_eq_bind (m_inC hw k4 k5 hp)]
      by_cases hb : (h 5 0).testBit p = true
      · rw [if_pos hb, if_neg (by decide), e39]; rfl
      · rw [if_neg hb, if_pos rfl, e39]; rfl
    have c2 : f_X6_set T (ag 1) (ag 2) (ag 3) (up st 1 5 (nI (j_b1 (h 5 0) p b))) = some (if (h 5 0).testBit p then 1 else 0, up (up st 1 5 (nI (j_b1 (h 5 0) p b))) 48 12 (nI (j_b1 (h 5 0) p b))) := by
      rw [r0 _ (by rw [up48]; exact l4), if_neg q5', if_neg (fun g => (hv.mp g).elim q3 q4), up48, l5, ep, eb, hcb.2.2, b_shr _ hs7 p (by omega)]
    exact ⟨T, _, ⟨rfl, _, _, c1, c2⟩, Inv_set hI0 hh him 5 12 _ (by omega) rfl (m_HW_set hw 5 _ (by omega) ⟨fun _ => j_b1_lt hn hw.2.1 hp b, by omega, by omega, by omega⟩) (m_hu9 (by omega) h9)⟩
