theorem c_und : ∀ k, k < 6 → ∀ a, a < 6 → ∃ b : Bool, f_X5_isUnder (nI k) (nI a) = some (if b then 1 else 0) ∧ (b = true → f_X6_taken_33 0 (fun _ _ => 77) 1000 0 (nI a) (nI k) = some 77) ∧ (b = false → f_X6_taken_33 0 (fun _ _ => 77) 1000 0 (nI a) (nI k) = some (-13)) := by decide +kernel
theorem m_tak {T : Nat} {st : px_S} {p : Nat} (hp : p < 7) (y2 : Int32) : ∀ n y3, (f_X6_taken_33 0 (fun _ _ => 77) n 0 y2 y3 = some 77 → f_X6_taken_33 T st n (nI p) y2 y3 = some (st 53 p)) ∧ (f_X6_taken_33 0 (fun _ _ => 77) n 0 y2 y3 = some (-13) → f_X6_taken_33 T st n (nI p) y2 y3 = some (-13)) := by
  intro n
  have e51 : ∀ y3, (f_X6_taken_51 0 (fun _ _ => 77) 0 y2 y3 = some 77 → f_X6_taken_51 T st (nI p) y2 y3 = some (st 53 p)) ∧ (f_X6_taken_51 0 (fun _ _ => 77) 0 y2 y3 = some (-13) → f_X6_taken_51 T st (nI p) y2 y3 = some (-13)) := by
    intro y3
    rw [f_X6_taken_51, f_X6_taken_51]
    by_cases h : y3 = y2
    · rw [if_pos h, if_pos h, if_pos (by decide), if_pos (m_px hp (by omega)), nI_clamp (by omega)]
      exact ⟨fun _ => rfl, fun g => absurd g (by decide)⟩
    · rw [if_neg h, if_neg h]
      exact ⟨fun g => absurd g (by decide), fun _ => rfl⟩
  induction n with
  | zero => intro y3; rw [f_X6_taken_33]; exact ⟨fun g => (by cases g), fun g => (by cases g)⟩
  | succ n ih =>
    intro y3
    rw [f_X6_taken_33, f_X6_taken_33]
    by_cases h1 : y3 = -1
    · rw [if_pos h1, if_pos h1]; exact e51 y3
    · rw [if_neg h1, if_neg h1]
      by_cases h2 : y3 = y2
      · rw [if_pos h2, if_pos h2]; exact e51 y3
      · rw [if_neg h2, if_neg h2]; exact ih _
theorem op_taken {T : Nat} {st : px_S} (ag : px_ag) (hI : Inv T st) : ∃ T2 st2, px_op28 T st ag T2 st2 ∧ Inv T2 st2 := by
  have hI0 := hI
  obtain ⟨h1, h2, h3, h4, h5, h, ⟨hw, h9, hc, hr⟩, him⟩ := hI
  have hn := hw.1
  suffices hs : ∃ v, f_X5_taken (T + 2) st (ag 1) (ag 2) = some v ∧ f_X6_taken T st (ag 1) (ag 2) = some v by
    obtain ⟨v, e1, e2⟩ := hs
    exact ⟨T, st, ⟨rfl, v, st, ⟨e1, rfl⟩, e2, rfl⟩, hI0⟩
  have hi := m_i (ag 2) 0 5 (A := 0) (B := 5) rfl rfl
  rw [f_X5_taken, f_X6_taken]
  by_cases q1 : ag 2 < 0
  · rw [if_pos q1, if_pos (hi.mpr (Or.inl q1))]; exact ⟨_, rfl, rfl⟩
  by_cases q2 : 5 < ag 2
  · rw [if_neg q1, if_neg (fun g => (m_lt6 _).mp g q2), if_pos (hi.mpr (Or.inr q2))]; exact ⟨_, rfl, rfl⟩
  rw [if_neg q1, if_pos ((m_lt6 _).mpr q2), if_neg (fun g => (hi.mp g).elim q1 q2), m_eq_bind (m_knC hc.1 (ag 1)), m_eq_bind (m_knR hn hr.1 (ag 1))]
  rcases j_kn_cases hn (ag 1) with q3 | ⟨p, hp, ep, q3⟩
  · rw [if_pos q3, if_pos q3]; exact ⟨_, rfl, rfl⟩
  obtain ⟨a, ha, ea⟩ := m_rng' (n := 5) (by omega) q1 q2
  have hin : px_in (nI p) 7 := m_px (by omega) (by omega)
  have kc := hc.2.2.2.2.2.2.1 p hp
  have kr := hr.2.2.2.2.2.2.1 p hp
  have kk := hw.2.2.2.2.2.1 p hp
  obtain ⟨b, b1, b2, b3⟩ := c_und (h 0 p) kk.1 a (by omega)
  have c1 : st 2 p = nI (h 0 p) := kc.1
  have c2 : st 3 p = nI (h 1 p) := kc.2
  rw [q3, if_neg (show ¬ (1 : Int32) = 0 by decide), if_neg (show ¬ (1 : Int32) = 0 by decide), ep, ea, if_pos hin, if_pos hin, if_pos hin, nI_clamp (by omega), c1, c2, kr.1, m_eq_bind b1]
  have mt := m_tak (T := T) (st := st) (show p < 7 by omega) (nI a) 1000 (nI (h 0 p))
  cases b with
  | true =>
    rw [if_pos rfl, if_neg (by decide), mt.1 (b2 rfl), kr.2]
    exact ⟨_, rfl, rfl⟩
  | false =>
    rw [if_pos (show (if false = true then (1 : Int32) else 0) = 0 from rfl), mt.2 (b3 rfl)]
    exact ⟨_, rfl, rfl⟩
theorem m_oathsC {T : Nat} {st : px_S} {h : px_H} (hw : m_HW h) (hc : m_HC st 1 h) : f_X0_oathPairs T st 1 = some (nI (j_su (fun j => m_pop (h 3 j)) (h 4 0)) / 2) := by
  have hn := hw.1
  have hl := m_o128 hw
  rw [f_X0_oathPairs]
  refine m_for (σ := Int32) (fun n i z => f_X0_oathPairs_4 T st 1 n z (nI i)) (h 4 0) (fun i z => z = nI (j_su (fun j => m_pop (h 3 j)) i)) (fun r => r = some (nI (j_su (fun j => m_pop (h 3 j)) (h 4 0)) / 2)) ?_ ?_ (h 4 0) 0 0 1000 (by omega) rfl (by omega)
  · intro n i z hi hz
    left
    have o5 : st (1 + 4) i = nI (h 3 i) := hc.2.2.2.2.2.2.2.2 i (by omega)
    rw [f_X0_oathPairs_4, hc.1, if_pos (nI_lt hi (by omega)), if_pos (m_px (by omega) (by omega)), nI_clamp (by omega), o5, b_pop _ (hl i (by omega)), hz, nI_add, nI_1]
    exact ⟨_, rfl, rfl⟩
  · intro n z hz
    rw [f_X0_oathPairs_4, hc.1, if_neg (nI_nlt (Nat.le_refl _) (by omega)), hz]
theorem m_oathsR {T : Nat} {st : px_S} {h : px_H} (hw : m_HW h) (hr : m_HR st h) : f_X6_count_24 T st 1000 0 0 = some (nI (j_su (fun j => m_pop (h 3 j)) (h 4 0)) / 2) := by
  have hn := hw.1
  have hl := m_o128 hw
  refine m_for (σ := Int32) (fun n i z => f_X6_count_24 T st n z (nI i)) (h 4 0) (fun i z => z = nI (j_su (fun j => m_pop (h 3 j)) i)) (fun r => r = some (nI (j_su (fun j => m_pop (h 3 j)) (h 4 0)) / 2)) ?_ ?_ (h 4 0) 0 0 1000 (by omega) rfl (by omega)
  · intro n i z hi hz
    left
    rw [f_X6_count_24, hr.1, if_pos (nI_lt hi (by omega)), if_pos (m_px (by omega) (by omega)), nI_clamp (by omega), hr.2.2.2.2.2.2.2.2 i hi, m_eq_bind (b_bits _ (hl i (by omega))), hz, nI_add, nI_1]
    exact ⟨_, rfl, rfl⟩
  · intro n z hz
    rw [f_X6_count_24, hr.1, if_neg (nI_nlt (Nat.le_refl _) (by omega)), hz]
theorem m_eqn {x : Int32} {a b : Nat} (e : x = nI a) (ha : a < 2 ^ 31) (hb : b < 2 ^ 31) (h : a ≠ b) : ¬ x = nI b := by rw [e, nI_eq ha hb]; exact h
theorem op_count {T : Nat} {st : px_S} (ag : px_ag) (hI : Inv T st) : ∃ T2 st2, px_op23 T st ag T2 st2 ∧ Inv T2 st2 := by
  have hI0 := hI
  obtain ⟨h1, h2, h3, h4, h5, h, ⟨hw, h9, hc, hr⟩, him⟩ := hI
  have hn := hw.1
  suffices hs : ∃ v, f_X5_count (T + 2) st (ag 1) = some v ∧ f_X6_count T st (ag 1) = some v by
    obtain ⟨v, e1, e2⟩ := hs
    exact ⟨T, st, ⟨rfl, v, st, ⟨e1, rfl⟩, e2, rfl⟩, hI0⟩
  have hi := m_i (ag 1) 0 8 (A := 0) (B := 8) rfl rfl
  have hs7 : h 5 0 < 128 := Nat.lt_of_lt_of_le hw.2.1 (m_pow7 hn)
  obtain ⟨k4, k5, k6, k7, k8, k9, kr, kl, ko⟩ := id hc
  obtain ⟨l4, l5, l6, l7, l8, l9, lr, ll, lo⟩ := id hr
  obtain ⟨sz, hsz, t1, t2, t3⟩ := h4
  rw [f_X5_count, f_X6_count]
  by_cases q1 : ag 1 < 0
  · have ne : ∀ j : Nat, j < 100 → ¬ ag 1 = nI j := fun j hj e => nI_pos (n := j) (by omega) (by rw [← e]; exact q1)
    rw [if_neg (show ¬ ag 1 = 0 from ne 0 (by omega)), if_neg (show ¬ ag 1 = 1 from ne 1 (by omega)), if_neg (show ¬ ag 1 = 2 from ne 2 (by omega)), if_neg (show ¬ ag 1 = 3 from ne 3 (by omega)), if_neg (show ¬ ag 1 = 4 from ne 4 (by omega)), if_neg (show ¬ ag 1 = 5 from ne 5 (by omega)), if_neg (show ¬ ag 1 = 6 from ne 6 (by omega)), if_neg (show ¬ ag 1 = 7 from ne 7 (by omega)), if_neg (show ¬ ag 1 = 8 from ne 8 (by omega)), if_pos (hi.mpr (Or.inl q1))]
    exact ⟨_, rfl, rfl⟩
  by_cases q2 : 8 < ag 1
  · have ne : ∀ j : Nat, j ≤ 8 → ¬ ag 1 = nI j := fun j hj e => by
      rw [e, show (8 : Int32) = nI 8 from rfl, nI_ltI (by omega) (by omega)] at q2; omega
    rw [if_neg (show ¬ ag 1 = 0 from ne 0 (by omega)), if_neg (show ¬ ag 1 = 1 from ne 1 (by omega)), if_neg (show ¬ ag 1 = 2 from ne 2 (by omega)), if_neg (show ¬ ag 1 = 3 from ne 3 (by omega)), if_neg (show ¬ ag 1 = 4 from ne 4 (by omega)), if_neg (show ¬ ag 1 = 5 from ne 5 (by omega)), if_neg (show ¬ ag 1 = 6 from ne 6 (by omega)), if_neg (show ¬ ag 1 = 7 from ne 7 (by omega)), if_neg (show ¬ ag 1 = 8 from ne 8 (by omega)), if_pos (hi.mpr (Or.inr q2))]
    exact ⟨_, rfl, rfl⟩
  rw [if_neg (c := p_X6_in (ag 1).toInt64 0 8 = 0) (fun g => (hi.mp g).elim q1 q2)]
  obtain ⟨a, ha, ea⟩ := m_rng' (n := 8) (by omega) q1 q2
  rw [ea]
  rcases (show a = 0 ∨ a = 1 ∨ a = 2 ∨ a = 3 ∨ a = 4 ∨ a = 5 ∨ a = 6 ∨ a = 7 ∨ a = 8 by omega) with rfl | rfl | rfl | rfl | rfl | rfl | rfl | rfl | rfl
  · exact ⟨st 1 4, by rw [if_pos (by decide)], by rw [if_neg (by decide), if_pos (by decide), if_pos (by decide), k4, l4]⟩
  · exact ⟨nI (m_pop (h 5 0)), by rw [if_neg (by decide), if_pos (by decide), k5, b_pop _ hs7], by rw [if_neg (by decide), if_pos (by decide), if_neg (by decide), if_pos (by decide), l5, m_eq_bind (b_bits _ hs7)]⟩
  · exact ⟨_, by rw [if_neg (by decide), if_neg (by decide), if_pos (by decide), m_eq_bind (m_oathsC hw hc)], by rw [if_pos (by decide), m_oathsR hw hr]⟩
  · exact ⟨st 1 6, by rw [if_neg (by decide), if_neg (by decide), if_neg (by decide), if_pos (by decide)], by rw [if_neg (by decide), if_pos (by decide), if_neg (by decide), if_neg (by decide), k6, l6]⟩
  · exact ⟨st 1 7, by rw [if_neg (by decide), if_neg (by decide), if_neg (by decide), if_neg (by decide), if_pos (by decide)], by rw [if_neg (by decide), if_neg (by decide), if_pos (by decide), if_pos (by decide), k7, l7]⟩
  · exact ⟨st 1 8, by rw [if_neg (by decide), if_neg (by decide), if_neg (by decide), if_neg (by decide), if_neg (by decide), if_pos (by decide)], by rw [if_neg (by decide), if_neg (by decide), if_pos (by decide), if_neg (by decide), k8, l8]⟩
  · exact ⟨st 0 6, by rw [if_neg (by decide), if_neg (by decide), if_neg (by decide), if_neg (by decide), if_neg (by decide), if_neg (by decide), if_pos (by decide)], by rw [if_neg (by decide), if_neg (by decide), if_neg (by decide), if_pos (by decide), h3.1, h3.2.1]⟩
  · exact ⟨st 31 1, by rw [if_neg (by decide), if_neg (by decide), if_neg (by decide), if_neg (by decide), if_neg (by decide), if_neg (by decide), if_neg (by decide), if_pos (by decide)], by rw [if_neg (by decide), if_neg (by decide), if_neg (by decide), if_neg (by decide), if_pos (by decide), t1, t2]⟩
  · exact ⟨st 1 9, by rw [if_neg (by decide), if_neg (by decide), if_neg (by decide), if_neg (by decide), if_neg (by decide), if_neg (by decide), if_neg (by decide), if_neg (by decide), if_pos (by decide)], by rw [if_neg (by decide), if_neg (by decide), if_neg (by decide), if_neg (by decide), if_neg (by decide), k9, l9]⟩
theorem op_feed {T : Nat} {st : px_S} (ag : px_ag) (hI : Inv T st) : ∃ T2 st2, px_op5 T st ag T2 st2 ∧ Inv T2 st2 := by
  have hI0 := hI
  obtain ⟨h1, h2, h3, h4, h5, h, ⟨hw, h9, hc, hr⟩, him⟩ := hI
  obtain ⟨sz, hsz, t1, t2, t3⟩ := h4
  have bad : ∀ v, f_X5_feed (T + 2) (ag 1) st = some (v, st) → f_X6_feed T (ag 1) st = some (v, st) → ∃ T2 st2, px_op5 T st ag T2 st2 ∧ Inv T2 st2 := fun v e1 e2 => ⟨T, st, ⟨rfl, v, st, e1, e2⟩, hI0⟩
  have hi := m_i (ag 1) 0 255 (A := 0) (B := 255) rfl rfl
  by_cases q1 : ag 1 < 0
  · exact bad _ (by rw [f_X5_feed, if_pos q1]) (by rw [f_X6_feed, if_pos (hi.mpr (Or.inl q1))])
  by_cases q2 : 255 < ag 1
  · exact bad _ (by rw [f_X5_feed, if_neg q1, if_pos q2]) (by rw [f_X6_feed, if_pos (hi.mpr (Or.inr q2))])
  by_cases q3 : sz = 160
  · subst q3
    exact bad _ (by rw [f_X5_feed, if_neg q1, if_neg q2, t1, if_neg (by decide)]) (by rw [f_X6_feed, if_neg (fun g => (hi.mp g).elim q1 q2), t2, if_pos (by decide)])
  have hlt : nI sz < 160 := by rw [show (160 : Int32) = nI 160 from rfl]; exact nI_lt (by omega) (by omega)
  have hin : px_in (nI sz) 160 := m_px (by omega) (by omega)
  have c1 : f_X5_feed (T + 2) (ag 1) st = some (nI (sz + 1), up (up st 32 sz (ag 1)) 31 1 (nI (sz + 1))) := by
    rw [f_X5_feed, if_neg q1, if_neg q2, t1, if_pos hlt, f_X2_put, t1, if_pos hlt, if_pos hin, nI_clamp (by omega), nI_1, Option.bind_some]
    simp [m_up]
  obtain ⟨s1, es1⟩ : ∃ s1, s1 = up (up st 32 sz (ag 1)) 31 1 (nI (sz + 1)) := ⟨_, rfl⟩
  rw [← es1] at c1
  have r48 : s1 48 = st 48 := by rw [es1, m_up_row _ _ _ _ (by decide), m_up_row _ _ _ _ (by decide)]
  have c2 : f_X6_feed T (ag 1) s1 = some (nI (sz + 1), up (up s1 51 sz (ag 1)) 48 6 (nI (sz + 1))) := by
    rw [f_X6_feed, if_neg (fun g => (hi.mp g).elim q1 q2), r48, t2, if_neg (by rw [show (160 : Int32) = nI 160 from rfl, nI_eq (by omega) (by omega)]; exact q3), if_pos hin, nI_clamp (by omega), nI_1]
  obtain ⟨s2, es2⟩ : ∃ s2, s2 = up (up s1 51 sz (ag 1)) 48 6 (nI (sz + 1)) := ⟨_, rfl⟩
  rw [← es2] at c2
  have row : ∀ a, a ≠ 31 → a ≠ 32 → a ≠ 48 → a ≠ 51 → s2 a = st a := fun a ha hb hc hd => by
    rw [es2, m_up_row _ _ _ _ hc, m_up_row _ _ _ _ hd, es1, m_up_row _ _ _ _ ha, m_up_row _ _ _ _ hb]
  have sl : ∀ j, j ≠ 6 → s2 48 j = st 48 j := fun j hj => by
    rw [es2, m_up, if_pos rfl, if_neg hj, m_up_row _ _ _ _ (by decide), r48]
  refine ⟨T, s2, ⟨rfl, _, s1, c1, c2⟩, h1, ⟨?_, fun j hj => ?_⟩, I_tx_fr h3 (by rw [row 0 (by omega) (by omega) (by omega) (by omega)]) (sl 3 (by omega)) (fun a ha => row a (by omega) (by omega) (by omega) (by omega)), ⟨sz + 1, by omega, ?_, ?_, fun j hj => ?_⟩, I_sh_fr h5 (fun a ha => row a (by omega) (by omega) (by omega) (by omega)), h, ⟨hw, h9, ?_, ?_⟩, ?_⟩
  · rw [row 11 (by omega) (by omega) (by omega) (by omega)]; exact h2.1
  · rw [row 36 (by omega) (by omega) (by omega) (by omega)]; exact h2.2 j hj
  · rw [es2, m_up_row _ _ _ _ (by decide), m_up_row _ _ _ _ (by decide), es1]; simp [m_up]
  · rw [es2]; simp [m_up]
  · have a1 : s2 32 j = if j = sz then ag 1 else st 32 j := by
      rw [es2, m_up_row _ _ _ _ (by decide), m_up_row _ _ _ _ (by decide), es1, m_up_row _ _ _ _ (by decide), m_up, if_pos rfl]
    have a2 : s2 51 j = if j = sz then ag 1 else st 51 j := by
      rw [es2, m_up_row _ _ _ _ (by decide), m_up, if_pos rfl, es1, m_up_row _ _ _ _ (by decide), m_up_row _ _ _ _ (by decide)]
    rw [a1, a2]
    by_cases e : j = sz
    · rw [if_pos e, if_pos e]; exact ⟨rfl, q1⟩
    · rw [if_neg e, if_neg e]; exact t3 j (by omega)
  · exact m_HC_eq hc (row _ (by omega) (by omega) (by omega) (by omega)) (row _ (by omega) (by omega) (by omega) (by omega)) (row _ (by omega) (by omega) (by omega) (by omega)) (row _ (by omega) (by omega) (by omega) (by omega)) (row _ (by omega) (by omega) (by omega) (by omega))
  · exact m_HR_eq hr (fun j hj => sl j (by omega)) (fun a ha => row a (by omega) (by omega) (by omega) (by omega))
  · exact I_im_fr him (by rw [row 0 (by omega) (by omega) (by omega) (by omega)]) (fun j hj => sl j (by omega)) (fun a ha => row a (by omega) (by omega) (by omega) (by omega))
/-- one number of the house becomes another one, in both -/
theorem Inv_set {T : Nat} {st : px_S} {h : px_H} (hI : Inv T st) (hh : I_ho T st h) (him : I_im T st h) (i sl v : Nat) (hi : 5 ≤ i ∧ i ≤ 9) (hsl : sl = (if i = 9 then 4 else i + 7)) (hw : m_HW (hu h i 0 v)) (h9 : (hu h i 0 v) 9 0 ≤ T) : Inv T (up (up st 1 i (nI v)) 48 sl (nI v)) := by
  obtain ⟨_, _, hc, hr⟩ := hh
  have row : ∀ a, a ≠ 1 → a ≠ 48 → (up (up st 1 i (nI v)) 48 sl (nI v)) a = st a := fun a ha hb => by rw [m_up_row _ _ _ _ hb, m_up_row _ _ _ _ ha]
  have r1 : ∀ j, (up (up st 1 i (nI v)) 48 sl (nI v)) 1 j = if j = i then nI v else st 1 j := fun j => by rw [m_up_row _ _ _ _ (by decide), m_up, if_pos rfl]
  have r48 : ∀ j, (up (up st 1 i (nI v)) 48 sl (nI v)) 48 j = if j = sl then nI v else st 48 j := fun j => by rw [m_up, if_pos rfl, m_up_row _ _ _ _ (by decide)]
  have n4 : (hu h i 0 v) 4 0 = h 4 0 := by unfold hu; rw [if_neg (by omega)]
  have n0 : (hu h i 0 v) 0 = h 0 := by funext y; unfold hu; rw [if_neg (by omega)]
  have n1 : (hu h i 0 v) 1 = h 1 := by funext y; unfold hu; rw [if_neg (by omega)]
  have n2 : (hu h i 0 v) 2 = h 2 := by funext y; unfold hu; rw [if_neg (by omega)]
  have n3 : (hu h i 0 v) 3 = h 3 := by funext y; unfold hu; rw [if_neg (by omega)]
  have nx : ∀ x, (hu h i 0 v) x 0 = if x = i then v else h x 0 := fun x => by
    unfold hu
    by_cases e : x = i
    · rw [if_pos e, if_pos rfl, if_pos e]
    · rw [if_neg e, if_neg e]
  have hsl2 : sl = 4 ∨ 12 ≤ sl ∧ sl ≤ 15 := by
    by_cases e : i = 9
    · rw [if_pos e] at hsl; omega
    · rw [if_neg e] at hsl; omega
  refine Inv_ho (h := h) (h' := hu h i 0 v) hI him (fun a ha => ?_) (fun j hj => ?_) ⟨hw, h9, ?_, ?_⟩ (by rw [n4]; exact Nat.le_refl _) (fun j _ => by rw [n0])
  · simp only [List.mem_cons, List.not_mem_nil, or_false, not_or] at ha
    exact row a (by omega) (by omega)
  · rw [r48, if_neg (by omega)]
  · obtain ⟨k4, k5, k6, k7, k8, k9, kr, kl, ko⟩ := hc
    have val : ∀ x, 5 ≤ x → x ≤ 9 → st 1 x = nI (h x 0) → (if x = i then nI v else st 1 x) = nI (if x = i then v else h x 0) := fun x _ _ e => by
      by_cases c : x = i
      · rw [if_pos c, if_pos c]
      · rw [if_neg c, if_neg c]; exact e
    unfold m_HC
    rw [r1, r1, r1, r1, r1, r1, n4, n0, n1, n2, n3, nx, nx, nx, nx, nx, row (1 + 1) (by omega) (by omega), row (1 + 2) (by omega) (by omega), row (1 + 3) (by omega) (by omega), row (1 + 4) (by omega) (by omega), if_neg (show ¬ 4 = i by omega)]
    exact ⟨k4, val 5 (by omega) (by omega) k5, val 6 (by omega) (by omega) k6, val 7 (by omega) (by omega) k7, val 8 (by omega) (by omega) k8, val 9 (by omega) (by omega) k9, kr, kl, ko⟩
  · obtain ⟨k4, k5, k6, k7, k8, k9, kr, kl, ko⟩ := hr
    have val : ∀ x s, 5 ≤ x → x ≤ 9 → s = (if x = 9 then 4 else x + 7) → st 48 s = nI (h x 0) → (if s = sl then nI v else st 48 s) = nI (if x = i then v else h x 0) := fun x s _ _ es e => by
      by_cases c : x = i
      · rw [if_pos (by rw [es, hsl, c]), if_pos c]
      · rw [if_neg c, if_neg (fun g => c ?_)]
        · exact e
        · rw [es, hsl] at g
          by_cases a : x = 9 <;> by_cases b : i = 9
          · rw [a, b]
          · rw [if_pos a, if_neg b] at g; omega
          · rw [if_neg a, if_pos b] at g; omega
          · rw [if_neg a, if_neg b] at g; omega
    unfold m_HR
    rw [r48, r48, r48, r48, r48, r48, n4, n0, n1, n2, n3, nx, nx, nx, nx, nx, row 52 (by omega) (by omega), row 53 (by omega) (by omega), row 54 (by omega) (by omega), row 55 (by omega) (by omega), if_neg (show ¬ 11 = sl by omega)]
    exact ⟨k4, val 5 12 (by omega) (by omega) rfl k5, val 6 13 (by omega) (by omega) rfl k6, val 7 14 (by omega) (by omega) rfl k7, val 8 15 (by omega) (by omega) rfl k8, val 9 4 (by omega) (by omega) rfl k9, kr, kl, ko⟩
theorem op_force {T : Nat} {st : px_S} (ag : px_ag) (hI : Inv T st) : ∃ T2 st2, px_op7 T st ag T2 st2 ∧ Inv T2 st2 := by
  have hI0 := hI
  obtain ⟨h1, h2, h3, h4, h5, h, ⟨hw, h9, hc, hr⟩, him⟩ := hI
  have e1 : (nI (T + 1) - 1).toInt = ((T + 1 : Nat) : Int) - 1 := pk_sub_toInt (a := T + 1) (b := 1) (by omega) (by omega)
  have e2 : (nI (T + 1)).toInt = ((T + 1 : Nat) : Int) := nI_toInt (by omega)
  have hi := m_i (ag 1) 0 (nI (T + 1) - 1) (A := 0) (B := (nI (T + 1) - 1).toInt64) rfl rfl
  have hlt : ag 1 < nI (T + 1) ↔ ¬ (nI (T + 1) - 1) < ag 1 := by rw [Int32.lt_iff_toInt_lt, Int32.lt_iff_toInt_lt]; omega
  by_cases q1 : ag 1 < 0
  · exact ⟨T, st, ⟨rfl, -2, st, by rw [f_X5_force, if_pos q1], by rw [f_X6_force, h3.2.1, if_pos (hi.mpr (Or.inl q1))]⟩, hI0⟩
  by_cases q2 : (nI (T + 1) - 1) < ag 1
  · exact ⟨T, st, ⟨rfl, -2, st, by rw [f_X5_force, if_neg q1, h3.1, if_neg (fun g => hlt.mp g q2)], by rw [f_X6_force, h3.2.1, if_pos (hi.mpr (Or.inr q2))]⟩, hI0⟩
  obtain ⟨v, hv, ev⟩ := m_rng (n := T + 1) (by omega) q1 (hlt.mpr q2)
  have k9 := hc.2.2.2.2.2.1
  have l9 := hr.2.2.2.2.2.1
  refine ⟨T, up (up st 1 9 (nI v)) 48 4 (nI v), ⟨rfl, nI (h 9 0), up st 1 9 (nI v), ?_, ?_⟩, Inv_set hI0 ⟨hw, h9, hc, hr⟩ him 9 4 v (by omega) rfl hw (show v ≤ T by omega)⟩
  · rw [f_X5_force, if_neg q1, h3.1, if_pos (hlt.mpr q2), k9, ev]
  · rw [f_X6_force, m_up_row _ _ _ _ (by decide), h3.2.1, if_neg (fun g => (hi.mp g).elim q1 q2), l9, ev]
